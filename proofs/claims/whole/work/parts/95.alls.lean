/-! all, conditions: both parsers in step -/
section PB
variable {B : Nat → Nat} {n la : Nat}
theorem allM_w {p m : Nat} {σ : Sg} (h : WRM B n p σ) (RM : Sg → Option Sg) : f_X12_all_l4 RM (m + 1) σ = some σ := by
  show f_X12_all_b4 RM (f_X12_all_l4 RM m) σ = _
  unfold f_X12_all_b4
  rw [word_w h, bnd_some, if_pos (by decide)]
theorem allC_w {p m : Nat} {σ : Sg} (h : WRC B n la p σ) (RC : Int32 → Sg → Option Sg) (x i : Int32) : f_X8_readAll_l7 RC x (m + 1) i σ = some σ := by
  show f_X8_readAll_b7 RC (f_X8_readAll_l7 RC x m) x i σ = _
  unfold f_X8_readAll_b7
  rw [if_neg (show ¬ f_X8_isStill σ = true by rw [stillC_w h]; decide), ite_self]
theorem eq_all_l {o : Nat} {RM : Sg → Option Sg} {RC : Int32 → Sg → Option Sg} (hw : RecW B n RM) (ih : o < 3 → CondIH B n la (o + 1) RM RC) (ho : o ≤ 3) {j0 : Nat} {lm lc : List Int32} (hm : lm.length ≤ j0) (hc : lc.length ≤ j0) : ∀ (d j i m1 m2 : Nat) (l1 c1 : List Int32) (φ1 : Fct → Bool) (σM σC : Sg), j + d = la → d < m1 → d < m2 → i ≤ j → j0 < j → 1 ≤ l1.length → j0 + l1.length ≤ j → j0 + c1.length ≤ j → OKM B n j o (lm ++ l1) σM → OKC B n la j (lc ++ c1) σC → SemM l1 φ1 → SemC (8 - 2 * o) c1 φ1 →
    Out B n la j0 o lm lc (8 - 2 * o) false σM σC (f_X12_all_l4 RM m1 σM) (f_X8_readAll_l7 RC (nI o) m2 (nI i) σC)
  | d, j, i, 0, m2, l1, c1, φ1, σM, σC, _, h, _, _, _, _, _, _, _, _, _, _ => absurd h (by omega)
  | d, j, i, m1 + 1, 0, l1, c1, φ1, σM, σC, _, _, h, _, _, _, _, _, _, _, _, _ => absurd h (by omega)
  | d, j, i, m1 + 1, m2 + 1, l1, c1, φ1, σM, σC, hd, k1, k2, hi, hj0, hl1, hjl, hjc, h, g, s1, s2 => by
    obtain ⟨l200, jla⟩ := la_b g
    have tt := tk_top (B := B) (n := n) (s := stN B n j)
    have lml : (lm ++ l1).length = lm.length + l1.length := List.length_append
    have lcl : (lc ++ c1).length = lc.length + c1.length := List.length_append
    have b0 : bb false = 0 := rfl
    show Out B n la j0 o lm lc (8 - 2 * o) false σM σC (f_X12_all_b4 RM (f_X12_all_l4 RM m1) σM) (f_X8_readAll_b7 RC (f_X8_readAll_l7 RC (nI o) m2) (nI o) (nI i) σC)
    unfold f_X12_all_b4 f_X8_readAll_b7
    rw [word_ok h, bnd_some]
    have t16 : nI (tkV B n (stN B n j)) = 16 ↔ tkV B n (stN B n j) = 16 := nI_eq (b := 16) (by omega) (by decide)
    by_cases q : tkV B n (stN B n j) = 16
    · have hj := jl g (by omega)
      obtain ⟨σ1, a1, a2, a3⟩ := wM_1 h
      obtain ⟨τ1, e1, e2, e3⟩ := pC_1 g hj
      obtain ⟨σ2, τ2, f1, f2, f3, f4, R⟩ := eq_one hw ih ho a2 e2 (by omega) (by omega)
      rw [if_neg (show ¬ ¬ lg_cmp (lN (wdV B n (stN B n j))) (1476 : Int64) = 0 from fun z => z (tw16.mpr q)), if_neg (show ¬ (200 : Int32) ≤ nI i from nI_ge (b := 200) (by omega) (by decide)), if_pos (stillC g), tokC g, bnd_some, if_neg (show ¬ ¬ nI (tkV B n (stN B n j)) = 16 from fun z => z (t16.mpr q)), a1, bnd_some, f1, bnd_some, e1, bnd_some, f2, bnd_some, nI_1]
      obtain ⟨m1', rfl⟩ : ∃ m, m1 = m + 1 := ⟨m1 - 1, by omega⟩
      obtain ⟨m2', rfl⟩ : ∃ m, m2 = m + 1 := ⟨m2 - 1, by omega⟩
      rcases R with ⟨p, w1, w2⟩ | ⟨j', lm', lc', φ, h1, h2, h3, h4, h5, h6, h7, h8⟩
      · obtain ⟨τ3, x1, x2, x3⟩ := aC_w w2 16
        rw [wrM_w w1, bnd_some, x1, bnd_some, allM_w w1, allC_w x2]
        exact ⟨σ2, τ3, rfl, rfl, a3.tr f3, e3.tr (f4.tr x3), Or.inl ⟨p, w1, x2⟩⟩
      · obtain ⟨l200', jla'⟩ := la_b h6
        have ll : (lm ++ l1 ++ lm').length = lm.length + l1.length + lm'.length := by rw [List.length_append, lml]
        have lk : (lc ++ c1 ++ lc').length = lc.length + c1.length + lc'.length := by rw [List.length_append, lcl]
        obtain ⟨σ3, y1, y2, y3⟩ := wrM h5 (by omega) (-21)
        obtain ⟨τ3, x1, x2, x3⟩ := aC h6 (by omega) 16
        rw [y1, bnd_some, x1, bnd_some]
        have r1 : (l1 ++ lm' ++ [(-21 : Int32)]).length = l1.length + lm'.length + 1 := by rw [List.length_append, List.length_append]; rfl
        have r2 : (c1 ++ lc' ++ [(16 : Int32)]).length = c1.length + lc'.length + 1 := by rw [List.length_append, List.length_append]; rfl
        have y2' : OKM B n j' o (lm ++ (l1 ++ lm' ++ [-21])) σ3 := by rw [← List.append_assoc, ← List.append_assoc]; exact y2
        have x2' : OKC B n la j' (lc ++ (c1 ++ lc' ++ [16])) τ3 := by rw [← List.append_assoc, ← List.append_assoc]; exact x2
        obtain ⟨σ4, τ4, z1, z2, z3, z4, R⟩ := eq_all_l hw ih ho hm hc (la - j') j' (i + 1) (m1' + 1) (m2' + 1) (l1 ++ lm' ++ [-21]) (c1 ++ lc' ++ [16]) _ σ3 τ3 (by omega) (by omega) (by omega) (by omega) (by omega) (by omega) (by omega) (by omega) y2' x2' (semM_bin (op := fun a b => a && b) hl1 h2 (by decide) (by decide) hold_and s1 h7) (semC_bin (op := fun a b => a && b) (Nat.le_refl _) (D2 := (7 - 2 * o)) (by omega) (by omega) (by omega) s2 h8 step_and)
        exact ⟨σ4, τ4, z1, z2, a3.tr (f3.tr (y3.tr z3)), e3.tr (f4.tr (x3.tr z4)), R⟩
    · rw [if_pos (show ¬ lg_cmp (lN (wdV B n (stN B n j))) (1476 : Int64) = 0 from fun z => q (tw16.mp z)), if_pos (stillC g), tokC g, bnd_some, if_pos (show ¬ nI (tkV B n (stN B n j)) = 16 from fun z => q (t16.mp z)), ite_self]
      exact ⟨σM, σC, rfl, rfl, frm.rf σM, frc.rf σC, Or.inr ⟨j, l1, c1, φ1, hj0, hl1, by omega, by omega, h, g, s1, s2⟩⟩
theorem eq_all {j o : Nat} {RM : Sg → Option Sg} {RC : Int32 → Sg → Option Sg} (hw : RecW B n RM) (ih : o < 3 → CondIH B n la (o + 1) RM RC) (ho : o ≤ 3) {lm lc : List Int32} {σM σC : Sg} (h : OKM B n j o lm σM) (g : OKC B n la j lc σC) (hm : lm.length ≤ j) (hc : lc.length ≤ j) : Out B n la j o lm lc (8 - 2 * o) false σM σC (f_X12_all RM σM) (f_X8_readAll RC (nI o) σC) := by
  obtain ⟨l200, jla⟩ := la_b g
  have b0 : bb false = 0 := rfl
  obtain ⟨σ2, τ2, f1, f2, f3, f4, R⟩ := eq_one hw ih ho h g hm hc
  unfold f_X12_all f_X8_readAll
  rw [f1, bnd_some, f2, bnd_some]
  rcases R with ⟨p, w1, w2⟩ | ⟨j', lm', lc', φ, h1, h2, h3, h4, h5, h6, h7, h8⟩
  · exact ⟨σ2, τ2, allM_w w1 RM, allC_w w2 RC (nI o) 0, f3, f4, Or.inl ⟨p, w1, w2⟩⟩
  · obtain ⟨l200', jla'⟩ := la_b h6
    obtain ⟨σ4, τ4, z1, z2, z3, z4, R⟩ := eq_all_l hw ih ho hm hc (la - j') j' 0 400 400 lm' lc' φ σ2 τ2 (by omega) (by omega) (by omega) (by omega) h1 h2 (by omega) (by omega) h5 h6 h7 (h8.up (by omega))
    exact ⟨σ4, τ4, z1, z2, f3.tr z3, f4.tr z4, R⟩
theorem cndM_w {p m : Nat} {σ : Sg} (h : WRM B n p σ) (RM : Sg → Option Sg) : f_X12_condition_l12 RM (m + 1) σ = some σ := by
  show f_X12_condition_b12 RM (f_X12_condition_l12 RM m) σ = _
  unfold f_X12_condition_b12
  rw [word_w h, bnd_some, if_pos (by decide)]
theorem cndC_w {p m : Nat} {σ : Sg} (h : WRC B n la p σ) (RC : Int32 → Sg → Option Sg) (x i : Int32) : f_X8_readAny_l7 RC x (m + 1) i σ = some σ := by
  show f_X8_readAny_b7 RC (f_X8_readAny_l7 RC x m) x i σ = _
  unfold f_X8_readAny_b7
  rw [if_neg (show ¬ f_X8_isStill σ = true by rw [stillC_w h]; decide), ite_self]
theorem eq_cnd_l {o : Nat} {RM : Sg → Option Sg} {RC : Int32 → Sg → Option Sg} (hw : RecW B n RM) (ih : o < 3 → CondIH B n la (o + 1) RM RC) (ho : o ≤ 3) {j0 : Nat} {lm lc : List Int32} (hm : lm.length ≤ j0) (hc : lc.length ≤ j0) : ∀ (d j i m1 m2 : Nat) (l1 c1 : List Int32) (φ1 : Fct → Bool) (σM σC : Sg), j + d = la → d < m1 → d < m2 → i ≤ j → j0 < j → 1 ≤ l1.length → j0 + l1.length ≤ j → j0 + c1.length ≤ j → OKM B n j o (lm ++ l1) σM → OKC B n la j (lc ++ c1) σC → SemM l1 φ1 → SemC (9 - 2 * o) c1 φ1 →
    Out B n la j0 o lm lc (9 - 2 * o) false σM σC (f_X12_condition_l12 RM m1 σM) (f_X8_readAny_l7 RC (nI o) m2 (nI i) σC)
  | d, j, i, 0, m2, l1, c1, φ1, σM, σC, _, h, _, _, _, _, _, _, _, _, _, _ => absurd h (by omega)
  | d, j, i, m1 + 1, 0, l1, c1, φ1, σM, σC, _, _, h, _, _, _, _, _, _, _, _, _ => absurd h (by omega)
  | d, j, i, m1 + 1, m2 + 1, l1, c1, φ1, σM, σC, hd, k1, k2, hi, hj0, hl1, hjl, hjc, h, g, s1, s2 => by
    obtain ⟨l200, jla⟩ := la_b g
    have tt := tk_top (B := B) (n := n) (s := stN B n j)
    have lml : (lm ++ l1).length = lm.length + l1.length := List.length_append
    have lcl : (lc ++ c1).length = lc.length + c1.length := List.length_append
    have b0 : bb false = 0 := rfl
    show Out B n la j0 o lm lc (9 - 2 * o) false σM σC (f_X12_condition_b12 RM (f_X12_condition_l12 RM m1) σM) (f_X8_readAny_b7 RC (f_X8_readAny_l7 RC (nI o) m2) (nI o) (nI i) σC)
    unfold f_X12_condition_b12 f_X8_readAny_b7
    rw [word_ok h, bnd_some]
    have t16 : nI (tkV B n (stN B n j)) = 15 ↔ tkV B n (stN B n j) = 15 := nI_eq (b := 15) (by omega) (by decide)
    by_cases q : tkV B n (stN B n j) = 15
    · have hj := jl g (by omega)
      obtain ⟨σ1, a1, a2, a3⟩ := wM_1 h
      obtain ⟨τ1, e1, e2, e3⟩ := pC_1 g hj
      obtain ⟨σ2, τ2, f1, f2, f3, f4, R⟩ := eq_all hw ih ho a2 e2 (by omega) (by omega)
      rw [if_neg (show ¬ ¬ lg_cmp (lN (wdV B n (stN B n j))) (498 : Int64) = 0 from fun z => z (tw15.mpr q)), if_neg (show ¬ (200 : Int32) ≤ nI i from nI_ge (b := 200) (by omega) (by decide)), if_pos (stillC g), tokC g, bnd_some, if_neg (show ¬ ¬ nI (tkV B n (stN B n j)) = 15 from fun z => z (t16.mpr q)), a1, bnd_some, f1, bnd_some, e1, bnd_some, f2, bnd_some, nI_1]
      obtain ⟨m1', rfl⟩ : ∃ m, m1 = m + 1 := ⟨m1 - 1, by omega⟩
      obtain ⟨m2', rfl⟩ : ∃ m, m2 = m + 1 := ⟨m2 - 1, by omega⟩
      rcases R with ⟨p, w1, w2⟩ | ⟨j', lm', lc', φ, h1, h2, h3, h4, h5, h6, h7, h8⟩
      · obtain ⟨τ3, x1, x2, x3⟩ := aC_w w2 15
        rw [wrM_w w1, bnd_some, x1, bnd_some, cndM_w w1, cndC_w x2]
        exact ⟨σ2, τ3, rfl, rfl, a3.tr f3, e3.tr (f4.tr x3), Or.inl ⟨p, w1, x2⟩⟩
      · obtain ⟨l200', jla'⟩ := la_b h6
        have ll : (lm ++ l1 ++ lm').length = lm.length + l1.length + lm'.length := by rw [List.length_append, lml]
        have lk : (lc ++ c1 ++ lc').length = lc.length + c1.length + lc'.length := by rw [List.length_append, lcl]
        obtain ⟨σ3, y1, y2, y3⟩ := wrM h5 (by omega) (-22)
        obtain ⟨τ3, x1, x2, x3⟩ := aC h6 (by omega) 15
        rw [y1, bnd_some, x1, bnd_some]
        have r1 : (l1 ++ lm' ++ [(-22 : Int32)]).length = l1.length + lm'.length + 1 := by rw [List.length_append, List.length_append]; rfl
        have r2 : (c1 ++ lc' ++ [(15 : Int32)]).length = c1.length + lc'.length + 1 := by rw [List.length_append, List.length_append]; rfl
        have y2' : OKM B n j' o (lm ++ (l1 ++ lm' ++ [-22])) σ3 := by rw [← List.append_assoc, ← List.append_assoc]; exact y2
        have x2' : OKC B n la j' (lc ++ (c1 ++ lc' ++ [15])) τ3 := by rw [← List.append_assoc, ← List.append_assoc]; exact x2
        obtain ⟨σ4, τ4, z1, z2, z3, z4, R⟩ := eq_cnd_l hw ih ho hm hc (la - j') j' (i + 1) (m1' + 1) (m2' + 1) (l1 ++ lm' ++ [-22]) (c1 ++ lc' ++ [15]) _ σ3 τ3 (by omega) (by omega) (by omega) (by omega) (by omega) (by omega) (by omega) (by omega) y2' x2' (semM_bin (op := fun a b => a || b) hl1 h2 (by decide) (by decide) hold_or s1 h7) (semC_bin (op := fun a b => a || b) (Nat.le_refl _) (D2 := (8 - 2 * o)) (by omega) (by omega) (by omega) s2 h8 step_or)
        exact ⟨σ4, τ4, z1, z2, a3.tr (f3.tr (y3.tr z3)), e3.tr (f4.tr (x3.tr z4)), R⟩
    · rw [if_pos (show ¬ lg_cmp (lN (wdV B n (stN B n j))) (498 : Int64) = 0 from fun z => q (tw15.mp z)), if_pos (stillC g), tokC g, bnd_some, if_pos (show ¬ nI (tkV B n (stN B n j)) = 15 from fun z => q (t16.mp z)), ite_self]
      exact ⟨σM, σC, rfl, rfl, frm.rf σM, frc.rf σC, Or.inr ⟨j, l1, c1, φ1, hj0, hl1, by omega, by omega, h, g, s1, s2⟩⟩
theorem cond_w {p m : Nat} {σ : Sg} (h : WRM B n p σ) : f_X12_condition (m + 1) σ = some σ := by
  show f_X12_condition_s (f_X12_condition m) σ = _
  unfold f_X12_condition_s
  rw [if_neg (show ¬ σ 0 27 = 0 by rw [h.2.1]; decide)]
theorem eq_cond : ∀ m o, o ≤ 3 → 4 - o < m → CondIH B n la o (f_X12_condition m) (f_X8_readAny m)
  | 0, o, _, hm => absurd hm (by omega)
  | m + 1, o, ho, hm => by
    intro j lm lc σM σC h g hl hc
    obtain ⟨l200, jla⟩ := la_b g
    have b0 : bb false = 0 := rfl
    have hw : RecW B n (f_X12_condition m) := fun p σ w => by
      obtain ⟨m', rfl⟩ : ∃ m', m = m' + 1 := ⟨m - 1, by omega⟩
      exact ⟨σ, cond_w w, w, frm.rf σ⟩
    have ih : o < 3 → CondIH B n la (o + 1) (f_X12_condition m) (f_X8_readAny m) := fun q => eq_cond m (o + 1) (by omega) (by omega)
    obtain ⟨σ2, τ2, f1, f2, f3, f4, R⟩ := eq_all hw ih ho h g hl hc
    show Out B n la j o lm lc (9 - 2 * o) false σM σC (f_X12_condition_s (f_X12_condition m) σM) (f_X8_readAny_s (f_X8_readAny m) (nI o) σC)
    unfold f_X12_condition_s f_X8_readAny_s
    rw [if_pos h.2.1.1, f1, bnd_some, f2, bnd_some]
    rcases R with ⟨p, w1, w2⟩ | ⟨j', lm', lc', φ, h1, h2, h3, h4, h5, h6, h7, h8⟩
    · exact ⟨σ2, τ2, cndM_w w1 _, cndC_w w2 _ (nI o) 0, f3, f4, Or.inl ⟨p, w1, w2⟩⟩
    · obtain ⟨l200', jla'⟩ := la_b h6
      obtain ⟨σ4, τ4, z1, z2, z3, z4, R⟩ := eq_cnd_l hw ih ho hl hc (la - j') j' 0 400 400 lm' lc' φ σ2 τ2 (by omega) (by omega) (by omega) (by omega) h1 h2 (by omega) (by omega) h5 h6 h7 (h8.up (by omega))
      exact ⟨σ4, τ4, z1, z2, f3.tr z3, f4.tr z4, R⟩
end PB
