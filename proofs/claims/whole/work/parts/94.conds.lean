/-! conditions: both parsers in step -/
def bb (b : Bool) : Nat := if b = true then 1 else 0
theorem bb_le (b : Bool) : bb b ≤ 1 := bit_b b
def Out (B : Nat → Nat) (n la j o : Nat) (lm lc : List Int32) (D : Nat) (b : Bool) (σM σC : Sg) (M C : Option Sg) : Prop := ∃ σM' σC', M = some σM' ∧ C = some σC' ∧ frm σM σM' ∧ frc σC σC' ∧ ((∃ p, WRM B n p σM' ∧ WRC B n la p σC') ∨
  ∃ j' lm' lc' φ, j < j' ∧ 1 ≤ lm'.length ∧ j + lm'.length ≤ j' + bb b ∧ j + lc'.length ≤ j' + bb b ∧ OKM B n j' o (lm ++ lm') σM' ∧ OKC B n la j' (lc ++ lc') σC' ∧ SemM lm' φ ∧ SemC D lc' φ)
theorem jl {B : Nat → Nat} {n la j : Nat} {lc : List Int32} {σ : Sg} (h : OKC B n la j lc σ) (t : ¬ tkV B n (stN B n j) = 27) : j < la := by
  refine Nat.lt_of_le_of_ne h.2.1 (fun e => t ?_)
  rw [e, h.1.2.2.1]
  exact tk_n (by omega)
theorem la_b {B : Nat → Nat} {n la j : Nat} {lc : List Int32} {σ : Sg} (h : OKC B n la j lc σ) : la ≤ 200 ∧ j ≤ la := ⟨Nat.le_trans h.1.2.1 h.1.1, h.2.1⟩
section PA
variable {B : Nat → Nat} {n la : Nat}
theorem b48_w {p : Nat} {σ : Sg} (h : WRM B n p σ) (x t : Int32) : ∃ σ', f_X12_comparison_b48 x t σ = some σ' ∧ WRM B n p σ' ∧ frm σ σ' := by
  obtain ⟨σ1, p1, p2, p3⟩ := wM_w h t
  unfold f_X12_comparison_b48
  rw [p1, bnd_some, m_value_w p2, bnd_some, wrM_w p2, wrM_w p2, wrM_w p2]
  simp only [bnd_some]
  refine ⟨σ1, ?_, p2, p3⟩
  split
  · split <;> rfl
  · rfl
theorem b23_w {p : Nat} {σ : Sg} (h : WRM B n p σ) (x : Int32) : ∃ σ', f_X12_comparison_b23 x σ = some σ' ∧ WRM B n p σ' ∧ frm σ σ' := by
  unfold f_X12_comparison_b23
  split
  · exact b48_w h _ _
  · split
    · exact b48_w h _ _
    · split
      · exact b48_w h _ _
      · exact b48_w h _ _
theorem cmpM_w {p : Nat} {σ : Sg} (h : WRM B n p σ) : ∃ σ', f_X12_comparison σ = some σ' ∧ WRM B n p σ' ∧ frm σ σ' := by
  unfold f_X12_comparison
  rw [m_value_w h, bnd_some, if_neg (show ¬ σ 0 27 = 0 by rw [h.2.1]; decide)]
  exact b23_w h _
theorem t3_w {p : Nat} {σ : Sg} (h : WRC B n la p σ) (v1 v3 v5 : Int32) : ∃ σ', (Option.bind (f_X9_addCode v3 σ) fun σ7 => Option.bind (f_X9_addCode (f_X8_operandOf v1 σ7) σ7) fun σ8 => Option.bind (f_X9_addCode (f_X8_operandOf v5 σ8) σ8) fun σ9 => some σ9) = some σ' ∧ WRC B n la p σ' ∧ frc σ σ' := by
  obtain ⟨σ1, a1, a2, a3⟩ := aC_w h v3
  obtain ⟨σ2, b1, b2, b3⟩ := aC_w a2 (f_X8_operandOf v1 σ1)
  obtain ⟨σ3, c1, c2, c3⟩ := aC_w b2 (f_X8_operandOf v5 σ2)
  rw [a1, bnd_some, b1, bnd_some, c1, bnd_some]
  exact ⟨σ3, rfl, c2, a3.tr (b3.tr c3)⟩
theorem t2_w {p : Nat} {σ : Sg} (h : WRC B n la p σ) (v1 v3 : Int32) : ∃ σ', (Option.bind (f_X8_token σ) fun vq5 => Option.bind (f_X8_pass (b2i (f_X8_isValue vq5 σ)) σ) fun σ6 => Option.bind (f_X9_addCode v3 σ6) fun σ7 => Option.bind (f_X9_addCode (f_X8_operandOf v1 σ7) σ7) fun σ8 => Option.bind (f_X9_addCode (f_X8_operandOf vq5 σ8) σ8) fun σ9 => some σ9) = some σ' ∧ WRC B n la p σ' ∧ frc σ σ' := by
  obtain ⟨j, -, e⟩ := tokC_w h
  rw [e, bnd_some, pC_w h, bnd_some]
  exact t3_w h _ _ _
theorem t1_w {p : Nat} {σ : Sg} (h : WRC B n la p σ) (v1 : Int32) : ∃ σ', (Option.bind (f_X8_token σ) fun vq3 => Option.bind (f_X8_pass (b2i (f_X11_within vq3 23 25 σ)) σ) fun σ4 => Option.bind (f_X8_token σ4) fun vq5 => Option.bind (f_X8_pass (b2i (f_X8_isValue vq5 σ4)) σ4) fun σ6 => Option.bind (f_X9_addCode vq3 σ6) fun σ7 => Option.bind (f_X9_addCode (f_X8_operandOf v1 σ7) σ7) fun σ8 => Option.bind (f_X9_addCode (f_X8_operandOf vq5 σ8) σ8) fun σ9 => some σ9) = some σ' ∧ WRC B n la p σ' ∧ frc σ σ' := by
  obtain ⟨j, -, e⟩ := tokC_w h
  rw [e, bnd_some, pC_w h, bnd_some]
  exact t2_w h _ _
theorem cmpC_w {p : Nat} {σ : Sg} (h : WRC B n la p σ) : ∃ σ', f_X8_readComparison σ = some σ' ∧ WRC B n la p σ' ∧ frc σ σ' := by
  unfold f_X8_readComparison
  obtain ⟨j, -, e⟩ := tokC_w h
  rw [e, bnd_some, pC_w h, bnd_some]
  exact t1_w h _
theorem b23_ok {j o : Nat} {lm : List Int32} {σ : Sg} (h : OKM B n j o lm σ) : ((tkV B n (stN B n j) = 23 ∨ tkV B n (stN B n j) = 24 ∨ tkV B n (stN B n j) = 25) → f_X12_comparison_b23 (chV B n (stN B n j)) σ = Option.bind (f_X12_wants 1 σ) fun σ3 => Option.bind (f_X12_valueHere σ3) fun σ4 => Option.bind (f_X12_writes (sgM (tkV B n (stN B n j))) σ4) fun σ5 => some σ5) ∧
    (¬ (tkV B n (stN B n j) = 23 ∨ tkV B n (stN B n j) = 24 ∨ tkV B n (stN B n j) = 25) → f_X12_comparison_b23 (chV B n (stN B n j)) σ = f_X12_comparison_b48 (chV B n (stN B n j)) 0 σ) := by
  have hB : ∀ i, i < 200 → B i < 256 := fun i hi => (h.1.2.1 i hi).1
  have c60 := ch_23 (s := stN B n j) hB h.1.1
  have c61 := ch_24 (s := stN B n j) hB h.1.1
  have c62 := ch_25 (s := stN B n j) hB h.1.1
  unfold f_X12_comparison_b23 f_X12_comparison_b48
  constructor
  · rintro (q | q | q)
    · rw [c60.mpr q, q, if_pos rfl]
      rfl
    · rw [c61.mpr q, q, if_neg (show ¬ (61 : Int32) = 60 by decide), if_pos rfl]
      rfl
    · rw [c62.mpr q, q, if_neg (show ¬ (62 : Int32) = 60 by decide), if_neg (show ¬ (62 : Int32) = 61 by decide), if_neg (show ¬ ¬ (62 : Int32) = 62 from fun z => z rfl)]
      rfl
  · intro q
    rw [if_neg (show ¬ chV B n (stN B n j) = 60 from fun z => q (Or.inl (c60.mp z))), if_neg (show ¬ chV B n (stN B n j) = 61 from fun z => q (Or.inr (Or.inl (c61.mp z)))), if_pos (show ¬ chV B n (stN B n j) = 62 from fun z => q (Or.inr (Or.inr (c62.mp z))))]
theorem ok_27 {t : Nat} (h : opOk t) : ¬ t = 27 := fun e => by unfold opOk at h; omega
theorem eq_cmp {j o : Nat} {lm lc : List Int32} {σM σC : Sg} (h : OKM B n j o lm σM) (g : OKC B n la j lc σC) (hm : lm.length ≤ j) (hc : lc.length ≤ j) : Out B n la j o lm lc 1 false σM σC (f_X12_comparison σM) (f_X8_readComparison σC) := by
  obtain ⟨l200, jla⟩ := la_b g
  unfold f_X12_comparison f_X8_readComparison
  rw [tokC g, bnd_some]
  obtain ⟨v1, v2⟩ := c_isValue (tk_top (B := B) (n := n) (s := stN B n j)) σC
  rcases m_value h (fun z => by have := jl g (ok_27 z); omega) with ⟨q, σ1, p1, p2, p3⟩ | ⟨q, σ1, p1, p2, p3⟩
  · obtain ⟨τ1, r1, r2, r3⟩ := pC_1 g (jl g (ok_27 q))
    rw [p1, bnd_some, v1 q, show f_X8_pass (b2i true) σC = some τ1 from r1, bnd_some, if_pos p2.2.1.1, byte_ok p2, bnd_some, tokC r2, bnd_some, show f_X11_within (nI (tkV B n (stN B n (j + 1)))) 23 25 τ1 = rng (nI (tkV B n (stN B n (j + 1)))) (nI 23) (nI 25) from c_in _ _ _ _, rng_dec (by have := tk_top (B := B) (n := n) (s := stN B n (j + 1)); omega) (by decide) (by decide)]
    by_cases q2 : tkV B n (stN B n (j + 1)) = 23 ∨ tkV B n (stN B n (j + 1)) = 24 ∨ tkV B n (stN B n (j + 1)) = 25
    · have j1 := jl r2 (by omega)
      obtain ⟨σ2, a1, a2, a3⟩ := wM_1 p2
      obtain ⟨τ2, b1, b2, b3⟩ := pC_1 r2 j1
      obtain ⟨w1, w2⟩ := c_isValue (tk_top (B := B) (n := n) (s := stN B n (j + 1 + 1))) τ2
      rw [(b23_ok p2).1 q2, a1, bnd_some, decide_eq_true (show 23 ≤ tkV B n (stN B n (j + 1)) ∧ tkV B n (stN B n (j + 1)) ≤ 25 by omega), show f_X8_pass (b2i true) τ1 = some τ2 from b1, bnd_some, tokC b2, bnd_some]
      have ll : (lm ++ [opM (tkV B n (stN B n j))]).length = lm.length + 1 := by rw [List.length_append]; rfl
      rcases m_value a2 (fun z => by have := jl b2 (ok_27 z); omega) with ⟨q3, σ3, c1, c2, c3⟩ | ⟨q3, σ3, c1, c2, c3⟩
      · have j2 := jl b2 (ok_27 q3)
        obtain ⟨τ3, d1, d2, d3⟩ := pC_1 b2 j2
        have ll2 : (lm ++ [opM (tkV B n (stN B n j))] ++ [opM (tkV B n (stN B n (j + 1 + 1)))]).length = lm.length + 2 := by rw [List.length_append, ll]; rfl
        obtain ⟨σ4, e1, e2, e3⟩ := wrM c2 (by omega) (sgM (tkV B n (stN B n (j + 1))))
        obtain ⟨τ4, f1, f2, f3⟩ := aC d2 (by omega) (nI (tkV B n (stN B n (j + 1))))
        obtain ⟨τ5, g1, g2, g3⟩ := aC f2 (by rw [List.length_append]; show lc.length + 1 < 200; omega) (opC (tkV B n (stN B n j)))
        obtain ⟨τ6, i1, i2, i3⟩ := aC g2 (by rw [List.length_append, List.length_append]; show lc.length + 1 + 1 < 200; omega) (opC (tkV B n (stN B n (j + 1 + 1))))
        rw [c1, bnd_some, e1, bnd_some, w1 q3, show f_X8_pass (b2i true) τ2 = some τ3 from d1, bnd_some, f1, bnd_some, c_operand q, g1, bnd_some, c_operand q3, i1, bnd_some]
        refine ⟨σ4, τ6, rfl, rfl, p3.tr (a3.tr (c3.tr e3)), r3.tr (b3.tr (d3.tr (f3.tr (g3.tr i3)))), Or.inr ⟨j + 1 + 1 + 1, [opM (tkV B n (stN B n j)), opM (tkV B n (stN B n (j + 1 + 1))), sgM (tkV B n (stN B n (j + 1)))], [nI (tkV B n (stN B n (j + 1))), opC (tkV B n (stN B n j)), opC (tkV B n (stN B n (j + 1 + 1)))], _, by omega, by show 1 ≤ 3; omega, by show j + 3 ≤ j + 1 + 1 + 1 + bb false; omega, by show j + 3 ≤ j + 1 + 1 + 1 + bb false; omega, ?_, ?_, semM_cmp q q3 q2, semC_cmp q q3 q2⟩⟩
        · rw [List.append_assoc, List.append_assoc] at e2
          exact e2
        · rw [List.append_assoc, List.append_assoc] at i2
          exact i2
      · obtain ⟨τ3, d1, d2, d3⟩ := pC_0 b2 (by omega)
        obtain ⟨τ4, f1, f2, f3⟩ := t3_w d2 (nI (tkV B n (stN B n j))) (nI (tkV B n (stN B n (j + 1)))) (nI (tkV B n (stN B n (j + 1 + 1))))
        rw [c1, bnd_some, wrM_w c2, bnd_some, w2 q3, show f_X8_pass (b2i false) τ2 = some τ3 from d1, bnd_some, f1]
        exact ⟨σ3, τ4, rfl, rfl, p3.tr (a3.tr c3), r3.tr (b3.tr (d3.tr f3)), Or.inl ⟨_, c2, f2⟩⟩
    · obtain ⟨σ2, a1, a2, a3⟩ := wM_0 p2
      obtain ⟨τ2, b1, b2, b3⟩ := pC_0 r2 (by omega)
      obtain ⟨τ3, d1, d2, d3⟩ := t2_w b2 (nI (tkV B n (stN B n j))) (nI (tkV B n (stN B n (j + 1))))
      rw [(b23_ok p2).2 q2, decide_eq_false (show ¬ (23 ≤ tkV B n (stN B n (j + 1)) ∧ tkV B n (stN B n (j + 1)) ≤ 25) by omega), show f_X8_pass (b2i false) τ1 = some τ2 from b1, bnd_some, d1]
      unfold f_X12_comparison_b48
      rw [a1, bnd_some, m_value_w a2, bnd_some, wrM_w a2, wrM_w a2, wrM_w a2]
      simp only [bnd_some]
      refine ⟨σ2, τ3, ?_, rfl, p3.tr a3, r3.tr (b3.tr d3), Or.inl ⟨_, a2, d2⟩⟩
      split
      · split <;> rfl
      · rfl
  · obtain ⟨τ1, r1, r2, r3⟩ := pC_0 g (by omega)
    obtain ⟨σ2, a1, a2, a3⟩ := b23_w p2 (-1)
    obtain ⟨τ2, d1, d2, d3⟩ := t1_w r2 (nI (tkV B n (stN B n j)))
    rw [p1, bnd_some, v2 q, show f_X8_pass (b2i false) σC = some τ1 from r1, bnd_some, if_neg (show ¬ σ1 0 27 = 0 by rw [p2.2.1]; decide), a1, d1]
    exact ⟨σ2, τ2, rfl, rfl, p3.tr a3, r3.tr d3, Or.inl ⟨_, a2, d2⟩⟩
/-! what ends one: the not that was told -/
theorem eq_fin {j o D : Nat} {b : Bool} {lm lc : List Int32} {σM σC : Sg} {M C : Option Sg} {RM : Sg → Option Sg} {RC : Int32 → Sg → Option Sg} (R : Out B n la j o lm lc D false σM σC M C) (hm : lm.length + bb b ≤ j) (hc : lc.length + bb b ≤ j) (hD : 1 ≤ D) :
    Out B n la j o lm lc D b σM σC (Option.bind M fun σ => f_X12_one_b128 RM (b2i b) σ) (Option.bind C fun σ => f_X8_readOne_b117 RC (b2i b) σ) := by
  obtain ⟨σ1, τ1, e1, e2, f1, f2, R⟩ := R
  rw [e1, e2, bnd_some, bnd_some]
  unfold f_X12_one_b128 f_X8_readOne_b117
  cases b with
  | false =>
    rw [if_pos (show b2i false = 0 from rfl), if_pos (show b2i false = 0 from rfl)]
    exact ⟨σ1, τ1, rfl, rfl, f1, f2, R⟩
  | true =>
    have b1 : bb true = 1 := rfl
    have b0 : bb false = 0 := rfl
    rw [if_neg (show ¬ b2i true = 0 by decide), if_neg (show ¬ b2i true = 0 by decide)]
    rcases R with ⟨p, w1, w2⟩ | ⟨j', lm', lc', φ, h1, h2, h3, h4, h5, h6, h7, h8⟩
    · obtain ⟨τ2, a1, a2, a3⟩ := aC_w w2 17
      rw [wrM_w w1, bnd_some, a1, bnd_some]
      exact ⟨σ1, τ2, rfl, rfl, f1, f2.tr a3, Or.inl ⟨p, w1, a2⟩⟩
    · obtain ⟨l200, jla⟩ := la_b h6
      have ll : (lm ++ lm').length = lm.length + lm'.length := List.length_append
      have lk : (lc ++ lc').length = lc.length + lc'.length := List.length_append
      obtain ⟨σ2, c1, c2, c3⟩ := wrM h5 (by omega) (-20)
      obtain ⟨τ2, a1, a2, a3⟩ := aC h6 (by omega) 17
      rw [c1, bnd_some, a1, bnd_some]
      rw [List.append_assoc] at c2 a2
      have l1 : (lm' ++ [(-20 : Int32)]).length = lm'.length + 1 := by rw [List.length_append]; rfl
      have l2 : (lc' ++ [(17 : Int32)]).length = lc'.length + 1 := by rw [List.length_append]; rfl
      exact ⟨σ2, τ2, rfl, rfl, f1.tr c3, f2.tr a3, Or.inr ⟨j', lm' ++ [-20], lc' ++ [17], _, h1, by omega, by omega, by omega, c2, a2, semM_not h7, semC_not hD h8⟩⟩
/-! in brackets -/
def parM (rec : Sg → Option Sg) (tq1 : Int32) (σ : Sg) : Option Sg :=
  Option.bind (f_X12_wants tq1 σ) fun σ8 =>
  lt (upS σ8 0 25 ((σ8 0 25) + 1)) fun σ9 =>
  Option.bind (rec σ9) fun σ10 =>
  lt (upS σ10 0 25 ((σ10 0 25) - 1)) fun σ11 =>
  if ¬ (σ11 0 27) = 0 then
    f_X12_wants 0 σ11
  else
    Option.bind (f_X12_byteAt (σ11 0 22) σ11) fun vq13 =>
    if ¬ vq13 = 41 then
      f_X12_wants 0 σ11
    else
      f_X12_wants 1 σ11
theorem b65_eq (rec : Sg → Option Sg) (x t : Int32) (σ : Sg) : f_X12_one_b65 rec x t σ = Option.bind (parM rec t σ) fun σ => f_X12_one_b128 rec x σ := by
  unfold f_X12_one_b65 parM
  cases f_X12_wants t σ with
  | none => rfl
  | some σ8 =>
    simp only [bnd_some, lt_ap]
    cases rec (upS σ8 0 25 ((σ8 0 25) + 1)) with
    | none => rfl
    | some σ10 =>
      simp only [bnd_some]
      split
      · rfl
      · cases f_X12_byteAt (upS σ10 0 25 (σ10 0 25 - 1) 0 22) (upS σ10 0 25 (σ10 0 25 - 1)) with
        | none => rfl
        | some v =>
          simp only [bnd_some]
          split <;> rfl
def parC2 (σ : Sg) : Option Sg :=
  Option.bind (f_X8_token σ) fun vq9 =>
  if ¬ vq9 = 22 then
    f_X8_pass 0 σ
  else
    f_X8_pass 1 σ
def parC (rec : Int32 → Sg → Option Sg) (xq1 : Int32) (tq1 : Int32) (σ : Sg) : Option Sg :=
  Option.bind (f_X8_pass tq1 σ) fun σ7 =>
  if (f_X8_isStill σ7) = true then
    Option.bind (rec (xq1 + 1) σ7) fun σ8 =>
    parC2 σ8
  else
    parC2 σ7
theorem b92_eq (rec : Int32 → Sg → Option Sg) (x : Int32) (σ : Sg) : f_X8_readOne_b92 rec x σ = Option.bind (parC2 σ) fun σ => f_X8_readOne_b117 rec x σ := by
  unfold f_X8_readOne_b92 parC2
  cases f_X8_token σ with
  | none => rfl
  | some v =>
    simp only [bnd_some]
    split <;> rfl
theorem b75_eq (rec : Int32 → Sg → Option Sg) (x1 x2 t : Int32) (σ : Sg) : f_X8_readOne_b75 rec x1 x2 t σ = Option.bind (parC rec x1 t σ) fun σ => f_X8_readOne_b117 rec x2 σ := by
  unfold f_X8_readOne_b75 parC
  cases f_X8_pass t σ with
  | none => rfl
  | some σ7 =>
    simp only [bnd_some]
    split
    · cases rec (x1 + 1) σ7 with
      | none => rfl
      | some σ8 => exact b92_eq rec x2 σ8
    · exact b92_eq rec x2 σ7
theorem parC2_w {p : Nat} {σ : Sg} (h : WRC B n la p σ) : parC2 σ = some σ := by
  obtain ⟨j, -, e⟩ := tokC_w h
  unfold parC2
  rw [e, bnd_some, pC_w h, pC_w h]
  split <;> rfl
theorem WRM.op {p : Nat} {σ : Sg} (h : WRM B n p σ) (v : Int32) : WRM B n p (upS σ 0 25 v) := by
  obtain ⟨t, e27, e22, e, e1, e2, e23⟩ := h
  exact ⟨t.up (by decide) _, by rw [upS_nj (by omega)]; exact e27, by rw [upS_nj (by omega)]; exact e22, e, e1, e2, by rw [upS_nj (by omega)]; exact e23⟩
theorem OKM.op {j o o' : Nat} {lm : List Int32} {σ : Sg} (h : OKM B n j o lm σ) : OKM B n j o' lm (upS σ 0 25 (nI o')) := by
  obtain ⟨t, ⟨e27, e22, e23, e25⟩, c⟩ := h
  exact ⟨t.up (by decide) _, ⟨by rw [upS_nj (by omega)]; exact e27, by rw [upS_nj (by omega)]; exact e22, by rw [upS_nj (by omega)]; exact e23, upS_at⟩, c.mono (upS_nj (by omega)) (fun i _ => by rw [upS_ne (by decide)])⟩
def RecW (B : Nat → Nat) (n : Nat) (RM : Sg → Option Sg) : Prop := ∀ p σ, WRM B n p σ → ∃ σ', RM σ = some σ' ∧ WRM B n p σ' ∧ frm σ σ'
def CondIH (B : Nat → Nat) (n la o : Nat) (RM : Sg → Option Sg) (RC : Int32 → Sg → Option Sg) : Prop := ∀ j lm lc σM σC, OKM B n j o lm σM → OKC B n la j lc σC → lm.length ≤ j → lc.length ≤ j → Out B n la j o lm lc (9 - 2 * o) false σM σC (RM σM) (RC (nI o) σC)
theorem parM_w {p : Nat} {σ : Sg} {RM : Sg → Option Sg} (hw : RecW B n RM) {t : Int32} {σ8 : Sg} (e : f_X12_wants t σ = some σ8) (h : WRM B n p σ8) : ∃ σ', parM RM t σ = some σ' ∧ WRM B n p σ' ∧ frm σ8 σ' := by
  unfold parM
  rw [e, bnd_some, lt_ap]
  obtain ⟨σ1, a1, a2, a3⟩ := hw p _ (h.op (σ8 0 25 + 1))
  rw [a1, bnd_some, lt_ap, if_pos (show ¬ upS σ1 0 25 (σ1 0 25 - 1) 0 27 = 0 by rw [upS_nj (by omega), a2.2.1]; decide)]
  obtain ⟨σ2, b1, b2, b3⟩ := wM_w (a2.op (σ1 0 25 - 1)) 0
  exact ⟨σ2, b1, b2, (frm.u (by decide) (by decide)).tr (a3.tr ((frm.u (by decide) (by decide)).tr b3))⟩
theorem eq_par {j o : Nat} {lm lc : List Int32} {σM σC : Sg} {RM : Sg → Option Sg} {RC : Int32 → Sg → Option Sg} (hw : RecW B n RM) (ih : CondIH B n la (o + 1) RM RC) (ho : o < 3) (h : OKM B n j o lm σM) (g : OKC B n la j lc σC) (hj : j < la) (hm : lm.length ≤ j) (hc : lc.length ≤ j) :
    Out B n la j o lm lc (7 - 2 * o) false σM σC (parM RM 1 σM) (parC RC (nI o) 1 σC) := by
  obtain ⟨σ1, a1, a2, a3⟩ := wM_1 h
  obtain ⟨τ1, b1, b2, b3⟩ := pC_1 g hj
  have hB : ∀ i, i < 200 → B i < 256 := fun i hi => (h.1.2.1 i hi).1
  unfold parM parC
  rw [a1, bnd_some, lt_ap, b1, bnd_some, if_pos (stillC b2), a2.2.1.2.2.2, nI_1]
  obtain ⟨σ2, τ2, e1, e2, f1, f2, R⟩ := ih (j + 1) lm lc _ τ1 a2.op b2 (by omega) (by omega)
  rw [e1, bnd_some, lt_ap, e2, bnd_some]
  rw [show 9 - 2 * (o + 1) = 7 - 2 * o by omega] at R
  have fr : frm σM σ2 := a3.tr ((frm.u (by decide) (by decide)).tr f1)
  rcases R with ⟨p, w1, w2⟩ | ⟨j', lm', lc', φ, h1, h2, h3, h4, h5, h6, h7, h8⟩
  · obtain ⟨σ3, c1, c2, c3⟩ := wM_w (w1.op (σ2 0 25 - 1)) 0
    rw [if_pos (show ¬ upS σ2 0 25 (σ2 0 25 - 1) 0 27 = 0 by rw [upS_nj (by omega), w1.2.1]; decide), c1, parC2_w w2]
    exact ⟨σ3, τ2, rfl, rfl, fr.tr ((frm.u (by decide) (by decide)).tr c3), b3.tr f2, Or.inl ⟨p, c2, w2⟩⟩
  · have b0 : bb false = 0 := rfl
    obtain ⟨l200, jla⟩ := la_b h6
    have e25 : upS σ2 0 25 (σ2 0 25 - 1) = upS σ2 0 25 (nI o) := by rw [h5.2.1.2.2.2, show nI (o + 1) - 1 = nI o from nI_pred o]
    rw [e25]
    have h5' : OKM B n j' o (lm ++ lm') (upS σ2 0 25 (nI o)) := h5.op
    have c41 := ch_22 (s := stN B n j') hB h.1.1
    unfold parC2
    rw [if_neg (fun z => z h5'.2.1.1), byte_ok h5', bnd_some, tokC h6, bnd_some]
    have t22 : nI (tkV B n (stN B n j')) = 22 ↔ tkV B n (stN B n j') = 22 := nI_eq (b := 22) (by have := tk_top (B := B) (n := n) (s := stN B n j'); omega) (by decide)
    by_cases q : tkV B n (stN B n j') = 22
    · obtain ⟨σ3, c1, c2, c3⟩ := wM_1 h5'
      obtain ⟨τ3, d1, d2, d3⟩ := pC_1 h6 (jl h6 (by omega))
      rw [if_neg (show ¬ ¬ chV B n (stN B n j') = 41 from fun z => z (c41.mpr q)), if_neg (show ¬ ¬ nI (tkV B n (stN B n j')) = 22 from fun z => z (t22.mpr q)), c1, d1]
      exact ⟨σ3, τ3, rfl, rfl, fr.tr ((frm.u (by decide) (by decide)).tr c3), b3.tr (f2.tr d3), Or.inr ⟨j' + 1, lm', lc', φ, by omega, h2, by omega, by omega, c2, d2, h7, h8⟩⟩
    · obtain ⟨σ3, c1, c2, c3⟩ := wM_0 h5'
      obtain ⟨τ3, d1, d2, d3⟩ := pC_0 h6 (by rw [List.length_append]; omega)
      rw [if_pos (show ¬ chV B n (stN B n j') = 41 from fun z => q (c41.mp z)), if_pos (show ¬ nI (tkV B n (stN B n j')) = 22 from fun z => q (t22.mp z)), c1, d1]
      exact ⟨σ3, τ3, rfl, rfl, fr.tr ((frm.u (by decide) (by decide)).tr c3), b3.tr (f2.tr d3), Or.inl ⟨_, c2, d2⟩⟩
theorem Out.up {j o D D' : Nat} {b : Bool} {lm lc : List Int32} {σM σC : Sg} {M C : Option Sg} (h : Out B n la j o lm lc D b σM σC M C) (hD : D ≤ D') : Out B n la j o lm lc D' b σM σC M C := by
  obtain ⟨σ1, τ1, e1, e2, f1, f2, R⟩ := h
  exact ⟨σ1, τ1, e1, e2, f1, f2, R.elim Or.inl (fun ⟨j', lm', lc', φ, h1, h2, h3, h4, h5, h6, h7, h8⟩ => Or.inr ⟨j', lm', lc', φ, h1, h2, h3, h4, h5, h6, h7, h8.up hD⟩)⟩
theorem eq_one_l {o : Nat} {RM : Sg → Option Sg} {RC : Int32 → Sg → Option Sg} (hw : RecW B n RM) (ih : o < 3 → CondIH B n la (o + 1) RM RC) (ho : o ≤ 3) : ∀ (d j i m1 m2 : Nat) (b : Bool) (lm lc : List Int32) (σM σC : Sg), j + d = la → d < m1 → d < m2 → i ≤ j → OKM B n j o lm σM → OKC B n la j lc σC → lm.length + bb b ≤ j → lc.length + bb b ≤ j →
    Out B n la j o lm lc (7 - 2 * o) b σM σC (f_X12_one_l2 RM m1 (b2i b) σM) (f_X8_readOne_l4 RC (nI o) m2 (b2i b) (nI i) σC)
  | d, j, i, 0, m2, b, lm, lc, σM, σC, _, h, _, _, _, _, _, _ => absurd h (by omega)
  | d, j, i, m1 + 1, 0, b, lm, lc, σM, σC, _, _, h, _, _, _, _, _ => absurd h (by omega)
  | d, j, i, m1 + 1, m2 + 1, b, lm, lc, σM, σC, hd, h1, h2, hi, h, g, hm, hc => by
    obtain ⟨l200, jla⟩ := la_b g
    have hB : ∀ i, i < 200 → B i < 256 := fun i hi => (h.1.2.1 i hi).1
    have tt := tk_top (B := B) (n := n) (s := stN B n j)
    have bl := bb_le b
    show Out B n la j o lm lc (7 - 2 * o) b σM σC (f_X12_one_b2 RM (f_X12_one_l2 RM m1) (b2i b) σM) (f_X8_readOne_b4 RC (f_X8_readOne_l4 RC (nI o) m2) (nI o) (b2i b) (nI i) σC)
    unfold f_X12_one_b2 f_X8_readOne_b4
    rw [word_ok h, bnd_some]
    have t17 : nI (tkV B n (stN B n j)) = 17 ↔ tkV B n (stN B n j) = 17 := nI_eq (b := 17) (by omega) (by decide)
    have t21 : nI (tkV B n (stN B n j)) = 21 ↔ tkV B n (stN B n j) = 21 := nI_eq (b := 21) (by omega) (by decide)
    by_cases q : tkV B n (stN B n j) = 17
    · have hj := jl g (by omega)
      obtain ⟨σ1, a1, a2, a3⟩ := wM_1 h
      obtain ⟨τ1, c1, c2, c3⟩ := pC_1 g hj
      have nb : bb (!b) ≤ 1 := bb_le _
      have sb : bb b + bb (!b) = 1 := by cases b <;> rfl
      obtain ⟨σ2, τ2, e1, e2, f1, f2, R⟩ := eq_one_l hw ih ho (d - 1) (j + 1) (i + 1) m1 m2 (!b) lm lc σ1 τ1 (by omega) (by omega) (by omega) (by omega) a2 c2 (by omega) (by omega)
      rw [if_neg (show ¬ ¬ lg_cmp (lN (wdV B n (stN B n j))) (14836 : Int64) = 0 from fun z => z (tw17.mpr q)), if_neg (show ¬ (200 : Int32) ≤ nI i from nI_ge (b := 200) (by omega) (by decide)), if_pos (stillC g), tokC g, bnd_some, if_neg (show ¬ ¬ nI (tkV B n (stN B n j)) = 17 from fun z => z (t17.mpr q)), a1, c1, nI_1]
      simp only [bnd_some]
      refine ⟨σ2, τ2, ?_, ?_, a3.tr f1, c3.tr f2, R.elim Or.inl (fun ⟨j', lm', lc', φ, h1, h2, h3, h4, h5, h6, h7, h8⟩ => Or.inr ⟨j', lm', lc', φ, by omega, h2, by omega, by omega, h5, h6, h7, h8⟩)⟩
      · cases b with
        | false => rw [if_neg (show ¬ ¬ b2i false = 0 from fun z => z rfl)]; exact e1
        | true => rw [if_pos (show ¬ b2i true = 0 by decide)]; exact e1
      · cases b with
        | false => rw [if_neg (show ¬ ¬ b2i false = 0 from fun z => z rfl)]; exact e2
        | true => rw [if_pos (show ¬ b2i true = 0 by decide)]; exact e2
    · rw [if_pos (show ¬ lg_cmp (lN (wdV B n (stN B n j))) (14836 : Int64) = 0 from fun z => q (tw17.mp z)), if_neg (fun z => z h.2.1.1), byte_ok h, bnd_some, if_pos (stillC g), tokC g, bnd_some, if_pos (show ¬ nI (tkV B n (stN B n j)) = 17 from fun z => q (t17.mp z)), ite_self]
      unfold f_X8_readOne_b48
      rw [if_pos (stillC g), tokC g, bnd_some]
      have c40 := ch_21 (s := stN B n j) hB h.1.1
      by_cases q2 : tkV B n (stN B n j) = 21
      · have hj := jl g (by omega)
        rw [if_neg (show ¬ ¬ chV B n (stN B n j) = 40 from fun z => z (c40.mpr q2)), if_neg (show ¬ ¬ nI (tkV B n (stN B n j)) = 21 from fun z => z (t21.mpr q2)), h.2.1.2.2.2]
        by_cases q3 : o < 3
        · rw [if_neg (show ¬ (3 : Int32) ≤ nI o from nI_ge (b := 3) q3 (by decide)), if_neg (show ¬ (3 : Int32) ≤ nI o from nI_ge (b := 3) q3 (by decide)), b65_eq, b75_eq]
          exact eq_fin (eq_par hw (ih q3) q3 h g hj (by omega) (by omega)) hm hc (by omega)
        · rw [if_pos (show (3 : Int32) ≤ nI o from nI_le (a := 3) (by omega) (by omega)), if_pos (show (3 : Int32) ≤ nI o from nI_le (a := 3) (by omega) (by omega)), b65_eq, b75_eq]
          obtain ⟨σ1, a1, a2, a3⟩ := wM_0 h
          obtain ⟨σ2, a4, a5, a6⟩ := parM_w hw a1 a2
          obtain ⟨τ1, c1, c2, c3⟩ := pC_0 g (by omega)
          have c4 : parC RC (nI o) 0 σC = some τ1 := by
            unfold parC
            rw [c1, bnd_some, if_neg (show ¬ f_X8_isStill τ1 = true by rw [stillC_w c2]; decide), parC2_w c2]
          exact eq_fin ⟨σ2, τ1, a4, c4, a3.tr a6, c3, Or.inl ⟨_, a5, c2⟩⟩ hm hc (by omega)
      · rw [if_pos (show ¬ chV B n (stN B n j) = 40 from fun z => q2 (c40.mp z)), if_pos (show ¬ nI (tkV B n (stN B n j)) = 21 from fun z => q2 (t21.mp z))]
        exact eq_fin ((eq_cmp h g (by omega) (by omega)).up (by omega)) hm hc (by omega)
theorem eq_one {j o : Nat} {RM : Sg → Option Sg} {RC : Int32 → Sg → Option Sg} (hw : RecW B n RM) (ih : o < 3 → CondIH B n la (o + 1) RM RC) (ho : o ≤ 3) {lm lc : List Int32} {σM σC : Sg} (h : OKM B n j o lm σM) (g : OKC B n la j lc σC) (hm : lm.length ≤ j) (hc : lc.length ≤ j) : Out B n la j o lm lc (7 - 2 * o) false σM σC (f_X12_one RM σM) (f_X8_readOne RC (nI o) σC) := by
  obtain ⟨l200, jla⟩ := la_b g
  unfold f_X12_one f_X8_readOne
  exact eq_one_l hw ih ho (la - j) j 0 400 400 false lm lc σM σC (by omega) (by omega) (by omega) (by omega) h g hm hc
end PA
