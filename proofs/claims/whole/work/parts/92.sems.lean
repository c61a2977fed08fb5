/-! what the class's codes mean, closed under what joins them; a rule's condition on both sides -/
theorem SemC.up {D D' : Nat} {l : List Int32} {φ : Fct → Bool} (h : SemC D l φ) (hD : D ≤ D') : SemC D' l φ := fun σ F r tO i m s h1 h2 h3 h4 h5 h6 h7 =>
  h σ F r tO i m s h1 h2 h3 h4 h5 (Nat.lt_of_lt_of_le h6 (Nat.pow_le_pow_right (by decide) (by omega))) h7
theorem bit_b (b : Bool) : (if b = true then 1 else 0) ≤ 1 := by cases b <;> decide
theorem c_or1 (u : Nat) (a b : Bool) (hu : u < 2 ^ 28) : nI (2 * u + (if a = true then 1 else 0)) ||| nI (if b = true then 1 else 0) = nI (2 * u + (if (a || b) = true then 1 else 0)) := by
  have e2 : (nI (2 * u)) ||| 1 = nI (2 * u + 1) := by
    apply Int32.toBitVec_inj.mp
    apply BitVec.eq_of_toNat_eq
    rw [Int32.toBitVec_or, BitVec.toNat_or, pk_tn (by omega), pk_tn (by omega)]
    show 2 * u ||| 1 = 2 * u + 1
    have := Nat.two_pow_add_eq_or_of_lt (i := 1) (b := 1) (by decide) u
    rw [Nat.pow_one] at this
    exact this.symm
  cases b with
  | false =>
    rw [if_neg (show ¬ false = true by decide), Bool.or_false]
    exact Int32.or_zero
  | true =>
    rw [if_pos rfl, Bool.or_true, if_pos rfl]
    cases a with
    | false => exact e2
    | true =>
      rw [if_pos rfl, ← e2]
      show (nI (2 * u) ||| 1) ||| 1 = _
      rw [Int32.or_assoc, Int32.or_self]
section SC
variable {σ : Sg} {r tO i m : Nat}
theorem c_head (hr : r < 8) (h38 : σ 38 r = nI tO) (hi : i < tO) (hO : tO ≤ 200) (x : Int32) (hx : σ 39 i = x) (st : Int32) : f_X9_isSo_l9 (nI r) σ (m + 1) st (nI i) = (if ¬ x = 17 then
      if ¬ x = 16 then
        if ¬ x = 15 then
          if nI tO ≤ (nI i + 2) then
            f_X9_isSo_l9 (nI r) σ m st (nI i + 1)
          else
            Option.bind (rd σ 39 200 (nI i + 1)) fun vq5 =>
            Option.bind (rd σ 39 200 (nI i + 2)) fun vq6 =>
            Option.bind (f_X9_compares x vq5 vq6 σ) fun vq7 =>
            if vq7 = true then
              lt ((shl32 st 1) ||| 1) fun vq9 =>
              f_X9_isSo_l9 (nI r) σ m vq9 ((nI i + 2) + 1)
            else
              lt ((shl32 st 1) ||| 0) fun vq8 =>
              f_X9_isSo_l9 (nI r) σ m vq8 ((nI i + 2) + 1)
        else
          lt ((ushr32 st 1) ||| (st &&& 1)) fun vq10 =>
          f_X9_isSo_l9 (nI r) σ m vq10 (nI i + 1)
      else
        if ¬ (st &&& 1) = 1 then
          lt ((ushr32 st 1) &&& (-2)) fun vq11 =>
          f_X9_isSo_l9 (nI r) σ m vq11 (nI i + 1)
        else
          lt (ushr32 st 1) fun vq12 =>
          f_X9_isSo_l9 (nI r) σ m vq12 (nI i + 1)
    else
      lt (st ^^^ 1) fun vq13 =>
      f_X9_isSo_l9 (nI r) σ m vq13 (nI i + 1)) := by
  show f_X9_isSo_b9 (f_X9_isSo_l9 (nI r) σ m) (nI r) σ st (nI i) = _
  unfold f_X9_isSo_b9
  rw [rd_nI hr (by decide), h38]
  simp only [bnd_some]
  rw [if_neg (nI_ge hi (by omega)), rd_nI (by omega) (by decide), bnd_some, hx]
end SC
theorem semC_cmp {x y g : Nat} (hx : opOk x) (hy : opOk y) (hg : g = 23 ∨ g = 24 ∨ g = 25) : SemC 1 [nI g, opC x, opC y] (fun F => cmpV g (opV x F) (opV y F)) := by
  intro σ F r tO i m s hr hF h38 hi hO hs hc
  have hl : ([nI g, opC x, opC y] : List Int32).length = 3 := rfl
  rw [hl] at hi
  have h0 : σ 39 i = nI g := hc 0 (by rw [hl]; omega)
  have h1 : σ 39 (i + 1) = opC x := hc 1 (by rw [hl]; omega)
  have h2 : σ 39 (i + 2) = opC y := hc 2 (by rw [hl]; omega)
  refine ⟨m + 2, by omega, ?_⟩
  show f_X9_isSo_l9 (nI r) σ (m + 2 + 1) (nI s) (nI i) = f_X9_isSo_l9 (nI r) σ (m + 2) (nI (2 * s + (if cmpV g (opV x F) (opV y F) = true then 1 else 0))) (nI (i + 3))
  have hs' : s < 2 ^ 29 := hs
  have hp := c_push (cmpV g (opV x F) (opV y F)) s hs'
  rw [c_head hr h38 (by omega) hO _ h0, if_pos (show ¬ nI g = 17 by rcases hg with rfl | rfl | rfl <;> decide), if_pos (show ¬ nI g = 16 by rcases hg with rfl | rfl | rfl <;> decide), if_pos (show ¬ nI g = 15 by rcases hg with rfl | rfl | rfl <;> decide), show nI i + 2 = nI (i + 2) from nI_add i 2, if_neg (nI_ge (by omega) (by omega)), nI_1, nI_1, rd_nI (by omega) (by decide), bnd_some, rd_nI (by omega) (by decide), bnd_some, h1, h2, c_compares hF hx hy hg, bnd_some, ← hp, lt_ap, lt_ap]
  cases cmpV g (opV x F) (opV y F) <;> rfl
theorem semC_not {D : Nat} {l : List Int32} {φ : Fct → Bool} (hD : 1 ≤ D) (h : SemC D l φ) : SemC D (l ++ [17]) (fun F => !φ F) := by
  intro σ F r tO i m s hr hF h38 hi hO hs hc
  have hl : (l ++ [17] : List Int32).length = l.length + 1 := by rw [List.length_append]; rfl
  rw [hl] at hi hc ⊢
  have hs2 : s < 2 ^ 29 := Nat.lt_of_lt_of_le hs (Nat.pow_le_pow_right (by decide) (by omega))
  obtain ⟨m1, e1, e2⟩ := h σ F r tO i (m + 1) s hr hF h38 (by omega) hO hs (fun j hj => by rw [hc j (by omega), getD_l l _ hj])
  have hx : σ 39 (i + l.length) = 17 := by
    rw [hc l.length (by omega)]
    have := getD_r l [17] 0
    rw [Nat.add_zero] at this
    exact this
  obtain ⟨m2, rfl⟩ : ∃ m2, m1 = m2 + 1 := ⟨m1 - 1, by omega⟩
  refine ⟨m2, by omega, ?_⟩
  rw [show m + (l.length + 1) = m + 1 + l.length by omega, e2, c_head hr h38 (by omega) hO _ hx, if_neg (show ¬ ¬ (17 : Int32) = 17 by decide), lt_ap, c_xor1 (φ F) hs2, nI_1, show i + l.length + 1 = i + (l.length + 1) by omega]
theorem semC_bin {D D1 D2 : Nat} {l1 l2 : List Int32} {φ1 φ2 : Fct → Bool} {x : Int32} {op : Bool → Bool → Bool} (hD1 : D1 ≤ D) (hD2 : D2 + 1 ≤ D) (hD : 2 ≤ D) (hD30 : D ≤ 30) (h1 : SemC D1 l1 φ1) (h2 : SemC D2 l2 φ2)
    (step : ∀ (σ : Sg) (r tO i m u : Nat) (a b : Bool), r < 8 → σ 38 r = nI tO → i < tO → tO ≤ 200 → σ 39 i = x → u < 2 ^ 28 → f_X9_isSo_l9 (nI r) σ (m + 1) (nI (2 * (2 * u + (if a = true then 1 else 0)) + (if b = true then 1 else 0))) (nI i) = f_X9_isSo_l9 (nI r) σ m (nI (2 * u + (if op a b = true then 1 else 0))) (nI (i + 1))) : SemC D (l1 ++ l2 ++ [x]) (fun F => op (φ1 F) (φ2 F)) := by
  intro σ F r tO i m s hr hF h38 hi hO hs hc
  have hl : (l1 ++ l2 ++ [x] : List Int32).length = l1.length + l2.length + 1 := by rw [List.length_append, List.length_append]; rfl
  have hl2 : (l1 ++ l2 : List Int32).length = l1.length + l2.length := List.length_append
  rw [hl] at hi hc ⊢
  have hs1 : s < 2 ^ (30 - D1) := Nat.lt_of_lt_of_le hs (Nat.pow_le_pow_right (by decide) (by omega))
  have hs28 : s < 2 ^ 28 := Nat.lt_of_lt_of_le hs (Nat.pow_le_pow_right (by decide) (by omega))
  have hb1 := bit_b (φ1 F)
  have hs2 : 2 * s + (if φ1 F = true then 1 else 0) < 2 ^ (30 - D2) := by
    have e : 2 ^ (30 - D + 1) ≤ 2 ^ (30 - D2) := Nat.pow_le_pow_right (by decide) (by omega)
    have e2 : 2 ^ (30 - D + 1) = 2 ^ (30 - D) * 2 := rfl
    omega
  obtain ⟨m1, e1, e2⟩ := h1 σ F r tO i (m + 1 + l2.length) s hr hF h38 (by omega) hO hs1 (fun j hj => by rw [hc j (by omega), getD_l _ _ (by omega), getD_l l1 _ hj])
  obtain ⟨m2, rfl⟩ : ∃ m2, m1 = m2 + l2.length := ⟨m1 - l2.length, by omega⟩
  obtain ⟨m3, e3, e4⟩ := h2 σ F r tO (i + l1.length) m2 (2 * s + (if φ1 F = true then 1 else 0)) hr hF h38 (by omega) hO hs2 (fun j hj => by rw [show i + l1.length + j = i + (l1.length + j) by omega, hc (l1.length + j) (by omega), getD_l _ _ (by omega), getD_r])
  have hcx : σ 39 (i + l1.length + l2.length) = x := by
    rw [show i + l1.length + l2.length = i + (l1.length + l2.length) by omega, hc (l1.length + l2.length) (by omega), ← hl2]
    have := getD_r (l1 ++ l2) [x] 0
    rw [Nat.add_zero] at this
    exact this
  obtain ⟨m4, rfl⟩ : ∃ m4, m3 = m4 + 1 := ⟨m3 - 1, by omega⟩
  refine ⟨m4, by omega, ?_⟩
  rw [show m + (l1.length + l2.length + 1) = m + 1 + l2.length + l1.length by omega, e2, e4, step σ r tO _ m4 s (φ1 F) (φ2 F) hr h38 (by omega) hO hcx hs28, show i + l1.length + l2.length + 1 = i + (l1.length + l2.length + 1) by omega]
theorem step_and (σ : Sg) (r tO i m u : Nat) (a b : Bool) (hr : r < 8) (h38 : σ 38 r = nI tO) (hi : i < tO) (hO : tO ≤ 200) (hx : σ 39 i = 16) (hu : u < 2 ^ 28) : f_X9_isSo_l9 (nI r) σ (m + 1) (nI (2 * (2 * u + (if a = true then 1 else 0)) + (if b = true then 1 else 0))) (nI i) = f_X9_isSo_l9 (nI r) σ m (nI (2 * u + (if (a && b) = true then 1 else 0))) (nI (i + 1)) := by
  have ha := bit_b a
  rw [c_head hr h38 hi hO _ hx, if_pos (by decide), if_neg (by decide), nI_1]
  cases b with
  | true =>
    rw [if_pos rfl, Bool.and_true, c_low (by omega), c_shr1 (by omega), show (2 * (2 * u + (if a = true then 1 else 0)) + 1) % 2 = 1 by omega, show (2 * (2 * u + (if a = true then 1 else 0)) + 1) / 2 = 2 * u + (if a = true then 1 else 0) by omega, if_neg (show ¬ ¬ nI 1 = 1 from fun z => z rfl), lt_ap]
  | false =>
    rw [Bool.and_false, show (if false = true then 1 else 0) = 0 from rfl, c_low (by omega), c_shr1 (by omega), show (2 * (2 * u + (if a = true then 1 else 0)) + 0) % 2 = 0 by omega, show (2 * (2 * u + (if a = true then 1 else 0)) + 0) / 2 = 2 * u + (if a = true then 1 else 0) by omega, if_pos (show ¬ nI 0 = 1 by decide), lt_ap, c_andm2 (by omega), show (2 * u + (if a = true then 1 else 0)) / 2 * 2 = 2 * u by omega]
    rfl
theorem step_or (σ : Sg) (r tO i m u : Nat) (a b : Bool) (hr : r < 8) (h38 : σ 38 r = nI tO) (hi : i < tO) (hO : tO ≤ 200) (hx : σ 39 i = 15) (hu : u < 2 ^ 28) : f_X9_isSo_l9 (nI r) σ (m + 1) (nI (2 * (2 * u + (if a = true then 1 else 0)) + (if b = true then 1 else 0))) (nI i) = f_X9_isSo_l9 (nI r) σ m (nI (2 * u + (if (a || b) = true then 1 else 0))) (nI (i + 1)) := by
  have ha := bit_b a
  have hb := bit_b b
  have e1 : (2 * (2 * u + (if a = true then 1 else 0)) + (if b = true then 1 else 0)) % 2 = if b = true then 1 else 0 := by omega
  have e2 : (2 * (2 * u + (if a = true then 1 else 0)) + (if b = true then 1 else 0)) / 2 = 2 * u + (if a = true then 1 else 0) := by omega
  rw [c_head hr h38 hi hO _ hx, if_pos (by decide), if_pos (by decide), if_neg (by decide), nI_1, c_low (by omega), c_shr1 (by omega), e1, e2, lt_ap, c_or1 u a b hu]
/-- a rule's condition, as both sides hold it -/
def Sem (lm lc : List Int32) (φ : Fct → Bool) : Prop := (lm = [] ∧ lc = [] ∧ φ = fun _ => true) ∨ (1 ≤ lm.length ∧ SemM lm φ ∧ SemC 9 lc φ)
theorem m_isSo {lm lc : List Int32} {φ : Fct → Bool} (h : Sem lm lc φ) {σ : Sg} {A : Nat → Nat} {k fr : Nat} (hr : rM σ A) (ok : okA A) (hk : k < 6) (hO : fr + lm.length ≤ 200) (hc : ∀ j, j < lm.length → σ 1 (119 + (fr + j)) = lm.getD j 0) : ∃ σ', f_X12_isSo (nI fr) (nI (fr + lm.length)) (nI k) σ = some (φ (facA A k), σ') ∧ ∀ p, p ≠ 4 → σ' p = σ p := by
  unfold f_X12_isSo
  rcases h with ⟨rfl, -, rfl⟩ | ⟨h1, h, -⟩
  · refine ⟨σ, ?_, fun _ _ => rfl⟩
    show f_X12_isSo_b6 (f_X12_isSo_l6 (nI fr) (nI k) 399) (nI fr) (nI k) 0 (nI fr) σ = _
    unfold f_X12_isSo_b6
    rw [if_pos (nI_le (Nat.le_refl _) (by have : fr + 0 ≤ 200 := hO; omega)), if_pos (show (0 : Int32) = 0 from rfl)]
  · obtain ⟨σ', p1, p2, p3, p4⟩ := h σ A k (fr + lm.length) fr 0 (400 - lm.length) hr ok hk (Nat.le_refl _) hO (by omega) hc
    have p1' : f_X12_isSo_l6 (nI (fr + lm.length)) (nI k) 400 0 (nI fr) σ = f_X12_isSo_l6 (nI (fr + lm.length)) (nI k) (400 - lm.length) (nI 1) (nI (fr + lm.length)) σ' := by
      rw [show 400 - lm.length + lm.length = 400 by omega] at p1
      exact p1
    rw [p1']
    refine ⟨σ', ?_, p4⟩
    obtain ⟨m, hm⟩ : ∃ m, 400 - lm.length = m + 1 := ⟨399 - lm.length, by omega⟩
    rw [hm]
    show f_X12_isSo_b6 (f_X12_isSo_l6 (nI (fr + lm.length)) (nI k) m) (nI (fr + lm.length)) (nI k) (nI 1) (nI (fr + lm.length)) σ' = _
    unfold f_X12_isSo_b6
    rw [if_pos (nI_le (Nat.le_refl _) (by omega)), if_neg (show ¬ nI 1 = (0 : Int32) by decide), p2]
    cases φ (facA A k) <;> rfl
theorem c_isSo {lm lc : List Int32} {φ : Fct → Bool} (h : Sem lm lc φ) {σ : Sg} {F : Fct} {r fr : Nat} (hr : r < 8) (hF : ∀ q, q < 5 → F q < 100 ∧ σ 40 q = nI (F q)) (h37 : σ 37 r = nI fr) (h38 : σ 38 r = nI (fr + lc.length)) (hO : fr + lc.length ≤ 200) (hc : ∀ j, j < lc.length → σ 39 (fr + j) = lc.getD j 0) : f_X9_isSo (nI r) σ = some (φ F) := by
  unfold f_X9_isSo
  rw [rd_nI hr (by decide), bnd_some, h37]
  have fin : ∀ m s, s < 2 ^ 30 → f_X9_isSo_l9 (nI r) σ (m + 1) (nI s) (nI (fr + lc.length)) = if ¬ nI (s % 2) = 1 then some false else some true := fun m s hs => by
    show f_X9_isSo_b9 (f_X9_isSo_l9 (nI r) σ m) (nI r) σ (nI s) (nI (fr + lc.length)) = _
    unfold f_X9_isSo_b9
    rw [rd_nI hr (by decide), h38]
    simp only [bnd_some]
    rw [if_pos (nI_le (Nat.le_refl _) (by omega)), c_low (by omega)]
  rcases h with ⟨-, rfl, rfl⟩ | ⟨-, -, h⟩
  · have e := fin 399 1 (by decide)
    have e' : f_X9_isSo_l9 (nI r) σ 400 1 (nI fr) = _ := e
    rw [e']
    rfl
  · obtain ⟨m', e1, e2⟩ := h σ F r (fr + lc.length) fr (400 - lc.length) 1 hr hF h38 (Nat.le_refl _) hO (by decide) hc
    have e2' : f_X9_isSo_l9 (nI r) σ 400 1 (nI fr) = f_X9_isSo_l9 (nI r) σ m' (nI (2 * 1 + (if φ F = true then 1 else 0))) (nI (fr + lc.length)) := by
      rw [show 400 - lc.length + lc.length = 400 by omega] at e2
      exact e2
    obtain ⟨m, rfl⟩ : ∃ m, m' = m + 1 := ⟨m' - 1, by omega⟩
    rw [e2', fin m _ (by have := bit_b (φ F); omega)]
    cases φ F <;> rfl
