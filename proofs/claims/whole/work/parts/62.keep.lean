/-! keep, again -/
theorem cpy_ap (σ : Sg) (a b n p i : Nat) : cpy σ a b n p i = if p = b ∧ i < n then σ a i else σ p i := by
  unfold cpy upR
  by_cases h : p = b
  · rw [if_pos h]
    by_cases h2 : i < n
    · rw [if_pos h2, if_pos ⟨h, h2⟩]
    · rw [if_neg h2, if_neg (fun z => h2 z.2), h]
  · rw [if_neg h, if_neg (fun z => h z.1)]
def cty (σ τ : Sg) : Prop := (τ 24 1 = σ 24 1 ∧ τ 24 2 = σ 24 2 ∧ τ 24 3 = σ 24 3 ∧ τ 24 4 = σ 24 4) ∧ (∀ i, i < 6 → τ 25 i = σ 25 i ∧ τ 26 i = σ 26 i ∧ τ 28 i = σ 28 i ∧ τ 29 i = σ 29 i ∧ τ 30 i = σ 30 i ∧ τ 31 i = σ 31 i ∧ τ 32 i = σ 32 i ∧ τ 33 i = σ 33 i) ∧ (∀ i, i < 16 → τ 27 i = σ 27 i) ∧ eqR σ τ ∧
  (τ 41 0 = σ 41 0 ∧ τ 41 1 = σ 41 1 ∧ τ 41 2 = σ 41 2 ∧ τ 41 3 = σ 41 3) ∧ (∀ i, i < 6 → τ 42 i = σ 42 i ∧ τ 43 i = σ 43 i)
theorem Hold.cty {σM σC σM' τ : Sg} {A : Nat → Nat} {W : WT} (h : Hold σM σC A W) (q : ∀ i, i < 319 → σM' 1 i = σM 1 i) (c : cty σC τ) : Hold σM' τ A W := by
  obtain ⟨⟨c1, c2, c3, c4⟩, c5, c6, c7, ⟨d0, d1, d2, d3⟩, d4⟩ := c
  obtain ⟨h1, h2, h3, h4, h5, h6, h7⟩ := h.c
  obtain ⟨e0, e1, e2, e3, e4⟩ := h.d
  refine ⟨h.ok, h.okw, fun i a b c d => (q i (by omega)).trans (h.m i a b c d), ⟨c1.trans h1, c2.trans h2, c4.trans h3, fun k hk => ?_, fun g hg => (c6 g hg).trans (h5 g hg), fun f hf => ?_, fun r hr => ?_⟩, ⟨d0.trans e0, by rw [q 4 (by decide)]; exact d1.trans e1, d2.trans e2, d3.trans e3, fun k hk => ?_⟩, h.rm.eq (fun i _ hl => q i hl), h.rc.eq c7, by rw [q 6 (by decide)]; exact c3.trans h.z, by rw [q 1 (by decide)]; exact c7.1.trans h.n⟩
  · exact ⟨(c5 k hk).1.trans (h4 k hk).1, (c5 k hk).2.1.trans (h4 k hk).2⟩
  · exact ⟨(c5 f hf).2.2.1.trans (h6 f hf).1, (c5 f hf).2.2.2.1.trans (h6 f hf).2⟩
  · exact ⟨(c5 r hr).2.2.2.2.1.trans (h7 r hr).1, (c5 r hr).2.2.2.2.2.1.trans (h7 r hr).2.1, (c5 r hr).2.2.2.2.2.2.1.trans (h7 r hr).2.2.1, (c5 r hr).2.2.2.2.2.2.2.trans (h7 r hr).2.2.2⟩
  · exact ⟨(d4 k hk).1.trans (e4 k hk).1, (d4 k hk).2.trans (e4 k hk).2⟩
theorem c_rcopy1 (σ : Sg) : f_X9_copy_p54_p34 σ 54 0 = σ 34 0 ∧ (∀ i, i < 8 → f_X9_copy_p54_p34 σ 55 i = σ 35 i ∧ f_X9_copy_p54_p34 σ 56 i = σ 36 i ∧ f_X9_copy_p54_p34 σ 57 i = σ 37 i ∧ f_X9_copy_p54_p34 σ 58 i = σ 38 i) ∧ (∀ i, i < 200 → f_X9_copy_p54_p34 σ 59 i = σ 39 i) ∧ ∀ p, p < 54 ∨ 59 < p → f_X9_copy_p54_p34 σ p = σ p := by
  unfold f_X9_copy_p54_p34
  simp only [lt_ap]
  refine ⟨?_, fun i hi => ⟨?_, ?_, ?_, ?_⟩, fun i hi => ?_, fun p hp => ?_⟩
  · rw [cpy_ne (by decide), cpy_ne (by decide), cpy_ne (by decide), cpy_ne (by decide), cpy_ne (by decide), upS_nj (by decide), upS_at]
  · rw [cpy_ne (by decide), cpy_ne (by decide), cpy_ne (by decide), cpy_ne (by decide), cpy_at hi, upS_ne (by decide), upS_ne (by decide)]
  · rw [cpy_ne (by decide), cpy_ne (by decide), cpy_ne (by decide), cpy_at hi, cpy_ne (by decide), upS_ne (by decide), upS_ne (by decide)]
  · rw [cpy_ne (by decide), cpy_ne (by decide), cpy_at hi, cpy_ne (by decide), cpy_ne (by decide), upS_ne (by decide), upS_ne (by decide)]
  · rw [cpy_ne (by decide), cpy_at hi, cpy_ne (by decide), cpy_ne (by decide), cpy_ne (by decide), upS_ne (by decide), upS_ne (by decide)]
  · rw [cpy_at hi, cpy_ne (by decide), cpy_ne (by decide), cpy_ne (by decide), cpy_ne (by decide), upS_ne (by decide), upS_ne (by decide)]
  · rw [cpy_ne (by omega), cpy_ne (by omega), cpy_ne (by omega), cpy_ne (by omega), cpy_ne (by omega), upS_ne (by omega), upS_ne (by omega)]
theorem c_rcopy2 (σ : Sg) : f_X9_copy_p34_p54 σ 34 0 = σ 54 0 ∧ (∀ i, i < 8 → f_X9_copy_p34_p54 σ 35 i = σ 55 i ∧ f_X9_copy_p34_p54 σ 36 i = σ 56 i ∧ f_X9_copy_p34_p54 σ 37 i = σ 57 i ∧ f_X9_copy_p34_p54 σ 38 i = σ 58 i) ∧ (∀ i, i < 200 → f_X9_copy_p34_p54 σ 39 i = σ 59 i) ∧ ∀ p, p < 34 ∨ 39 < p → f_X9_copy_p34_p54 σ p = σ p := by
  unfold f_X9_copy_p34_p54
  simp only [lt_ap]
  refine ⟨?_, fun i hi => ⟨?_, ?_, ?_, ?_⟩, fun i hi => ?_, fun p hp => ?_⟩
  · rw [cpy_ne (by decide), cpy_ne (by decide), cpy_ne (by decide), cpy_ne (by decide), cpy_ne (by decide), upS_nj (by decide), upS_at]
  · rw [cpy_ne (by decide), cpy_ne (by decide), cpy_ne (by decide), cpy_ne (by decide), cpy_at hi, upS_ne (by decide), upS_ne (by decide)]
  · rw [cpy_ne (by decide), cpy_ne (by decide), cpy_ne (by decide), cpy_at hi, cpy_ne (by decide), upS_ne (by decide), upS_ne (by decide)]
  · rw [cpy_ne (by decide), cpy_ne (by decide), cpy_at hi, cpy_ne (by decide), cpy_ne (by decide), upS_ne (by decide), upS_ne (by decide)]
  · rw [cpy_ne (by decide), cpy_at hi, cpy_ne (by decide), cpy_ne (by decide), cpy_ne (by decide), upS_ne (by decide), upS_ne (by decide)]
  · rw [cpy_at hi, cpy_ne (by decide), cpy_ne (by decide), cpy_ne (by decide), cpy_ne (by decide), upS_ne (by decide), upS_ne (by decide)]
  · rw [cpy_ne (by omega), cpy_ne (by omega), cpy_ne (by omega), cpy_ne (by omega), cpy_ne (by omega), upS_ne (by omega), upS_ne (by omega)]
theorem c_scopy {n m : Nat} (h : n + 2 < m ∨ m + 2 < n) (σ : Sg) : (∀ i, i < 4 → f_X10_copy n m σ n i = σ m i) ∧ (∀ i, i < 6 → f_X10_copy n m σ (n + 1) i = σ (m + 1) i ∧ f_X10_copy n m σ (n + 2) i = σ (m + 2) i) ∧ ∀ p, p ≠ n → p ≠ n + 1 → p ≠ n + 2 → f_X10_copy n m σ p = σ p := by
  unfold f_X10_copy
  simp only [lt_ap]
  refine ⟨fun i hi => ?_, fun k hk => ⟨?_, ?_⟩, fun p a b c => ?_⟩
  · rw [cpy_ne (by omega), cpy_ne (by omega)]
    match i, hi with
    | 0, _ => rw [upS_nj (by omega), upS_nj (by omega), upS_nj (by omega), upS_at]
    | 1, _ => rw [upS_nj (by omega), upS_nj (by omega), upS_at, upS_nj (by omega)]
    | 2, _ => rw [upS_nj (by omega), upS_at, upS_nj (by omega), upS_nj (by omega)]
    | 3, _ => rw [upS_at, upS_nj (by omega), upS_nj (by omega), upS_nj (by omega)]
    | i + 4, q => exact absurd q (by omega)
  · rw [cpy_ne (by omega), cpy_at hk, upS_ne (by omega), upS_ne (by omega), upS_ne (by omega), upS_ne (by omega)]
  · rw [cpy_at hk, cpy_ne (by omega), upS_ne (by omega), upS_ne (by omega), upS_ne (by omega), upS_ne (by omega)]
  · rw [cpy_ne c, cpy_ne b, upS_ne a, upS_ne a, upS_ne a, upS_ne a]
/-- the row of a county that is copied -/
theorem c_ccopy1 (σ : Sg) : cty σ (shf (f_X1_copy_p44_p24 σ)) ∧ ∀ p, p < 44 ∨ 64 ≤ p → f_X1_copy_p44_p24 σ p = σ p := by
  have key : ∀ τ, τ = f_X1_copy_p44_p24 σ → cty σ (shf τ) ∧ ∀ p, p < 44 ∨ 64 ≤ p → τ p = σ p := by
    intro τ hτ
    unfold f_X1_copy_p44_p24 at hτ
    simp only [lt_ap] at hτ
    generalize hu : cpy (cpy (cpy (cpy (cpy (cpy (cpy (cpy (cpy (upS (upS (upS (upS σ 44 1 (σ 24 1)) 44 2 (upS σ 44 1 (σ 24 1) 24 2)) 44 3 (upS (upS σ 44 1 (σ 24 1)) 44 2 (upS σ 44 1 (σ 24 1) 24 2) 24 3)) 44 4 (upS (upS (upS σ 44 1 (σ 24 1)) 44 2 (upS σ 44 1 (σ 24 1) 24 2)) 44 3 (upS (upS σ 44 1 (σ 24 1)) 44 2 (upS σ 44 1 (σ 24 1) 24 2) 24 3) 24 4)) 25 45 6) 26 46 6) 27 47 16) 28 48 6) 29 49 6) 30 50 6) 31 51 6) 32 52 6) 33 53 6 = u at hτ
    have hu4 : ∀ p, p < 44 ∨ 53 < p → u p = σ p := fun p hp => by
      rw [← hu, cpy_ne (by omega), cpy_ne (by omega), cpy_ne (by omega), cpy_ne (by omega), cpy_ne (by omega), cpy_ne (by omega), cpy_ne (by omega), cpy_ne (by omega), cpy_ne (by omega), upS_ne (by omega), upS_ne (by omega), upS_ne (by omega), upS_ne (by omega)]
    have hu0 : u 44 1 = σ 24 1 ∧ u 44 2 = σ 24 2 ∧ u 44 3 = σ 24 3 ∧ u 44 4 = σ 24 4 := by
      have e : ∀ i, u 44 i = (upS (upS (upS (upS σ 44 1 (σ 24 1)) 44 2 (upS σ 44 1 (σ 24 1) 24 2)) 44 3 (upS (upS σ 44 1 (σ 24 1)) 44 2 (upS σ 44 1 (σ 24 1) 24 2) 24 3)) 44 4 (upS (upS (upS σ 44 1 (σ 24 1)) 44 2 (upS σ 44 1 (σ 24 1) 24 2)) 44 3 (upS (upS σ 44 1 (σ 24 1)) 44 2 (upS σ 44 1 (σ 24 1) 24 2) 24 3) 24 4)) 44 i := fun i => by
        rw [← hu, cpy_ne (by omega), cpy_ne (by omega), cpy_ne (by omega), cpy_ne (by omega), cpy_ne (by omega), cpy_ne (by omega), cpy_ne (by omega), cpy_ne (by omega), cpy_ne (by omega)]
      refine ⟨?_, ?_, ?_, ?_⟩ <;> rw [e] <;> simp [upS_ap]
    have hu1 : ∀ j, j < 9 → j ≠ 2 → ∀ i, i < 6 → u (45 + j) i = σ (25 + j) i := fun j hj hj2 i hi => by
      rw [← hu]
      simp only [cpy_ap, upS_ap]
      match j, hj with
      | 0, _ | 1, _ | 3, _ | 4, _ | 5, _ | 6, _ | 7, _ | 8, _ => simp [hi]
      | 2, _ => exact absurd rfl hj2
      | j + 9, q => exact absurd q (by omega)
    have hu2 : ∀ i, i < 16 → u 47 i = σ 27 i := fun i hi => by
      rw [← hu]
      simp only [cpy_ap, upS_ap]
      simp [hi]
    clear hu
    obtain ⟨r1, r2, r3, r4⟩ := c_rcopy1 u
    obtain ⟨t1, t2, t3⟩ := c_scopy (n := 61) (m := 41) (by omega) (f_X9_copy_p54_p34 u)
    have lo : ∀ p, p < 54 → τ p = u p := fun p hp => by rw [hτ, t3 p (by omega) (by omega) (by omega), r4 p (by omega)]
    have hi : ∀ p, 54 ≤ p → p < 60 → τ p = f_X9_copy_p54_p34 u p := fun p h1 h2 => by rw [hτ, t3 p (by omega) (by omega) (by omega)]
    refine ⟨⟨?_, fun i h => ?_, fun i h => ?_, ⟨?_, fun i h => ?_, fun i h => ?_⟩, ?_, fun i h => ?_⟩, fun p hp => ?_⟩
    · rw [shf_in (by decide), lo 44 (by decide)]; exact hu0
    · rw [shf_in (by decide), shf_in (by decide), shf_in (by decide), shf_in (by decide), shf_in (by decide), shf_in (by decide), shf_in (by decide), shf_in (by decide), lo 45 (by decide), lo 46 (by decide), lo 48 (by decide), lo 49 (by decide), lo 50 (by decide), lo 51 (by decide), lo 52 (by decide), lo 53 (by decide)]
      exact ⟨hu1 0 (by decide) (by decide) i h, hu1 1 (by decide) (by decide) i h, hu1 3 (by decide) (by decide) i h, hu1 4 (by decide) (by decide) i h, hu1 5 (by decide) (by decide) i h, hu1 6 (by decide) (by decide) i h, hu1 7 (by decide) (by decide) i h, hu1 8 (by decide) (by decide) i h⟩
    · rw [shf_in (by decide), lo 47 (by decide)]; exact hu2 i h
    · rw [shf_in (by decide), hi 54 (by decide) (by decide), r1, hu4 34 (by decide)]
    · rw [shf_in (by decide), shf_in (by decide), shf_in (by decide), shf_in (by decide), hi 55 (by decide) (by decide), hi 56 (by decide) (by decide), hi 57 (by decide) (by decide), hi 58 (by decide) (by decide), ← hu4 35 (by decide), ← hu4 36 (by decide), ← hu4 37 (by decide), ← hu4 38 (by decide)]
      exact r2 i h
    · rw [shf_in (by decide), hi 59 (by decide) (by decide), r3 i h, hu4 39 (by decide)]
    · rw [shf_in (by decide), hτ, t1 0 (by decide), t1 1 (by decide), t1 2 (by decide), t1 3 (by decide), r4 41 (by decide), hu4 41 (by decide)]
      exact ⟨rfl, rfl, rfl, rfl⟩
    · rw [shf_in (by decide), shf_in (by decide), hτ]
      refine ⟨((t2 i h).1).trans ?_, ((t2 i h).2).trans ?_⟩
      · rw [r4 (41 + 1) (by decide), hu4 (41 + 1) (by decide)]
      · rw [r4 (41 + 2) (by decide), hu4 (41 + 2) (by decide)]
    · rw [hτ, t3 p (by omega) (by omega) (by omega), r4 p (by omega), hu4 p (by omega)]
  exact key _ rfl
