theorem m_onShelf {σM σC : Sg} {A : Nat → Nat} (hr : Rest σM σC) (hm : rM σM A) (hs : rCs σC A) (ok : okA A) {k : Nat} (hk : k < 4) :
    (∃ b, b < A 0 ∧ f_X12_onShelf (nI k) σM = some (nI b) ∧ f_X11_holdsKite (nI k) σC = some true ∧ σC 12 k = nI b ∧ σM 14 k = nI b) ∨ (f_X12_onShelf (nI k) σM = some (-1) ∧ f_X11_holdsKite (nI k) σC = some false ∧ ((σM 13 k = nI 2 ∧ σC 11 k = nI 1 ∧ σC 12 k = σM 15 k ∧ σC 13 k = σM 14 k) ∨ ((σM 13 k = nI 0 ∨ σM 13 k = nI 1) ∧ (σC 11 k = nI 0 ∨ σC 11 k = nI 2)))) := by
  have hm6 := ok.1.1
  unfold f_X12_onShelf f_X11_holdsKite
  rw [one_x, if_pos ((rng_nI (by decide) (by decide)).mpr ⟨k, by omega, by omega, rfl⟩)]
  have m13 := rd_nI (σ := σM) (p := 13) (n := 4) (i := k) hk (by decide)
  have m14 := rd_nI (σ := σM) (p := 14) (n := 4) (i := k) hk (by decide)
  have c11 := rd_nI (σ := σC) (p := 11) (n := 4) (i := k) hk (by decide)
  have c12 := rd_nI (σ := σC) (p := 12) (n := 4) (i := k) hk (by decide)
  simp only [m13, m14, c11, c12, bnd_some, m_isKite hm, c_isKite hs]
  rcases hr.shelf k hk with ⟨e1, e2⟩ | ⟨e1, e2, e3⟩ | ⟨e1, e2, e3, e4⟩
  · rw [e1, e2, if_pos (by decide), if_pos (by decide)]
    exact Or.inr ⟨rfl, rfl, Or.inr ⟨Or.inl rfl, Or.inr rfl⟩⟩
  · rw [e1, e2, if_neg (show ¬ ¬ nI 1 = 1 by decide), if_neg (show ¬ ¬ nI 0 = 0 by decide), e3]
    by_cases q : rng (σM 14 k) (nI 0) (nI (A 0) - nI 1) = true
    · obtain ⟨b, hb, eb⟩ := (kite_iff (by omega)).mp q
      rw [if_pos q, if_pos q, eb]
      exact Or.inl ⟨b, hb, rfl, rfl, rfl, rfl⟩
    · rw [if_neg q, if_neg q]
      exact Or.inr ⟨rfl, rfl, Or.inr ⟨Or.inr rfl, Or.inl rfl⟩⟩
  · rw [e1, e2, if_pos (by decide), if_pos (by decide)]
    exact Or.inr ⟨rfl, rfl, Or.inl ⟨rfl, rfl, e3, e4⟩⟩
theorem eq_taken {σM σC : Sg} (h : Rel σM σC) (x y : Int32) : ∃ r, f_X12_taken x y σM = some r ∧ f_X11_taken x y σC = some r := by
  obtain ⟨⟨A, W, g⟩, hk', hr⟩ := id h
  have hm6 := g.ok.1.1
  unfold f_X12_taken f_X11_taken
  rw [one_x, shelf_x, m_inN 0 5 0 5 rfl rfl, m_inN 10 14 10 14 rfl rfl, show f_X11_within y 10 14 σC = rng y (nI 10) (nI 14) from c_in _ _ _ _, show f_X11_within y 0 5 σC = rng y (nI 0) (nI 5) from c_in _ _ _ _]
  by_cases q : rng x (nI 0) (nI 3) = true
  · obtain ⟨k, -, hk, rfl⟩ := (rng_nI (by decide) (by decide)).mp q
    have hk4 : k < 4 := by omega
    rw [if_pos q, if_pos q]
    have m13 := rd_nI (σ := σM) (p := 13) (n := 4) (i := k) hk4 (by decide)
    have m15 := rd_nI (σ := σM) (p := 15) (n := 4) (i := k) hk4 (by decide)
    have c11 := rd_nI (σ := σC) (p := 11) (n := 4) (i := k) hk4 (by decide)
    have c12 := rd_nI (σ := σC) (p := 12) (n := 4) (i := k) hk4 (by decide)
    have c13 := rd_nI (σ := σC) (p := 13) (n := 4) (i := k) hk4 (by decide)
    have b107 : ∀ t, f_X12_taken_b107 (nI k) t σM = if t = 0 then some (-13) else some (σM 14 k) := fun t => by
      unfold f_X12_taken_b107
      rw [rd_nI hk4 (by decide), bnd_some]
    have main : ∀ n, (n < 6 ∨ (10 ≤ n ∧ n < 15)) → ∃ r, f_X12_taken_b35 (nI k) (nI n) σM = some r ∧ f_X11_taken_b31 (nI k) (nI n) (b2i (rng (nI n) (nI 10) (nI 14))) σC = some r := by
      intro n hn
      have hb2 : b2i (rng (nI n) (nI 10) (nI 14)) = 0 ↔ n < 6 := by
        rcases hn with hn | hn
        · have e : rng (nI n) (nI 10) (nI 14) = false := by
            rw [Bool.eq_false_iff]
            intro z
            obtain ⟨t, h1, h2, e⟩ := (rng_nI (by decide) (by decide)).mp z
            have := (nI_eq (by omega) (by omega)).mp e
            omega
          rw [e]
          exact ⟨fun _ => hn, fun _ => rfl⟩
        · have e : rng (nI n) (nI 10) (nI 14) = true := (rng_nI (by decide) (by decide)).mpr ⟨n, hn.1, by omega, rfl⟩
          rw [e]
          exact ⟨fun z => absurd z (by decide), fun z => absurd z (by omega)⟩
      unfold f_X12_taken_b35 f_X11_taken_b31 f_X12_taken_b58
      simp only [m13, m15, c11, c12, c13, bnd_some, b107]
      rcases m_onShelf hr g.m g.c g.ok hk4 with ⟨b, hb, e1, e2, e3, e4⟩ | ⟨e1, e2, e3⟩
      · rw [e1, bnd_some, e2, bnd_some, if_pos (ge0 b (by omega)), if_neg (show ¬ nI b < 0 from nI_nlt (a := b) (b := 0) (by omega) (by omega)), e3, e4]
        simp only [if_true, if_pos, show ¬ (1 : Int32) = 0 by decide, if_false]
        by_cases h6 : n < 6
        · have hk0 := (g.ok.2.2.2.1 b (by omega)).1
          rw [if_neg (show ¬ (6 : Int32) ≤ nI n from nI_ge (b := 6) h6 (by decide)), if_neg (fun z => z (hb2.mpr h6)), show f_X12_its (nI b) 0 σM = some (nI (A (35 + 6 * b + 0))) from m_its g.m (by omega) (by decide), bnd_some, m_under (by omega) h6, rd_nI (by omega) (by decide), bnd_some, (g.c.2.2.2.1 b (by omega)).1, c_under (by omega) h6]
          by_cases u : underN (A (35 + 6 * b + 0)) n = true
          · rw [if_pos u]
            exact ⟨_, rfl, rfl⟩
          · rw [if_neg u]
            exact ⟨_, rfl, rfl⟩
        · rw [if_pos (show (6 : Int32) ≤ nI n from nI_le (a := 6) (by omega) (by omega)), if_pos (fun z => h6 (hb2.mp z))]
          exact ⟨_, rfl, rfl⟩
      · rw [e1, bnd_some, e2, bnd_some, if_neg (show ¬ (0 : Int32) ≤ -1 by decide), if_neg (show ¬ false = true by decide)]
        rcases e3 with ⟨d1, d2, d3, d4⟩ | ⟨d1, d2⟩
        · rw [d1, d2, if_pos (show (2 : Int32) ≤ nI 2 by decide), if_neg (show ¬ ¬ nI 1 = 1 by decide), if_pos (show (-1 : Int32) < 0 by decide), d3, d4]
          simp only [if_true, show ¬ (1 : Int32) = 0 by decide, if_false]
          by_cases u : nI n - 10 = σM 15 k
          · rw [if_neg (fun z => z u), if_neg (fun z => z u.symm)]
            exact ⟨_, rfl, rfl⟩
          · rw [if_pos u, if_pos (fun z => u z.symm)]
            exact ⟨_, rfl, rfl⟩
        · have h1 : ¬ (2 : Int32) ≤ σM 13 k := by
            rcases d1 with e | e <;> rw [e] <;> decide
          have h2 : ¬ σC 11 k = 1 := by
            rcases d2 with e | e <;> rw [e] <;> decide
          rw [if_neg h1, if_pos h2]
          exact ⟨_, rfl, rfl⟩
    by_cases q1 : rng y (nI 0) (nI 5) = true
    · obtain ⟨n, -, hn, rfl⟩ := (rng_nI (by decide) (by decide)).mp q1
      rw [if_pos q1, if_pos q1, ite_self]
      exact main n (by omega)
    · rw [if_neg q1, if_neg q1]
      by_cases q2 : rng y (nI 10) (nI 14) = true
      · obtain ⟨n, h1, hn, rfl⟩ := (rng_nI (by decide) (by decide)).mp q2
        rw [if_pos q2, if_pos q2]
        exact main n (by omega)
      · rw [if_neg q2, if_neg q2]
        exact ⟨_, rfl, rfl⟩
  · rw [if_neg q, if_neg q]
    exact ⟨_, rfl, rfl⟩
