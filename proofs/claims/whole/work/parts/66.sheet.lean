/-! sheets -/
def shP (σM σC : Sg) : Prop := ∀ k, k < 4 → σC 9 k = σM 10 k ∧ σC 10 k = σM 11 k ∧ (σM 10 k = -1 ∨ ∃ t, t ≤ 4 ∧ σM 10 k = nI t) ∧ (∃ n, n ≤ 40 ∧ σM 11 k = nI n) ∧ ∀ i, i < 40 → σC (20 + k) i = σM 12 (40 * k + i)
theorem Rel.sheets {σM σC σM' σC' : Sg} (h : Rel σM σC) (q : ∀ p, p ≠ 10 → p ≠ 11 → p ≠ 12 → σM' p = σM p) (k : ∀ p, p ≠ 9 → p ≠ 10 → (p < 20 ∨ 24 ≤ p) → σC' p = σC p) (s : shP σM' σC') : Rel σM' σC' := by
  obtain ⟨⟨A, W, g⟩, hk', hr⟩ := h
  refine ⟨⟨A, W, g.fr (fun i _ => by rw [q 1 (by decide) (by decide) (by decide)]) (fun p a b c => k p (by omega) (by omega) (by omega))⟩, ⟨?_, ?_⟩, ?_⟩
  · rw [q 0 (by decide) (by decide) (by decide), k 0 (by decide) (by decide) (by decide)]; exact hk'.1
  · rw [q 0 (by decide) (by decide) (by decide)]
    refine hk'.2.elim Or.inl (fun ⟨A, W, g⟩ => Or.inr ⟨A, W, g.fr (fun i _ => ?_) (fun p a b c => ?_)⟩)
    · show σM' 2 i = σM 2 i
      rw [q 2 (by decide) (by decide) (by decide)]
    · rw [shf_in (by omega), shf_in (by omega), k _ (by omega) (by omega) (by omega)]
  · refine ⟨?_, fun j hj u hu => ?_, ?_, ?_, s, ?_, ?_⟩
    · rw [q 0 (by decide) (by decide) (by decide), k 0 (by decide) (by decide) (by decide)]; exact hr.rn
    · rw [q 8 (by decide) (by decide) (by decide), k (15 + j) (by omega) (by omega) (by omega)]; exact hr.rows j hj u hu
    · rw [q 0 (by decide) (by decide) (by decide), k 67 (by decide) (by decide) (by decide)]; exact hr.tn
    · rw [q 9 (by decide) (by decide) (by decide), k 68 (by decide) (by decide) (by decide)]; exact hr.tape
    · rw [q 13 (by decide) (by decide) (by decide), q 14 (by decide) (by decide) (by decide), q 15 (by decide) (by decide) (by decide), k 11 (by decide) (by decide) (by decide), k 12 (by decide) (by decide) (by decide), k 13 (by decide) (by decide) (by decide)]; exact hr.shelf
    · rw [q 0 (by decide) (by decide) (by decide), q 16 (by decide) (by decide) (by decide), k 0 (by decide) (by decide) (by decide), k 1 (by decide) (by decide) (by decide)]; exact hr.trn
theorem ge0 (t : Nat) (h : t < 100) : (0 : Int32) ≤ nI t := nI_le (a := 0) (by omega) (by omega)
theorem ne_m1 {t : Nat} (h : t < 1000) : ¬ nI t = (-1 : Int32) := fun z => by
  have := congrArg Int32.toInt z
  rw [nI_toInt (by omega)] at this
  exact absurd this (by have : (-1 : Int32).toInt = -1 := rfl; omega)
theorem narrow_eq : ∀ t, t ≤ 4 → ∀ (v : Int32) (σ σ' : Sg), f_X12_narrowed (nI t) v σ = f_X11_narrowed v (nI t) σ'
  | 0, _, v, σ, σ' => by
    unfold f_X12_narrowed f_X11_narrowed
    rw [if_neg (by decide), if_pos (by decide)]
  | 1, _, v, σ, σ' => by
    unfold f_X12_narrowed f_X11_narrowed
    rw [if_pos (by decide), if_neg (by decide), if_neg (by decide), if_pos (by decide)]
  | 2, _, v, σ, σ' => by
    unfold f_X12_narrowed f_X11_narrowed
    rw [if_pos (by decide), if_pos (by decide), if_pos (by decide), if_neg (by decide), if_neg (by decide), if_pos (by decide)]
  | 3, _, v, σ, σ' => by
    unfold f_X12_narrowed f_X11_narrowed
    rw [if_pos (by decide), if_pos (by decide), if_pos (by decide), if_neg (by decide), if_neg (by decide), if_neg (by decide), if_pos (by decide)]
  | 4, _, v, σ, σ' => by
    unfold f_X12_narrowed f_X11_narrowed
    rw [if_pos (by decide), if_pos (by decide), if_neg (show ¬ ¬ nI 4 = 4 by decide), if_neg (show ¬ nI 4 = 0 by decide), if_neg (show ¬ nI 4 = 1 by decide), if_neg (show ¬ nI 4 = 2 by decide), if_neg (show ¬ nI 4 = 3 by decide), if_pos (show nI 4 = 4 by decide)]
    by_cases q : v = 0
    · rw [if_neg (fun z => z q), if_pos q]
    · rw [if_pos q, if_neg q]
  | t + 5, h, _, _, _ => absurd h (by omega)
theorem hin4 {k : Nat} (hk : k < 4) : ¬ (nI k < 0 ∨ 4 ≤ k) := by
  have := nI_in (c := k) hk (show 4 < 2 ^ 31 by decide)
  rw [nI_clamp (by omega)] at this
  exact this
theorem one_x (x : Int32) (σ : Sg) : f_X12_isOne x σ = rng x (nI 0) (nI 3) := m_inN 0 3 0 3 rfl rfl
theorem sheet_x (x : Int32) (σ : Sg) : f_X11_isSheet x σ = rng x (nI 0) (nI 3) := c_in _ _ _ _
theorem eq_write {σM σC : Sg} (h : Rel σM σC) (x i v : Int32) : ∃ r σM' σC', f_X12_write x i v σM = some (r, σM') ∧ f_X11_write x i v σC = some (r, σC') ∧ Rel σM' σC' := by
  unfold f_X12_write f_X11_write
  rw [one_x, sheet_x]
  by_cases q : rng x (nI 0) (nI 3) = true
  · obtain ⟨k, -, hk, rfl⟩ := (rng_nI (by decide) (by decide)).mp q
    obtain ⟨s1, s2, s3, ⟨n, hn, s4⟩, s5⟩ := h.rest.sheet k (by omega)
    have m10 := rd_nI (σ := σM) (p := 10) (n := 4) (i := k) (by omega) (by decide)
    have m11 := rd_nI (σ := σM) (p := 11) (n := 4) (i := k) (by omega) (by decide)
    have c9 := rd_nI (σ := σC) (p := 9) (n := 4) (i := k) (by omega) (by decide)
    have c10 := rd_nI (σ := σC) (p := 10) (n := 4) (i := k) (by omega) (by decide)
    rw [if_pos q, if_pos q]
    simp only [m10, m11, c9, c10, bnd_some, s1, s2, s4]
    rcases s3 with e | ⟨t, ht, e⟩
    · rw [e, if_neg (by decide), if_neg (by decide)]
      exact ⟨_, σM, σC, rfl, rfl, h⟩
    · rw [e, if_pos (ge0 t (by omega)), if_pos (ne_m1 (by omega)), show f_X12_in i.toInt64 0 (nI n - 1).toInt64 σM = rng i (nI 0) (nI n - nI 1) from m_in i (nI 0) _ σM, show f_X11_within i 0 (nI n - 1) σC = rng i (nI 0) (nI n - nI 1) from c_in _ _ _ _]
      by_cases q2 : rng i (nI 0) (nI n - nI 1) = true
      · obtain ⟨j, hj, rfl⟩ := (kite_iff (by omega)).mp q2
        rw [if_pos q2, if_pos q2, show (40 : Int32) = nI 40 from rfl, pk_mul, nI_add, wr_nI (by omega) (by decide), bnd_some, if_neg (nI_in (by omega) (by decide)), nI_clamp (by omega), wr_nI (by omega) (by decide), bnd_some]
        rw [narrow_eq t ht v σM σC]
        refine ⟨_, _, _, rfl, rfl, h.sheets (fun p a b c => upS_ne c) (fun p a b c => upS_ne (by omega)) (fun l hl => ?_)⟩
        obtain ⟨u1, u2, u3, u4, u5⟩ := h.rest.sheet l hl
        rw [upS_ne (by omega), upS_ne (by omega), upS_ne (by omega), upS_ne (by omega)]
        refine ⟨u1, u2, u3, u4, fun m hm => ?_⟩
        rw [upS_ap, upS_ap]
        by_cases e2 : l = k ∧ m = j
        · rw [if_pos ⟨by omega, e2.2⟩, if_pos ⟨rfl, by omega⟩]
        · rw [if_neg (by omega), if_neg (by omega)]; exact u5 m hm
      · rw [if_neg q2, if_neg q2]
        exact ⟨_, σM, σC, rfl, rfl, h⟩
  · rw [if_neg q, if_neg q]
    exact ⟨_, σM, σC, rfl, rfl, h⟩
/-- why a sheet can't be taken for a sort, on both sides -/
theorem why_eq {σM σC : Sg} (h : Rest σM σC) {k : Nat} (hk : k < 4) (y : Int32) : ∃ r, f_X12_whyNot (nI k) y σM = some r ∧ f_X11_refusalAs (nI k) y σC = some r ∧ (r = 0 → σM 10 k = y) := by
  obtain ⟨s1, s2, s3, -, -⟩ := h.sheet k hk
  unfold f_X12_whyNot f_X11_refusalAs
  rw [rd_nI hk (by decide), bnd_some, bnd_some, rd_nI hk (by decide), bnd_some, bnd_some, s1]
  rcases s3 with e | ⟨t, ht, e⟩
  · rw [e, if_neg (by decide), if_neg (by decide)]
    exact ⟨_, rfl, rfl, fun z => absurd z (by decide)⟩
  · rw [e, if_pos (ge0 t (by omega)), if_pos (ne_m1 (by omega))]
    by_cases q : nI t = y
    · rw [if_pos q, if_neg (fun z => z q)]
      exact ⟨_, rfl, rfl, fun _ => q⟩
    · rw [if_neg q, if_pos q]
      exact ⟨_, rfl, rfl, fun z => absurd z (by decide)⟩
theorem eq_item {σM σC : Sg} (h : Rel σM σC) (x y i : Int32) : ∃ r, f_X12_item x y i σM = some r ∧ f_X11_item x y i σC = some r := by
  unfold f_X12_item f_X11_item
  rw [one_x, sheet_x, m_inN 0 4 0 4 rfl rfl, show f_X11_within y 0 4 σC = rng y (nI 0) (nI 4) from c_in _ _ _ _]
  by_cases q : rng x (nI 0) (nI 3) = true
  · obtain ⟨k, -, hk, rfl⟩ := (rng_nI (by decide) (by decide)).mp q
    rw [if_pos q, if_pos q]
    by_cases q1 : rng y (nI 0) (nI 4) = true
    · obtain ⟨r, r1, r2, -⟩ := why_eq h.rest (k := k) (by omega) y
      obtain ⟨s1, s2, s3, ⟨n, hn, s4⟩, s5⟩ := h.rest.sheet k (by omega)
      rw [if_pos q1, if_pos q1, r1, bnd_some, r2, bnd_some]
      by_cases q3 : r = 0
      · rw [if_pos q3, if_pos q3, rd_nI (by omega) (by decide), bnd_some, rd_nI (by omega) (by decide), bnd_some, s2, s4, show f_X12_in i.toInt64 0 (nI n - 1).toInt64 σM = rng i (nI 0) (nI n - nI 1) from m_in i (nI 0) _ σM, show f_X11_within i 0 (nI n - 1) σC = rng i (nI 0) (nI n - nI 1) from c_in _ _ _ _]
        by_cases q2 : rng i (nI 0) (nI n - nI 1) = true
        · obtain ⟨j, hj, rfl⟩ := (kite_iff (by omega)).mp q2
          rw [if_pos q2, if_pos q2, show (40 : Int32) = nI 40 from rfl, pk_mul, nI_add, rd_nI (by omega) (by decide), bnd_some, if_neg (nI_in (by omega) (by decide)), nI_clamp (by omega), rd_nI (by omega) (by decide), bnd_some, s5 j (by omega)]
          exact ⟨_, rfl, rfl⟩
        · rw [if_neg q2, if_neg q2]
          exact ⟨_, rfl, rfl⟩
      · rw [if_neg q3, if_neg q3]
        exact ⟨_, rfl, rfl⟩
    · rw [if_neg q1, if_neg q1]
      exact ⟨_, rfl, rfl⟩
  · rw [if_neg q, if_neg q]
    exact ⟨_, rfl, rfl⟩
