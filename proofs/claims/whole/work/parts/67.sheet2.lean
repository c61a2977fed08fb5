theorem m_zero_l {k : Nat} (hk : k < 4) : ∀ (d i n : Nat) (σ : Sg), i + d = 40 → d < n → ∃ σ', f_X12_sheet_l69 (nI k) n (nI i) σ = some (1, σ') ∧ (∀ p, p ≠ 12 → σ' p = σ p) ∧ (∀ m, i ≤ m → m < 40 → σ' 12 (40 * k + m) = 0) ∧ (∀ m, m < 40 * k + i ∨ 40 * k + 40 ≤ m → σ' 12 m = σ 12 m)
  | d, i, 0, σ, _, h => absurd h (by omega)
  | d, i, n + 1, σ, hd, hn => by
    show ∃ σ', f_X12_sheet_b69 (f_X12_sheet_l69 (nI k) n) (nI k) (nI i) σ = some (1, σ') ∧ _
    unfold f_X12_sheet_b69
    cases d with
    | zero =>
      rw [if_pos (show (40 : Int32) ≤ nI i from nI_le (a := 40) (by omega) (by omega))]
      exact ⟨_, rfl, fun _ _ => rfl, fun m a b => absurd b (by omega), fun _ _ => rfl⟩
    | succ d =>
      rw [if_neg (show ¬ (40 : Int32) ≤ nI i from nI_ge (b := 40) (by omega) (by omega)), show (40 : Int32) = nI 40 from rfl, pk_mul, nI_add, wr_nI (by omega) (by decide), bnd_some, nI_1]
      obtain ⟨σ', p1, p2, p3, p4⟩ := m_zero_l hk d (i + 1) n (upS σ 12 (40 * k + i) 0) (by omega) (by omega)
      refine ⟨σ', p1, fun p hp => by rw [p2 p hp, upS_ne hp], fun m a b => ?_, fun m hm => by rw [p4 m (by omega), upS_nj (by omega)]⟩
      by_cases e : m = i
      · subst e; rw [p4 _ (by omega), upS_at]
      · exact p3 m (by omega) b
theorem c_zero_l {q : Nat} : ∀ (d i n : Nat) (σ : Sg), i + d = 40 → d < n → ∃ σ', f_J7_fill_d0a16_l6 q 0 40 n (nI i) σ = some σ' ∧ (∀ p, p ≠ q → σ' p = σ p) ∧ (∀ m, i ≤ m → m < 40 → σ' q m = 0) ∧ (∀ m, m < i → σ' q m = σ q m)
  | d, i, 0, σ, _, h => absurd h (by omega)
  | d, i, n + 1, σ, hd, hn => by
    show ∃ σ', f_J7_fill_d0a16_b6 (f_J7_fill_d0a16_l6 q 0 40 n) q 0 40 (nI i) σ = some σ' ∧ _
    unfold f_J7_fill_d0a16_b6
    cases d with
    | zero =>
      rw [if_pos (show (40 : Int32) ≤ nI i from nI_le (a := 40) (by omega) (by omega))]
      exact ⟨_, rfl, fun _ _ => rfl, fun m a b => absurd b (by omega), fun _ _ => rfl⟩
    | succ d =>
      rw [if_neg (show ¬ (40 : Int32) ≤ nI i from nI_ge (b := 40) (by omega) (by omega)), wr_nI (by omega) (by decide), bnd_some, nI_1]
      obtain ⟨σ', p1, p2, p3, p4⟩ := c_zero_l (q := q) d (i + 1) n (upS σ q i 0) (by omega) (by omega)
      refine ⟨σ', p1, fun p hp => by rw [p2 p hp, upS_ne hp], fun m a b => ?_, fun m hm => by rw [p4 m (by omega), upS_nj (by omega)]⟩
      by_cases e : m = i
      · subst e; rw [p4 _ (by omega), upS_at]
      · exact p3 m (by omega) b
theorem sheet_put {σM σC : Sg} (h : Rel σM σC) {k m : Nat} (hk : k < 4) (hm : m ≤ 40) {y : Int32} (hy : y = -1 ∨ ∃ t, t ≤ 4 ∧ y = nI t) : ∃ σM' σC', f_X12_sheet_l69 (nI k) 400 0 (upS (upS σM 10 k y) 11 k (nI m)) = some (1, σM') ∧ f_X11_sheet_b65 (nI k) (nI k) (nI m) (upS σC 9 k y) = some (1, σC') ∧ Rel σM' σC' := by
  obtain ⟨σM', p1, p2, p3, p4⟩ := m_zero_l hk 40 0 400 (upS (upS σM 10 k y) 11 k (nI m)) (by omega) (by omega)
  obtain ⟨σC', q1, q2, q3, q4⟩ := c_zero_l (q := 20 + k) 40 0 400 (upS (upS σC 9 k y) 10 k (nI m)) (by omega) (by omega)
  have q1' : f_J7_fill_d0a16 (20 + k) 0 (upS (upS σC 9 k y) 10 k (nI m)) = some σC' := q1
  refine ⟨σM', σC', p1, ?_, h.sheets (fun p a b c => by rw [p2 p c, upS_ne b, upS_ne a]) (fun p a b c => by rw [q2 p (by omega), upS_ne b, upS_ne a]) (fun l hl => ?_)⟩
  · unfold f_X11_sheet_b65
    rw [wr_nI hk (by decide), bnd_some, if_neg (nI_in hk (by decide)), nI_clamp (by omega), q1', bnd_some]
  · obtain ⟨u1, u2, u3, u4, u5⟩ := h.rest.sheet l hl
    by_cases e : l = k
    · subst e
      rw [p2 10 (by decide), p2 11 (by decide), q2 9 (by omega), q2 10 (by omega), upS_at, upS_ne (q := 9) (by decide), upS_at, upS_ne (q := 10) (by decide), upS_at, upS_at]
      exact ⟨rfl, rfl, hy, ⟨m, hm, rfl⟩, fun i hi => by rw [q3 i (by omega) hi, p3 i (by omega) hi]⟩
    · rw [p2 10 (by decide), p2 11 (by decide), q2 9 (by omega), q2 10 (by omega), q2 (20 + l) (by omega), upS_ne (q := 20 + l) (by omega), upS_ne (q := 20 + l) (by omega), upS_nj (i := k) (q := 10) (j := l) (σ := upS σC 9 k y) (by omega), upS_ne (q := 9) (by decide), upS_ne (q := 10) (p := 9) (by decide), upS_ne (q := 10) (p := 11) (by decide), upS_nj (p := 9) (by omega), upS_nj (p := 10) (by omega), upS_nj (p := 11) (by omega), upS_ne (q := 11) (by decide)]
      exact ⟨u1, u2, u3, u4, fun i hi => by rw [p4 _ (by omega), upS_ne (by decide), upS_ne (by decide)]; exact u5 i hi⟩
theorem sort_in {y : Int32} : rng y (-1) (nI 4) = true ↔ (y = -1 ∨ ∃ t, t ≤ 4 ∧ y = nI t) := by
  unfold rng
  rw [Bool.and_eq_true, decide_eq_true_eq, decide_eq_true_eq, Int32.le_iff_toInt_le, Int32.le_iff_toInt_le, nI_toInt (by decide)]
  have e1 : (-1 : Int32).toInt = -1 := rfl
  rw [e1]
  constructor
  · rintro ⟨a, b⟩
    by_cases e : y.toInt = -1
    · exact Or.inl (Int32.toInt_inj.mp e)
    · exact Or.inr ⟨y.toInt.toNat, by omega, nI_back (by omega)⟩
  · rintro (rfl | ⟨t, ht, rfl⟩)
    · rw [e1]; omega
    · rw [nI_toInt (by omega)]; omega
theorem eq_sheet {σM σC : Sg} (h : Rel σM σC) (x y n : Int32) : ∃ r σM' σC', f_X12_sheet x y n σM = some (r, σM') ∧ f_X11_sheet x y n σC = some (r, σC') ∧ Rel σM' σC' := by
  unfold f_X12_sheet f_X11_sheet
  rw [one_x, sheet_x, show f_X12_in y.toInt64 (-1) 4 σM = rng y (-1) (nI 4) from m_in y (-1) (nI 4) σM, show f_X11_within y (-1) 4 σC = rng y (-1) (nI 4) from c_in _ _ _ _]
  by_cases q : rng x (nI 0) (nI 3) = true
  · obtain ⟨k, -, hk, rfl⟩ := (rng_nI (by decide) (by decide)).mp q
    rw [if_pos q, if_pos q]
    by_cases q1 : rng y (-1) (nI 4) = true
    · rw [if_pos q1, if_pos q1]
      unfold f_X12_sheet_b33 f_X11_sheet_b31 f_X12_sheet_b44 f_X11_sheet_b43
      rw [wr_nI (by omega) (by decide), bnd_some, wr_nI (by omega) (by decide), bnd_some]
      rcases sort_in.mp q1 with rfl | ⟨t, ht, rfl⟩
      · obtain ⟨σM', σC', p1, p2, p3⟩ := sheet_put h (k := k) (m := 0) (y := -1) (by omega) (by omega) (Or.inl rfl)
        rw [if_pos (by decide), if_pos (by decide), if_neg (by decide), wr_nI (by omega) (by decide), bnd_some, if_pos rfl, if_pos rfl, wr_nI (by omega) (by decide), bnd_some, if_neg (by decide)]
        exact ⟨_, _, _, p1, p2, p3⟩
      · have g0 : ¬ nI t < 0 := nI_nlt (b := 0) (by omega) (by omega)
        have gm := ne_m1 (t := t) (by omega)
        rw [if_neg g0, if_neg g0, if_neg gm, if_neg gm, if_pos (ge0 t (by omega)), wr_nI (by omega) (by decide), bnd_some, if_pos gm]
        by_cases q2 : n ≤ 40
        · rw [if_pos q2, if_pos q2]
          by_cases q3 : 0 ≤ n
          · obtain ⟨m, -, hm, rfl⟩ := nI_rng (lo := 0) (hi := 40) (by decide) (by decide) q3 q2
            obtain ⟨σM', σC', p1, p2, p3⟩ := sheet_put h (k := k) (m := m) (y := nI t) (by omega) hm (Or.inr ⟨t, ht, rfl⟩)
            rw [if_pos q3, if_pos q3]
            exact ⟨_, _, _, p1, p2, p3⟩
          · rw [if_neg q3, if_neg q3]
            exact ⟨_, σM, σC, rfl, rfl, h⟩
        · rw [if_neg q2, if_neg q2]
          exact ⟨_, σM, σC, rfl, rfl, h⟩
    · rw [if_neg q1, if_neg q1]
      exact ⟨_, σM, σC, rfl, rfl, h⟩
  · rw [if_neg q, if_neg q]
    exact ⟨_, σM, σC, rfl, rfl, h⟩
