/-! calls that set one thing, and those that only look -/
theorem Rel.set {σM σC σM' σC' : Sg} {A A' : Nat → Nat} {W : WT} (h : Rel σM σC) (g : Hold σM σC A W) (ok' : okA A') (m' : rM σM' A') (s : sameM σM σM') (c' : rCs σC' A') (d' : rCd σC' 41 A' (σM' 1 4))
    (f : ∀ p, p < 24 ∨ 34 ≤ p → p ≠ 41 → p ≠ 42 → p ≠ 43 → σC' p = σC p) (z' : σC' 24 3 = σC 24 3) : Rel σM' σC' := by
  refine ⟨⟨A', W, ok', g.okw, m', c', d', g.rm.mono s, g.rc.mono (fun p a b => f p (by omega) (by omega) (by omega) (by omega)), ?_, ?_⟩, h.kept.go s.o (oC.of (fun p hp => f p (by omega) (by omega) (by omega) (by omega))), h.rest.go s.o (oC.of (fun p hp => f p (by omega) (by omega) (by omega) (by omega)))⟩
  · rw [z', s.2 6 (by omega)]; exact g.z
  · rw [f 34 (by omega) (by omega) (by omega) (by omega), s.2 1 (by omega)]; exact g.n
theorem m_becomes {σ : Sg} {i : Nat} (hi : i < 319) (v : Int32) : f_X12_becomes (nI i) v σ = some (σ 1 i, upS σ 1 i v) := by
  unfold f_X12_becomes
  rw [rd_nI hi (by decide), bnd_some, wr_nI hi (by decide), bnd_some]
theorem bit_nI {σ : Sg} {a : Nat} (h : a ≤ 1) : (if decide (a = 1) = true then some ((1 : Int32), σ) else some (0, σ)) = some (nI a, σ) := by
  by_cases q : a = 1
  · subst q; rfl
  · have : a = 0 := by omega
    subst this; rfl
theorem c_kiteOf_w {σ : Sg} {A : Nat → Nat} {sc : Int32} (hs : rCs σ A) (hd : rCd σ 41 A sc) (ok : okA A) {k w : Nat} (hk : k < A 0) (hw : w < 6) : f_X11_kiteOf (nI k) (nI w) σ = some (nI (A (35 + 6 * k + w)), σ) := by
  have hm := ok.1.1
  have hk6 : k < 6 := by omega
  unfold f_X11_kiteOf
  rw [c_isKite hs, if_pos ((kite_iff (by omega)).mpr ⟨k, hk, rfl⟩)]
  match w, hw with
  | 0, _ => rw [if_pos (by decide), rd_nI hk6 (by decide), bnd_some, (hs.2.2.2.1 k hk6).1]
  | 1, _ => rw [if_neg (by decide), if_pos (by decide), rd_nI hk6 (by decide), bnd_some, (hd.2.2.2.2 k hk6).1]
  | 2, _ => rw [if_neg (by decide), if_neg (by decide), if_pos (by decide), rd_nI hk6 (by decide), bnd_some, (hd.2.2.2.2 k hk6).2]
  | 3, _ => rw [if_neg (by decide), if_neg (by decide), if_neg (by decide), if_pos (by decide), rd_nI hk6 (by decide), bnd_some, (hs.2.2.2.1 k hk6).2]
  | 4, _ => rw [if_neg (by decide), if_neg (by decide), if_neg (by decide), if_neg (by decide), if_pos (by decide), c_aloft hd ok hk6, bit_nI (ok_al ok k hk6)]
  | 5, _ => rw [if_neg (by decide), if_neg (by decide), if_neg (by decide), if_neg (by decide), if_neg (by decide), if_pos (by decide), c_served hd ok hk6, bit_nI (ok_sv ok k hk6)]
  | w + 6, q => exact absurd q (by omega)
theorem m_isPart {w b : Nat} (h : (w = 1 ∧ b = 63) ∨ (w = 2 ∧ b = 9) ∨ (w = 3 ∧ b = 5) ∨ (w = 4 ∧ b = 1) ∨ (w = 5 ∧ b = 1)) (x : Int32) (σ : Sg) : f_X12_isPart (nI w) x σ = rng x (nI 0) (nI b) := by
  unfold f_X12_isPart f_X12_isCell f_X12_isFarm
  rcases h with ⟨rfl, rfl⟩ | ⟨rfl, rfl⟩ | ⟨rfl, rfl⟩ | ⟨rfl, rfl⟩ | ⟨rfl, rfl⟩
  · rw [if_pos (by decide)]; exact m_inN 0 63 0 63 rfl rfl
  · rw [if_neg (by decide), if_pos (by decide)]; exact m_inN 0 9 0 9 rfl rfl
  · rw [if_neg (by decide), if_neg (by decide), if_pos (by decide)]; exact m_inN 0 5 0 5 rfl rfl
  · rw [if_neg (by decide), if_neg (by decide), if_neg (by decide), m_inN 4 5 4 5 rfl rfl, m_inN 0 1 0 1 rfl rfl, if_pos (by decide)]
    cases rng x (nI 0) (nI 1) <;> rfl
  · rw [if_neg (by decide), if_neg (by decide), if_neg (by decide), m_inN 4 5 4 5 rfl rfl, m_inN 0 1 0 1 rfl rfl, if_pos (by decide)]
    cases rng x (nI 0) (nI 1) <;> rfl
theorem c_mostOf {w b : Nat} (h : (w = 1 ∧ b = 63) ∨ (w = 2 ∧ b = 9) ∨ (w = 3 ∧ b = 5) ∨ (w = 4 ∧ b = 1) ∨ (w = 5 ∧ b = 1)) (σ : Sg) : f_X11_mostOf (nI w) σ = nI b := by
  rcases h with ⟨rfl, rfl⟩ | ⟨rfl, rfl⟩ | ⟨rfl, rfl⟩ | ⟨rfl, rfl⟩ | ⟨rfl, rfl⟩ <;> rfl
theorem okA_any {A : Nat → Nat} (ok : okA A) {k w b n : Nat} (hk : k < A 0) (h : (w = 1 ∧ b = 63) ∨ (w = 2 ∧ b = 9) ∨ (w = 3 ∧ b = 5) ∨ (w = 4 ∧ b = 1) ∨ (w = 5 ∧ b = 1)) (hn : n ≤ b) : okA (up1 A (35 + 6 * k + w) n) := by
  have hm := ok.1.1
  by_cases h4 : w = 4
  · subst h4; exact okA_al ok hk (by omega)
  · by_cases h5 : w = 5
    · subst h5; exact okA_sv ok hk (by omega)
    · exact okA_kw ok (by omega) (by omega)
theorem eq_chg {σM σC : Sg} (h : Rel σM σC) (x v : Int32) {w b : Nat} (hw : (w = 1 ∧ b = 63) ∨ (w = 2 ∧ b = 9) ∨ (w = 3 ∧ b = 5) ∨ (w = 4 ∧ b = 1) ∨ (w = 5 ∧ b = 1)) : ∃ r σM' σC', f_X12_change x (nI w) v σM = some (r, σM') ∧ f_X11_change x (nI w) v σC = some (r, σC') ∧ Rel σM' σC' := by
  obtain ⟨⟨A, W, g⟩, hk, hr⟩ := id h
  have hm := g.ok.1.1
  unfold f_X12_change f_X11_change
  rw [m_isKite g.m, c_isKite g.c, m_isPart hw, c_mostOf hw, c_in, show (0 : Int32) = nI 0 from rfl]
  by_cases q : rng x (nI 0) (nI (A 0) - nI 1) = true
  · rw [if_pos q, if_pos q]
    obtain ⟨k, hk0, rfl⟩ := (kite_iff (by omega)).mp q
    have hk6 : k < 6 := by omega
    by_cases q2 : rng v (nI 0) (nI b) = true
    · rw [if_pos q2, if_pos q2]
      obtain ⟨n, -, hn, rfl⟩ := (rng_nI (by omega) (by decide)).mp q2
      have ok' := okA_any (n := n) g.ok hk0 hw hn
      have m' : rM (upS σM 1 (35 + 6 * k + w) (nI n)) (up1 A (35 + 6 * k + w) n) := rM.up g.m
      have s' : sameM σM (upS σM 1 (35 + 6 * k + w) (nI n)) := sameM.up (by omega) (by omega) (by omega)
      have e4 : upS σM 1 (35 + 6 * k + w) (nI n) 1 4 = σM 1 4 := upS_nj (by omega)
      rw [m_at, m_becomes (by omega), bd2_some, c_kiteOf_w g.c g.d g.ok hk0 (by omega), bd2_some, g.m _ (by omega) (by omega) (by omega) (by omega)]
      rcases hw with ⟨rfl, rfl⟩ | ⟨rfl, rfl⟩ | ⟨rfl, rfl⟩ | ⟨rfl, rfl⟩ | ⟨rfl, rfl⟩
      · rw [if_pos (by decide), wr_nI hk6 (by decide), bnd_some]
        exact ⟨_, _, _, rfl, rfl, h.set g ok' m' s' ((g.c.A (fun j hj => up1_ne (by omega))).mono (fun p a b => upS_ne (by omega))) (by rw [e4]; exact g.d.loc hk6) (fun p a b c d => upS_ne c) (by rw [upS_ne (by decide)])⟩
      · rw [if_neg (by decide), if_pos (by decide), wr_nI hk6 (by decide), bnd_some]
        exact ⟨_, _, _, rfl, rfl, h.set g ok' m' s' ((g.c.A (fun j hj => up1_ne (by omega))).mono (fun p a b => upS_ne (by omega))) (by rw [e4]; exact g.d.str hk6) (fun p a b c d => upS_ne d) (by rw [upS_ne (by decide)])⟩
      · rw [if_neg (by decide), if_neg (by decide), if_pos (by decide), wr_nI hk6 (by decide), bnd_some]
        exact ⟨_, _, _, rfl, rfl, h.set g ok' m' s' (g.c.nm hk6) (by rw [e4]; exact (g.d.kw (by omega)).mono (upS_ne (by decide)) (upS_ne (by decide)) (upS_ne (by decide))) (fun p a b c d => upS_ne (by omega)) (by rw [upS_ne (by decide)])⟩
      · rw [if_neg (by decide), if_neg (by decide), if_neg (by decide), if_pos (by decide), lt_ap]
        exact ⟨_, _, _, rfl, rfl, h.set g ok' m' s' ((g.c.A (fun j hj => up1_ne (by omega))).mono (fun p a b => upS_ne (by omega))) (by rw [e4]; exact g.d.al g.ok hk6 (by omega) _) (fun p a b c d => upS_ne b) (by rw [upS_ne (by decide)])⟩
      · rw [if_neg (by decide), if_neg (by decide), if_neg (by decide), if_neg (by decide), lt_ap]
        exact ⟨_, _, _, rfl, rfl, h.set g ok' m' s' ((g.c.A (fun j hj => up1_ne (by omega))).mono (fun p a b => upS_ne (by omega))) (by rw [e4]; exact g.d.sv g.ok hk6 (by omega) _) (fun p a b c d => upS_ne b) (by rw [upS_ne (by decide)])⟩
    · rw [if_neg q2, if_neg q2]
      exact ⟨_, σM, σC, rfl, rfl, h⟩
  · rw [if_neg q, if_neg q]
    exact ⟨_, σM, σC, rfl, rfl, h⟩
theorem eq_change {σM σC : Sg} (h : Rel σM σC) (x y v : Int32) : ∃ r σM' σC', f_X12_change x y v σM = some (r, σM') ∧ f_X11_change x y v σC = some (r, σC') ∧ Rel σM' σC' := by
  by_cases q1 : y = nI 1
  · subst q1; exact eq_chg h x v (Or.inl ⟨rfl, rfl⟩)
  by_cases q2 : y = nI 2
  · subst q2; exact eq_chg h x v (Or.inr (Or.inl ⟨rfl, rfl⟩))
  by_cases q3 : y = nI 3
  · subst q3; exact eq_chg h x v (Or.inr (Or.inr (Or.inl ⟨rfl, rfl⟩)))
  by_cases q4 : y = nI 4
  · subst q4; exact eq_chg h x v (Or.inr (Or.inr (Or.inr (Or.inl ⟨rfl, rfl⟩))))
  by_cases q5 : y = nI 5
  · subst q5; exact eq_chg h x v (Or.inr (Or.inr (Or.inr (Or.inr ⟨rfl, rfl⟩))))
  have hp : f_X12_isPart y v σM = false := by
    unfold f_X12_isPart
    rw [if_neg (show ¬ y = 1 from q1), if_neg (show ¬ y = 2 from q2), if_neg (show ¬ y = 3 from q3), m_inN 4 5 4 5 rfl rfl, if_neg (fun z => ?_)]
    obtain ⟨n, h1, h2, rfl⟩ := (rng_nI (by decide) (by decide)).mp z
    by_cases e : n = 4
    · subst e; exact q4 rfl
    · have : n = 5 := by omega
      subst this; exact q5 rfl
  have hc : f_X11_within v 0 (f_X11_mostOf y σC) σC = false := by
    unfold f_X11_mostOf
    rw [if_neg (show ¬ y = 1 from q1), if_neg (show ¬ y = 2 from q2), if_neg (show ¬ y = 3 from q3), if_neg (show ¬ y = 4 from q4), if_neg (show ¬ y = 5 from q5), c_in]
    unfold rng
    rw [Bool.and_eq_false_iff, decide_eq_false_iff_not, decide_eq_false_iff_not, Int32.le_iff_toInt_le, Int32.le_iff_toInt_le]
    have e0 : (0 : Int32).toInt = 0 := rfl
    have e1 : (-1 : Int32).toInt = -1 := rfl
    rw [e0, e1]
    omega
  obtain ⟨⟨A, W, g⟩, hk, hr⟩ := id h
  unfold f_X12_change f_X11_change
  rw [m_isKite g.m, c_isKite g.c, hp, hc]
  by_cases q : rng x (nI 0) (nI (A 0) - nI 1) = true
  · rw [if_pos q, if_pos q]
    exact ⟨_, σM, σC, rfl, rfl, h⟩
  · rw [if_neg q, if_neg q]
    exact ⟨_, σM, σC, rfl, rfl, h⟩
theorem eq_remake {σM σC : Sg} (h : Rel σM σC) (x v : Int32) : ∃ r σM' σC', f_X12_remake x v σM = some (r, σM') ∧ f_X11_remake x v σC = some (r, σC') ∧ Rel σM' σC' := by
  obtain ⟨⟨A, W, g⟩, hk, hr⟩ := id h
  have hm := g.ok.1.1
  unfold f_X12_remake f_X11_remake f_X12_isKind
  rw [m_isKite g.m, c_isKite g.c, m_inN 1 5 1 5 rfl rfl, c_in, show (1 : Int32) = nI 1 from rfl, show (5 : Int32) = nI 5 from rfl, show (0 : Int32) = nI 0 from rfl]
  by_cases q : rng x (nI 0) (nI (A 0) - nI 1) = true
  · rw [if_pos q, if_pos q]
    obtain ⟨k, hk0, rfl⟩ := (kite_iff (by omega)).mp q
    have hk6 : k < 6 := by omega
    by_cases q2 : rng v (nI 1) (nI 5) = true
    · rw [if_pos q2, if_pos q2]
      obtain ⟨n, -, hn, rfl⟩ := (rng_nI (by omega) (by decide)).mp q2
      have ok' := okA_kw (w := 0) (x := n) g.ok hk6 (by omega)
      have m' : rM (upS σM 1 (35 + 6 * k + 0) (nI n)) (up1 A (35 + 6 * k + 0) n) := rM.up g.m
      have s' : sameM σM (upS σM 1 (35 + 6 * k + 0) (nI n)) := sameM.up (by omega) (by omega) (by omega)
      have e4 : upS σM 1 (35 + 6 * k + 0) (nI n) 1 4 = σM 1 4 := upS_nj (by omega)
      rw [m_at, m_becomes (by omega), bd2_some, g.m _ (by omega) (by omega) (by omega) (by omega), rd_nI hk6 (by decide), bnd_some, wr_nI hk6 (by decide), bnd_some, (g.c.2.2.2.1 k hk6).1]
      exact ⟨_, _, _, rfl, rfl, h.set g ok' m' s' (g.c.so hk6) (by rw [e4]; exact (g.d.kw (by omega)).mono (upS_ne (by decide)) (upS_ne (by decide)) (upS_ne (by decide))) (fun p a b c d => upS_ne (by omega)) (by rw [upS_ne (by decide)])⟩
    · rw [if_neg q2, if_neg q2]
      exact ⟨_, σM, σC, rfl, rfl, h⟩
  · rw [if_neg q, if_neg q]
    exact ⟨_, σM, σC, rfl, rfl, h⟩
