/-! best, ith, ways, writ, bars: both sides -/
theorem eqQ.of {σ σ' : Sg} (q1 : ∀ i, i < 319 → σ' 1 i = σ 1 i) (q2 : ∀ p, p = 2 ∨ 8 ≤ p → σ' p = σ p) (q3 : ∀ i, i < 8 ∨ 15 ≤ i → σ' 0 i = σ 0 i) : eqQ σ σ' := ⟨q1, fun p hp => q2 p hp, fun i hi => q3 i (by omega)⟩
/-- the search of both sides -/
theorem eq_search {σM σC : Sg} {A : Nat → Nat} {W : WT} (g : Hold σM σC A W) {N u v : Nat} (hN : N ≤ 4) (hu : u < 64) (hv : v < 64) :
    ∃ σM' σC' r, f_X12_plansOf (nI N) (nI u) σM = some (r, σM') ∧ r = σM' 0 13 ∧ f_X6_search (nI N) (nI v) σC = some σC' ∧ PlR A u v σM' σC' ∧ ¬ σM' 0 8 = -1 ∧ eqQ σM σM' ∧ eqK σC σC' := by
  have nd : Node W A u v 0 (fun _ => 0) A (σM 1 4) (upS (upS (upS (upS (upS σM 0 8 (-1)) 0 9 0) 0 10 5) 0 11 0) 0 12 (nI u)) (f_X10_copy 82 41 (upS (upS (upS (upS σC 78 8 (nI v)) 78 5 (-1)) 78 7 (-3)) 78 9 0)) := by
    have d0 : rCd (upS (upS (upS (upS σC 78 8 (nI v)) 78 5 (-1)) 78 7 (-3)) 78 9 0) 41 A (σM 1 4) := g.d.mono (by rw [upS_ne (by decide), upS_ne (by decide), upS_ne (by decide), upS_ne (by decide)]) (by rw [upS_ne (by decide), upS_ne (by decide), upS_ne (by decide), upS_ne (by decide)]) (by rw [upS_ne (by decide), upS_ne (by decide), upS_ne (by decide), upS_ne (by decide)])
    obtain ⟨c1, c2⟩ := c_copy (n := 82) (m := 41) (by omega) d0
    have ec : ∀ p, p ≠ 82 → p ≠ 83 → p ≠ 84 → p ≠ 78 → f_X10_copy 82 41 (upS (upS (upS (upS σC 78 8 (nI v)) 78 5 (-1)) 78 7 (-3)) 78 9 0) p = σC p := fun p a b c d => by
      rw [c2 p a b c, upS_ne d, upS_ne d, upS_ne d, upS_ne d]
    have e78 := c2 78 (by decide) (by decide) (by decide)
    have em : ∀ p, p ≠ 0 → upS (upS (upS (upS (upS σM 0 8 (-1)) 0 9 0) 0 10 5) 0 11 0) 0 12 (nI u) p = σM p := fun p hp => by rw [upS_ne hp, upS_ne hp, upS_ne hp, upS_ne hp, upS_ne hp]
    refine ⟨⟨fun i a b c d => by rw [em 1 (by decide)]; exact g.m i a b c d, g.rm.eq (fun i _ _ => by rw [em 1 (by decide)])⟩, ⟨g.c.mono (fun p a b => ec p (by omega) (by omega) (by omega) (by omega)), c1, g.rc.mono (fun p a b => ec p (by omega) (by omega) (by omega) (by omega))⟩, fun k hk => absurd hk (by omega), Or.inl ⟨?_, ?_⟩, ⟨0, by omega, ?_, ?_⟩, ⟨upS_at, ?_, hu, hv⟩, fun _ => Or.inl ⟨?_, ?_⟩⟩
    · rw [upS_nj (by omega), upS_nj (by omega), upS_nj (by omega), upS_nj (by omega), upS_at]
    · rw [e78, upS_nj (by omega), upS_nj (by omega), upS_at]
    · rw [upS_nj (by omega), upS_at]; rfl
    · rw [e78, upS_at]; rfl
    · rw [e78, upS_nj (by omega), upS_nj (by omega), upS_nj (by omega), upS_at]
    · rw [upS_nj (by omega), upS_nj (by omega), upS_at]; rfl
    · rw [e78, upS_nj (by omega), upS_at]
  have hS : NodeS A 0 0 0 N (fun _ => 0) A := ⟨g.ok, rfl, rfl, by omega, rfl, by omega, hN⟩
  obtain ⟨σ1, σ2, p1, p2, p3, p4, p5, p6⟩ := eq_plans g.okw (A0 := A) (u := u) (v := v) (N := N) N 0 6 6 (by omega) (by omega) (by omega) 0 0 _ A _ _ _ hS nd
  have p1' : f_X12_plans 6 0 (nI N) 0 (upS (upS (upS (upS (upS σM 0 8 (-1)) 0 9 0) 0 10 5) 0 11 0) 0 12 (nI u)) = some σ1 := p1
  have p2' : f_X6_extend 6 0 (nI N) 0 0 (f_X10_copy 82 41 (upS (upS (upS (upS σC 78 8 (nI v)) 78 5 (-1)) 78 7 (-3)) 78 9 0)) = some σ2 := p2
  unfold f_X12_plansOf f_X6_search
  simp only [lt_ap]
  rw [p1', bnd_some, p2', bnd_some]
  refine ⟨σ1, σ2, _, rfl, rfl, rfl, p3, p4, eqQ.of (fun i hi => ?_) (fun p hp => ?_) (fun i hi => ?_), eqK.of (fun p hp h40 => ?_)⟩
  · rw [p5.1 i hi, upS_ne (by decide), upS_ne (by decide), upS_ne (by decide), upS_ne (by decide), upS_ne (by decide)]
  · rw [p5.2.1 p (by omega), upS_ne (by omega), upS_ne (by omega), upS_ne (by omega), upS_ne (by omega), upS_ne (by omega)]
  · rw [p5.2.2.1 i hi, upS_nj (by omega), upS_nj (by omega), upS_nj (by omega), upS_nj (by omega), upS_nj (by omega)]
  · rw [p6.1 p (by omega) h40 (by omega) (by omega) (by omega), (c_scopy (n := 82) (m := 41) (by omega) _).2.2 p (by omega) (by omega) (by omega), upS_ne (by omega), upS_ne (by omega), upS_ne (by omega), upS_ne (by omega)]
theorem long_x (x : Int32) (σ : Sg) : f_X12_isLong x σ = rng x (nI 0) (nI 4) := m_inN 0 4 0 4 rfl rfl
theorem plan_x (x : Int32) (σ : Sg) : f_X11_isPlanLength x σ = rng x (nI 0) (nI 4) := c_in _ _ _ _
theorem PlR.top {A : Nat → Nat} {u v : Nat} {σM σC : Sg} (h : PlR A u v σM σC) (q : ¬ σM 0 8 = -1) : ∃ w, w < 1000 ∧ σM 0 8 = nI w ∧ σC 78 5 = nI w ∧ σC 78 6 = σM 0 9 ∧ ∃ L, L ≤ 4 ∧ A 3 + L ≤ 16 ∧ σM 0 13 = nI L ∧ σC 78 4 = nI L ∧ ∀ k, k < L → ∃ a, a ≤ A 0 ∧ σM 7 k = nI a ∧ σC 81 k = nI a :=
  h.1.resolve_left (fun z => q z.1)
theorem eq_best {σM σC : Sg} (h : Rel σM σC) (x : Int32) : ∃ r σM' σC', f_X12_best x σM = some (r, σM') ∧ f_X11_best x σC = some (r, σC') ∧ Rel σM' σC' := by
  obtain ⟨⟨A, W, g⟩, hk', hr⟩ := id h
  unfold f_X12_best f_X11_best
  rw [long_x, plan_x]
  by_cases q : rng x (nI 0) (nI 4) = true
  · obtain ⟨N, -, hN, rfl⟩ := (rng_nI (by decide) (by decide)).mp q
    obtain ⟨σ1, σ2, r, s1, s2, s3, s4, s5, s6, s7⟩ := eq_search g hN (u := 0) (v := 0) (by omega) (by omega)
    have s1' : f_X12_plansOf (nI N) 0 σM = some (r, σ1) := s1
    have s3' : f_X6_search (nI N) 0 σC = some σ2 := s3
    obtain ⟨w, -, t1, t2, -⟩ := s4.top s5
    rw [if_pos q, if_pos q, s1', bd2_some, s3', bnd_some, t1, t2]
    exact ⟨_, _, _, rfl, rfl, h.fr s6 s7⟩
  · rw [if_neg q, if_neg q]
    exact ⟨_, σM, σC, rfl, rfl, h⟩
theorem eq_ways {σM σC : Sg} (h : Rel σM σC) (x : Int32) : ∃ r σM' σC', f_X12_ways x σM = some (r, σM') ∧ f_X11_ways x σC = some (r, σC') ∧ Rel σM' σC' := by
  obtain ⟨⟨A, W, g⟩, hk', hr⟩ := id h
  unfold f_X12_ways f_X11_ways
  rw [long_x, plan_x]
  by_cases q : rng x (nI 0) (nI 4) = true
  · obtain ⟨N, -, hN, rfl⟩ := (rng_nI (by decide) (by decide)).mp q
    obtain ⟨σ1, σ2, r, s1, s2, s3, s4, s5, s6, s7⟩ := eq_search g hN (u := 0) (v := 0) (by omega) (by omega)
    have s1' : f_X12_plansOf (nI N) 0 σM = some (r, σ1) := s1
    have s3' : f_X6_search (nI N) 0 σC = some σ2 := s3
    obtain ⟨w, -, t1, t2, t3, -⟩ := s4.top s5
    rw [if_pos q, if_pos q, s1', bd2_some, s3', bnd_some, t3]
    exact ⟨_, _, _, rfl, rfl, h.fr s6 s7⟩
  · rw [if_neg q, if_neg q]
    exact ⟨_, σM, σC, rfl, rfl, h⟩
theorem eq_ith {σM σC : Sg} (h : Rel σM σC) (x y : Int32) : ∃ r σM' σC', f_X12_ith x y σM = some (r, σM') ∧ f_X11_ith x y σC = some (r, σC') ∧ Rel σM' σC' := by
  obtain ⟨⟨A, W, g⟩, hk', hr⟩ := id h
  unfold f_X12_ith f_X11_ith
  rw [long_x, plan_x, m_inN 0 3 0 3 rfl rfl, show f_X11_within y 0 3 σC = rng y (nI 0) (nI 3) from c_in _ _ _ _]
  by_cases q : rng x (nI 0) (nI 4) = true
  · rw [if_pos q, if_pos q]
    by_cases q1 : rng y (nI 0) (nI 3) = true
    · obtain ⟨N, -, hN, rfl⟩ := (rng_nI (by decide) (by decide)).mp q
      obtain ⟨k, -, hk, rfl⟩ := (rng_nI (by decide) (by decide)).mp q1
      obtain ⟨σ1, σ2, r, s1, s2, s3, s4, s5, s6, s7⟩ := eq_search g hN (u := 0) (v := 0) (by omega) (by omega)
      have s1' : f_X12_plansOf (nI N) 0 σM = some (r, σ1) := s1
      have s3' : f_X6_search (nI N) 0 σC = some σ2 := s3
      obtain ⟨w, -, t1, t2, t3, L, l1, l2, l3, l4, l5⟩ := s4.top s5
      rw [if_pos q1, if_pos q1, s1', bd2_some, s3', bnd_some, s2, l3, l4]
      by_cases q2 : L ≤ k
      · rw [if_pos (nI_le q2 (by omega)), if_pos (nI_le q2 (by omega))]
        exact ⟨_, _, _, rfl, rfl, h.fr s6 s7⟩
      · obtain ⟨a, -, a1, a2⟩ := l5 k (by omega)
        rw [if_neg (nI_ge (by omega) (by omega)), if_neg (nI_ge (by omega) (by omega)), rd_nI (by omega) (by decide), rd_nI (by omega) (by decide), bnd_some, bnd_some, a1, a2]
        exact ⟨_, _, _, rfl, rfl, h.fr s6 s7⟩
    · rw [if_neg q1, if_neg q1]
      exact ⟨_, σM, σC, rfl, rfl, h⟩
  · rw [if_neg q, if_neg q]
    exact ⟨_, σM, σC, rfl, rfl, h⟩
theorem all_x {σM σC : Sg} {A : Nat → Nat} {W : WT} (g : Hold σM σC A W) (y : Int32) : f_X12_areKites y σM = rng y (nI 0) (nI (2 ^ A 0 - 1)) ∧ f_X11_within y 0 (f_X1_allKites σC) σC = rng y (nI 0) (nI (2 ^ A 0 - 1)) := by
  have hm := g.ok.1.1
  constructor
  · unfold f_X12_areKites
    rw [g.m 0 (by decide) (by decide) (by decide) (by decide), all_nI _ (by omega), show (0 : Int64) = (nI 0).toInt64 from rfl]
    exact m_in _ _ _ _
  · unfold f_X1_allKites
    rw [g.c.1, all_nI _ (by omega)]
    exact c_in _ _ _ _
theorem eq_writ {σM σC : Sg} (h : Rel σM σC) (x y : Int32) : ∃ r σM' σC', f_X12_writ x y σM = some (r, σM') ∧ f_X11_writ x y σC = some (r, σC') ∧ Rel σM' σC' := by
  obtain ⟨⟨A, W, g⟩, hk', hr⟩ := id h
  have hm := g.ok.1.1
  have h64 : (2 : Nat) ^ A 0 ≤ 2 ^ 6 := Nat.pow_le_pow_right (by decide) hm
  have hpos : 0 < (2 : Nat) ^ A 0 := Nat.pow_pos (by decide)
  obtain ⟨y1, y2⟩ := all_x g y
  unfold f_X12_writ f_X11_writ
  rw [long_x, plan_x, y1, y2]
  by_cases q : rng x (nI 0) (nI 4) = true
  · rw [if_pos q, if_pos q]
    by_cases q1 : rng y (nI 0) (nI (2 ^ A 0 - 1)) = true
    · obtain ⟨N, -, hN, rfl⟩ := (rng_nI (by decide) (by decide)).mp q
      obtain ⟨u, -, hu, rfl⟩ := (rng_nI (by omega) (by decide)).mp q1
      obtain ⟨σ1, σ2, r, s1, s2, s3, s4, s5, s6, s7⟩ := eq_search g hN (u := u) (v := u) (by omega) (by omega)
      rw [if_pos q1, if_pos q1, s1, bd2_some, s3, bnd_some]
      rcases s4.2.2.2 rfl with ⟨o1, o2⟩ | ⟨t, o0, o1, o2⟩
      · rw [o1, o2, if_neg (show ¬ nI 5 ≤ (4 : Int32) by decide)]
        exact ⟨_, _, _, rfl, rfl, h.fr s6 s7⟩
      · rw [o1, o2, if_pos (show nI t ≤ (4 : Int32) from nI_le (b := 4) o0 (by decide))]
        exact ⟨_, _, _, rfl, rfl, h.fr s6 s7⟩
    · rw [if_neg q1, if_neg q1]
      exact ⟨_, σM, σC, rfl, rfl, h⟩
  · rw [if_neg q, if_neg q]
    exact ⟨_, σM, σC, rfl, rfl, h⟩
theorem eq_bars_l {σM σC : Sg} {A : Nat → Nat} (hm0 : σM 1 0 = nI (A 0)) (hc0 : σC 24 1 = nI (A 0)) (h6 : A 0 ≤ 6) {u s : Nat} (hu : u < 64) (hs : s < 64) (e1 : σM 0 11 = nI s) (e2 : σC 78 9 = nI s) : ∀ d k n1 n2, k + d = A 0 → d < n1 → d < n2 →
    ∃ r, f_X12_bars_l27 (nI u) n1 (nI k) σM = some (r, σM) ∧ f_X11_bars_l35 (nI u) n2 (nI k) σC = some (r, σC)
  | d, k, 0, n2, _, h, _ => absurd h (by omega)
  | d, k, n1 + 1, 0, _, _, h => absurd h (by omega)
  | d, k, n1 + 1, n2 + 1, hd, hn1, hn2 => by
    show ∃ r, f_X12_bars_b27 (f_X12_bars_l27 (nI u) n1) (nI u) (nI k) σM = some (r, σM) ∧ f_X11_bars_b35 (f_X11_bars_l35 (nI u) n2) (nI u) (nI k) σC = some (r, σC)
    unfold f_X12_bars_b27 f_X11_bars_b35
    rw [hm0, hc0]
    cases d with
    | zero => rw [if_pos (nI_le (by omega) (by omega)), if_pos (nI_le (by omega) (by omega))]; exact ⟨_, rfl, rfl⟩
    | succ d =>
      have hk : k < 6 := by omega
      have ho := off_b u hu s hs k hk
      have hlt : u - (u &&& s) < 64 := by omega
      obtain ⟨r, i1, i2⟩ := eq_bars_l hm0 hc0 h6 hu hs e1 e2 d (k + 1) n1 n2 (by omega) (by omega) (by omega)
      rw [if_neg (nI_ge (by omega) (by omega)), if_neg (nI_ge (by omega) (by omega)), e1, e2, and_off u hu s hs, c_isIn hu hk, c_isIn hs hk, nI_1]
      by_cases q : (u - (u &&& s)) / 2 ^ k % 2 = 1
      · obtain ⟨q1, q2⟩ := ho.mp q
        rw [if_neg (fun z => z ((m_bit0 _ hlt k hk).mpr q)), if_pos (decide_eq_true q1), if_neg (fun z => q2 (of_decide_eq_true z))]
        exact ⟨_, rfl, rfl⟩
      · rw [if_pos (fun z => q ((m_bit0 _ hlt k hk).mp z))]
        refine ⟨r, i1, ?_⟩
        by_cases q1 : u / 2 ^ k % 2 = 1
        · rw [if_pos (decide_eq_true q1)]
          by_cases q2 : s / 2 ^ k % 2 = 1
          · rw [if_pos (decide_eq_true q2)]
            exact i2
          · exact absurd (ho.mpr ⟨q1, q2⟩) q
        · rw [if_neg (fun z => q1 (of_decide_eq_true z))]
          exact i2
theorem eq_bars {σM σC : Sg} (h : Rel σM σC) (x y : Int32) : ∃ r σM' σC', f_X12_bars x y σM = some (r, σM') ∧ f_X11_bars x y σC = some (r, σC') ∧ Rel σM' σC' := by
  obtain ⟨⟨A, W, g⟩, hk', hr⟩ := id h
  have hm := g.ok.1.1
  have h64 : (2 : Nat) ^ A 0 ≤ 2 ^ 6 := Nat.pow_le_pow_right (by decide) hm
  have hpos : 0 < (2 : Nat) ^ A 0 := Nat.pow_pos (by decide)
  obtain ⟨y1, y2⟩ := all_x g y
  unfold f_X12_bars f_X11_bars
  rw [long_x, plan_x, y1, y2]
  by_cases q : rng x (nI 0) (nI 4) = true
  · rw [if_pos q, if_pos q]
    by_cases q1 : rng y (nI 0) (nI (2 ^ A 0 - 1)) = true
    · obtain ⟨N, -, hN, rfl⟩ := (rng_nI (by decide) (by decide)).mp q
      obtain ⟨u, -, hu, rfl⟩ := (rng_nI (by omega) (by decide)).mp q1
      obtain ⟨σ1, σ2, r, s1, s2, s3, s4, s5, s6, s7⟩ := eq_search g hN (u := u) (v := 0) (by omega) (by omega)
      have s3' : f_X6_search (nI N) 0 σC = some σ2 := s3
      obtain ⟨s, hs, e1, e2⟩ := s4.2.1
      obtain ⟨r', b1, b2⟩ := eq_bars_l (σM := σ1) (σC := σ2) (A := A) (by rw [s6.1 0 (by decide)]; exact g.m 0 (by decide) (by decide) (by decide) (by decide)) (by rw [s7.1 24 (by decide) (by decide) (by decide)]; exact g.c.1) hm (u := u) (by omega) hs e1 e2 (A 0) 0 400 400 (by omega) (by omega) (by omega)
      have b1' : f_X12_bars_l27 (nI u) 400 0 σ1 = some (r', σ1) := b1
      have b2' : f_X11_bars_l35 (nI u) 400 0 σ2 = some (r', σ2) := b2
      rw [if_pos q1, if_pos q1, s1, bd2_some, s3', bnd_some, b1', b2']
      exact ⟨_, _, _, rfl, rfl, h.fr s6 s7⟩
    · rw [if_neg q1, if_neg q1]
      exact ⟨_, σM, σC, rfl, rfl, h⟩
  · rw [if_neg q, if_neg q]
    exact ⟨_, σM, σC, rfl, rfl, h⟩
