/-! goAll -/
theorem step_act {σM σC : Sg} (h : Rel σM σC) {A : Nat → Nat} {W : WT} (g : Hold σM σC A W) (hg : A 3 < 16) {act : Nat} (ha : act ≤ A 0) : ∃ w σM' σC', f_X12_goes (nI act) σM = some (nI w, σM') ∧ f_X1_goByAct 41 (nI act) σC = some (nI w, σC') ∧ Rel σM' σC' := by
  obtain ⟨σ1, p1, p2, p3, p4, p5⟩ := m_goes g.m g.ok hg g.okw g.rm ha
  obtain ⟨σ2, q1, q2, q3, q4⟩ := c_goAct sky41 g.c g.d g.ok hg g.okw g.rc ha
  refine ⟨_, σ1, σ2, p1, q1, ⟨⟨(goesA W A act).2, W, ⟨p3, g.okw, p2, q3, by rw [p5]; exact q2, g.rm.mono p4, q4.r sky41 g.rc, ?_, ?_⟩⟩, h.kept.go p4.o q4.o, h.rest.go p4.o q4.o⟩⟩
  · rw [p4.2 6 (by omega), q4 24 (by decide) (by decide) (by decide) (by decide)]; exact g.z
  · rw [p4.2 1 (by omega), q4 34 (by decide) (by decide) (by decide) (by decide)]; exact g.n
theorem add64 : ∀ i, i < 40 → ∀ j, j < 21 → (nI i).toInt64 + (nI j).toInt64 = (nI (i + j)).toInt64 := by decide +kernel
theorem lt_rng {i n : Nat} (hi : i < 100) (hn : n < 100) : rng (nI i) (nI 0) (nI n - nI 1) = true ↔ i < n := by
  rw [kite_iff (by omega)]
  constructor
  · rintro ⟨k, h1, h2⟩
    have := (nI_eq (by omega) (by omega)).mp h2
    omega
  · intro h
    exact ⟨i, h, rfl⟩
theorem goAll_l {k i0 N : Nat} (hk : k < 4) (hi : i0 < 40) (hN : N ≤ 20) : ∀ (d j n acc : Nat) (σM σC : Sg), j + d = N → d < n → Rel σM σC → ∃ r σM' σC', f_X12_goAll_l33 (nI k) (nI i0) (nI N) n (nI acc) (nI j) σM = some (r, σM') ∧ f_X11_goAll_l41 (nI k) (nI i0) (nI N) n (nI acc) (nI j) σC = some (r, σC') ∧ Rel σM' σC'
  | d, j, 0, acc, σM, σC, _, h, _ => absurd h (by omega)
  | d, j, n + 1, acc, σM, σC, hd, hn, h => by
    show ∃ r σM' σC', f_X12_goAll_b33 (f_X12_goAll_l33 (nI k) (nI i0) (nI N) n) (nI k) (nI i0) (nI N) (nI acc) (nI j) σM = some (r, σM') ∧ f_X11_goAll_b41 (f_X11_goAll_l41 (nI k) (nI i0) (nI N) n) (nI k) (nI i0) (nI N) (nI acc) (nI j) σC = some (r, σC') ∧ _
    unfold f_X12_goAll_b33 f_X11_goAll_b41 f_X12_isItem
    cases d with
    | zero =>
      rw [if_pos (nI_le (by omega) (by omega)), if_pos (nI_le (by omega) (by omega))]
      exact ⟨_, σM, σC, rfl, rfl, h⟩
    | succ d =>
      obtain ⟨A, W, g⟩ := h.hold
      have hm6 := g.ok.1.1
      have h16 := g.ok.1.2.2.1
      obtain ⟨s1, s2, s3, ⟨m, hm, s4⟩, s5⟩ := h.rest.sheet k hk
      have m11 := rd_nI (σ := σM) (p := 11) (n := 4) (i := k) hk (by decide)
      have c10 := rd_nI (σ := σC) (p := 10) (n := 4) (i := k) hk (by decide)
      have nle : ¬ nI N ≤ nI j := nI_ge (by omega) (by omega)
      rw [if_neg nle, if_neg nle, add64 i0 hi j (by omega), nI_add]
      simp only [m11, c10, bnd_some, s2, s4]
      rw [show f_X12_in (nI (i0 + j)).toInt64 0 (nI m - 1).toInt64 σM = rng (nI (i0 + j)) (nI 0) (nI m - nI 1) from m_in (nI (i0 + j)) (nI 0) _ σM, show f_X11_within (nI (i0 + j)) 0 (nI m - 1) σC = rng (nI (i0 + j)) (nI 0) (nI m - nI 1) from c_in _ _ _ _]
      by_cases q : rng (nI (i0 + j)) (nI 0) (nI m - nI 1) = true
      · have hlt := (lt_rng (by omega) (by omega)).mp q
        rw [if_pos q, if_pos q, if_neg (nI_in hk (by decide)), nI_clamp (by omega), show (40 : Int32) = nI 40 from rfl, pk_mul, nI_add, nI_add, rd_nI (by omega) (by decide), bnd_some, rd_nI (by omega) (by decide), bnd_some, lt_ap, lt_ap, s5 _ (by omega), show 40 * k + i0 + j = 40 * k + (i0 + j) by omega, c_over g.c g.d g.ok, g.c.1, show f_X11_within (σM 12 (40 * k + (i0 + j))) 0 (nI (A 0)) σC = rng (σM 12 (40 * k + (i0 + j))) (nI 0) (nI (A 0)) from c_in _ _ _ _]
        have next : ∀ (acc' : Nat) (τM τC : Sg), Rel τM τC → ∃ r σM' σC', f_X12_goAll_l33 (nI k) (nI i0) (nI N) n (nI acc') (nI j + 1) τM = some (r, σM') ∧ f_X11_goAll_l41 (nI k) (nI i0) (nI N) n (nI acc') (nI j + 1) τC = some (r, σC') ∧ Rel σM' σC' := fun acc' τM τC ht => by
          rw [nI_1]
          exact goAll_l hk hi hN d (j + 1) n acc' τM τC (by omega) (by omega) ht
        by_cases q1 : rng (σM 12 (40 * k + (i0 + j))) (nI 0) (nI (A 0)) = true
        · by_cases q2 : A 2 ≤ A 3
          · rw [if_neg (fun z => ((m_isAct g.m g.ok _).mp z).2 q2), if_pos q1, if_pos (decide_eq_true q2), show nI acc + 0 = nI acc from nI_add acc 0]
            exact next acc σM σC h
          · obtain ⟨a1, a2⟩ := act_at (by omega) q1
            obtain ⟨w, τM, τC, e1, e2, e3⟩ := step_act h g (by omega) a2
            rw [← a1] at e1 e2
            rw [if_pos ((m_isAct g.m g.ok _).mpr ⟨q1, q2⟩), if_pos q1, if_neg (fun z => q2 (of_decide_eq_true z)), e1, e2, bd2_some, bd2_some, lt_ap, lt_ap, nI_add]
            exact next _ τM τC e3
        · rw [if_neg (fun z => q1 ((m_isAct g.m g.ok _).mp z).1), if_neg q1, show nI acc + 0 = nI acc from nI_add acc 0]
          exact next acc σM σC h
      · rw [if_neg q, if_neg q]
        exact ⟨_, σM, σC, rfl, rfl, h⟩
theorem eq_goAll {σM σC : Sg} (h : Rel σM σC) (x i n : Int32) : ∃ r σM' σC', f_X12_goAll x i n σM = some (r, σM') ∧ f_X11_goAll x i n σC = some (r, σC') ∧ Rel σM' σC' := by
  unfold f_X12_goAll f_X11_goAll f_X12_isSpan
  rw [one_x, sheet_x, m_inN 0 20 0 20 rfl rfl, show f_X11_within n 0 20 σC = rng n (nI 0) (nI 20) from c_in _ _ _ _]
  by_cases q : rng x (nI 0) (nI 3) = true
  · obtain ⟨k, -, hk, rfl⟩ := (rng_nI (by decide) (by decide)).mp q
    have hk4 : k < 4 := by omega
    rw [if_pos q, if_pos q]
    by_cases q1 : rng n (nI 0) (nI 20) = true
    · obtain ⟨N, -, hN, rfl⟩ := (rng_nI (by decide) (by decide)).mp q1
      obtain ⟨r, r1, r2, -⟩ := why_eq h.rest hk4 0
      rw [if_pos q1, if_pos rfl, if_pos q1, r1, bnd_some, r2, bnd_some]
      by_cases q3 : r = 0
      · rw [if_pos q3, if_pos q3]
        obtain ⟨s1, s2, s3, ⟨m, hm, s4⟩, s5⟩ := h.rest.sheet k hk4
        by_cases q2 : rng i (nI 0) (nI m - nI 1) = true
        · obtain ⟨i0, hi0, rfl⟩ := (kite_iff (by omega)).mp q2
          exact goAll_l hk4 (by omega) hN N 0 400 0 σM σC (by omega) (by omega) h
        · show ∃ r σM' σC', f_X12_goAll_b33 (f_X12_goAll_l33 (nI k) i (nI N) 399) (nI k) i (nI N) 0 0 σM = some (r, σM') ∧ f_X11_goAll_b41 (f_X11_goAll_l41 (nI k) i (nI N) 399) (nI k) i (nI N) 0 0 σC = some (r, σC') ∧ _
          unfold f_X12_goAll_b33 f_X11_goAll_b41 f_X12_isItem
          by_cases q4 : nI N ≤ 0
          · rw [if_pos q4, if_pos q4]
            exact ⟨_, σM, σC, rfl, rfl, h⟩
          · have m11 := rd_nI (σ := σM) (p := 11) (n := 4) (i := k) hk4 (by decide)
            have c10 := rd_nI (σ := σC) (p := 10) (n := 4) (i := k) hk4 (by decide)
            rw [if_neg q4, if_neg q4, show i.toInt64 + (0 : Int32).toInt64 = i.toInt64 from Int64.add_zero _, show i + 0 = i from Int32.add_zero i]
            simp only [m11, c10, bnd_some, s2, s4]
            rw [show f_X12_in i.toInt64 0 (nI m - 1).toInt64 σM = rng i (nI 0) (nI m - nI 1) from m_in i (nI 0) _ σM, show f_X11_within i 0 (nI m - 1) σC = rng i (nI 0) (nI m - nI 1) from c_in _ _ _ _, if_neg q2, if_neg q2]
            exact ⟨_, σM, σC, rfl, rfl, h⟩
      · rw [if_neg q3, if_neg q3]
        exact ⟨_, σM, σC, rfl, rfl, h⟩
    · rw [if_neg q1, if_neg (by decide), if_neg q1]
      exact ⟨_, σM, σC, rfl, rfl, h⟩
  · rw [if_neg q, if_neg (by decide), if_neg q]
    exact ⟨_, σM, σC, rfl, rfl, h⟩
