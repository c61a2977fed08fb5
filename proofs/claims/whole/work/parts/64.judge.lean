/-! rows, trace, judge -/
theorem row_in {σM σC : Sg} (h : Rest σM σC) (x y : Int32) : (f_X12_isRow x y σM = true ∧ f_X11_isInRows x y σC = true ∧ ∃ k w, k < 4 ∧ w < 3 ∧ x = nI k ∧ y = nI w) ∨ (f_X12_isRow x y σM = false ∧ f_X11_isInRows x y σC = false) := by
  obtain ⟨n, hn, e1, e2⟩ := h.rn
  unfold f_X12_isRow f_X11_isInRows
  rw [e1, e2, show f_X12_in x.toInt64 0 (nI n - 1).toInt64 σM = rng x (nI 0) (nI n - nI 1) from m_in x (nI 0) (nI n - 1) σM, show f_X11_within x 0 (nI n - 1) σC = rng x (nI 0) (nI n - nI 1) from c_in x (nI 0) (nI n - 1) σC, m_inN 0 2 0 2 rfl rfl, show f_X11_within y 0 2 σC = rng y (nI 0) (nI 2) from c_in _ _ _ _]
  by_cases q : rng x (nI 0) (nI n - nI 1) = true
  · rw [if_pos q]
    by_cases q2 : rng y (nI 0) (nI 2) = true
    · rw [if_pos q2]
      obtain ⟨k, hk, rfl⟩ := (kite_iff (by omega)).mp q
      obtain ⟨w, -, hw, rfl⟩ := (rng_nI (by decide) (by decide)).mp q2
      exact Or.inl ⟨rfl, rfl, k, w, by omega, by omega, rfl, rfl⟩
    · rw [if_neg q2]
      exact Or.inr ⟨rfl, rfl⟩
  · rw [if_neg q]
    exact Or.inr ⟨rfl, rfl⟩
theorem eq_row {σM σC : Sg} (h : Rel σM σC) (x y : Int32) : ∃ r, f_X12_row x y σM = some r ∧ f_X11_row x y σC = some r := by
  unfold f_X12_row f_X11_row
  rcases row_in h.rest x y with ⟨a, b, k, w, hk, hw, rfl, rfl⟩ | ⟨a, b⟩
  · rw [if_pos a, if_pos b, show (3 : Int32) = nI 3 from rfl, pk_mul, nI_add, rd_nI (by omega) (by decide), bnd_some, if_neg (nI_in hk (by decide)), nI_clamp (by omega), rd_nI hw (by decide), bnd_some, h.rest.rows k hk w hw]
    exact ⟨_, rfl, rfl⟩
  · rw [a, b]
    exact ⟨_, rfl, rfl⟩
theorem eq_alterRow {σM σC : Sg} (h : Rel σM σC) (x y v : Int32) : ∃ r σM' σC', f_X12_alterRow x y v σM = some (r, σM') ∧ f_X11_alterRow x y v σC = some (r, σC') ∧ Rel σM' σC' := by
  unfold f_X12_alterRow f_X11_alterRow
  rcases row_in h.rest x y with ⟨a, b, k, w, hk, hw, rfl, rfl⟩ | ⟨a, b⟩
  · have hin : ¬ (nI k < 0 ∨ 4 ≤ k) := by
      have := nI_in (c := k) hk (show 4 < 2 ^ 31 by decide)
      rw [nI_clamp (by omega)] at this
      exact this
    rw [if_pos a, if_pos b, show (3 : Int32) = nI 3 from rfl, pk_mul, nI_add, rd_nI (by omega) (by decide), bnd_some, wr_nI (by omega) (by decide), bnd_some, if_neg (nI_in hk (by decide)), nI_clamp (by omega), rd_nI hw (by decide), bnd_some, if_neg hin, wr_nI hw (by decide), bnd_some, h.rest.rows k hk w hw]
    obtain ⟨⟨A, W, g⟩, hk', hr⟩ := id h
    have n8 : ∀ p, p ≠ 8 → upS σM 8 (3 * k + w) v p = σM p := fun p hp => upS_ne hp
    have nr : ∀ p, p ≠ 15 + k → upS σC (15 + k) w v p = σC p := fun p hp => upS_ne hp
    refine ⟨_, _, _, rfl, rfl, ⟨A, W, g.fr (fun i _ => by rw [n8 1 (by decide)]) (fun p a b c => nr p (by omega))⟩, ⟨?_, ?_⟩, ?_⟩
    · rw [n8 0 (by decide), nr 0 (by omega)]; exact hk'.1
    · rw [n8 0 (by decide)]
      refine hk'.2.elim Or.inl (fun ⟨A, W, g⟩ => Or.inr ⟨A, W, g.fr (fun i _ => ?_) (fun p a b c => ?_)⟩)
      · show upS σM 8 (3 * k + w) v 2 i = σM 2 i
        rw [n8 2 (by decide)]
      · rw [shf_in (by omega), shf_in (by omega), nr _ (by omega)]
    · refine ⟨?_, fun j hj u hu => ?_, ?_, ?_, fun j hj => ?_, ?_, ?_⟩
      · rw [n8 0 (by decide), nr 0 (by omega)]; exact hr.rn
      · rw [upS_ap, upS_ap]
        by_cases e : j = k ∧ u = w
        · rw [if_pos ⟨by omega, e.2⟩, if_pos ⟨rfl, by omega⟩]
        · rw [if_neg (by omega), if_neg (by omega)]; exact hr.rows j hj u hu
      · rw [n8 0 (by decide), nr 67 (by omega)]; exact hr.tn
      · rw [n8 9 (by decide), nr 68 (by omega)]; exact hr.tape
      · rw [n8 10 (by decide), n8 11 (by decide), n8 12 (by decide), nr 9 (by omega), nr 10 (by omega), nr (20 + j) (by omega)]; exact hr.sheet j hj
      · rw [n8 13 (by decide), n8 14 (by decide), n8 15 (by decide), nr 11 (by omega), nr 12 (by omega), nr 13 (by omega)]; exact hr.shelf
      · rw [n8 0 (by decide), n8 16 (by decide), nr 0 (by omega), nr 1 (by omega)]; exact hr.trn
  · rw [a, b]
    exact ⟨_, σM, σC, rfl, rfl, h⟩
theorem eq_trace {σM σC : Sg} (h : Rel σM σC) (x : Int32) : ∃ r, f_X12_trace x σM = some r ∧ f_X11_trace x σC = some r := by
  have et := traced_eq h.rest
  obtain ⟨n, hn, e1, e2, e3⟩ := h.rest.trn
  unfold f_X12_trace f_X11_trace
  rw [et, e2, show f_X12_in x.toInt64 0 (nI (min n 30) - 1).toInt64 σM = rng x (nI 0) (nI (min n 30) - nI 1) from m_in x (nI 0) _ σM, show f_X11_within x 0 (nI (min n 30) - 1) σC = rng x (nI 0) (nI (min n 30) - nI 1) from c_in _ _ _ _]
  by_cases q : rng x (nI 0) (nI (min n 30) - nI 1) = true
  · obtain ⟨k, hk, rfl⟩ := (kite_iff (by omega)).mp q
    rw [if_pos q, if_pos q, rd_nI (by omega) (by decide), rd_nI (by omega) (by decide), bnd_some, bnd_some, e3 k (by omega) (by omega)]
    exact ⟨_, rfl, rfl⟩
  · rw [if_neg q, if_neg q]
    exact ⟨_, rfl, rfl⟩
/-! judge -/
abbrev okRow (W : WT) (R : Nat → Int32) (A : Nat → Nat) : Prop := rng (R 0) (nI 0) (nI (A 0)) = true ∧ ¬ A 2 ≤ A 3 ∧ nI (goesA W A (R 0).toInt.toNat).1 = R 1 ∧ nI (setN (goesA W A (R 0).toInt.toNat).2 5) = R 2
def judgeN (W : WT) (R : Nat → Nat → Int32) : Nat → Nat → (Nat → Nat) → Nat
  | 0, _, _ => 0
  | d + 1, k, A => if okRow W (R k) A then judgeN W R d (k + 1) (goesA W A (R k 0).toInt.toNat).2 else k + 1
theorem judge_t {W : WT} {R : Nat → Nat → Int32} {d k : Nat} {A : Nat → Nat} (h : okRow W (R k) A) : judgeN W R (d + 1) k A = judgeN W R d (k + 1) (goesA W A (R k 0).toInt.toNat).2 := if_pos h
theorem judge_f {W : WT} {R : Nat → Nat → Int32} {d k : Nat} {A : Nat → Nat} (h : ¬ okRow W (R k) A) : judgeN W R (d + 1) k A = k + 1 := if_neg h
theorem m_judge_e {n v : Nat} {x : Int32} {σ : Sg} (hv : v < 10) : ∃ σ', f_X12_judge_l8 (n + 1) (nI (v + 1)) x σ = some (nI (v + 1), σ') ∧ (∀ i, i < 319 → σ' 1 i = σ 3 i) ∧ (∀ p, p ≠ 1 → σ' p = σ p) := by
  obtain ⟨σ', b1, b2, b3⟩ := m_back σ
  refine ⟨σ', ?_, b2, b3⟩
  show f_X12_judge_b8 (f_X12_judge_l8 n) (nI (v + 1)) x σ = _
  unfold f_X12_judge_b8
  rw [if_pos (show ¬ nI (v + 1) = 0 from fun z => absurd ((nI_eq (b := 0) (by omega) (by decide)).mp z) (by omega)), b1, bnd_some, ite_self]
theorem m_isAct {σ : Sg} {A : Nat → Nat} (h : rM σ A) (ok : okA A) (x : Int32) : (f_X12_isAct x σ = true) ↔ (rng x (nI 0) (nI (A 0)) = true ∧ ¬ A 2 ≤ A 3) := by
  unfold f_X12_isAct
  rw [h 0 (by decide) (by decide) (by decide) (by decide), show f_X12_in x.toInt64 0 (nI (A 0)).toInt64 σ = rng x (nI 0) (nI (A 0)) from m_in x (nI 0) _ σ, m_over h ok]
  by_cases q : rng x (nI 0) (nI (A 0)) = true
  · rw [if_pos q]
    by_cases q2 : A 2 ≤ A 3
    · rw [if_pos (decide_eq_true q2)]; simp [q2]
    · rw [if_neg (fun z => q2 (of_decide_eq_true z))]; simp [q, q2]
  · rw [if_neg q]; simp [q]
theorem act_at {x : Int32} {m : Nat} (hm : m < 100) (q : rng x (nI 0) (nI m) = true) : x = nI x.toInt.toNat ∧ x.toInt.toNat ≤ m := by
  obtain ⟨k, -, hk, rfl⟩ := (rng_nI (by omega) (by decide)).mp q
  rw [nI_toInt (by omega)]
  exact ⟨rfl, hk⟩
theorem m_judge_l {W : WT} (hw : okW W) {R : Nat → Nat → Int32} {N : Nat} (hN : N ≤ 4) : ∀ (d k n : Nat) (σ : Sg) (A : Nat → Nat), k + d = N → d + 1 < n → rM σ A → okA A → rulM σ W → σ 0 19 = nI N → (∀ k, k < 4 → ∀ w, w < 3 → R k w = σ 8 (3 * k + w)) →
    ∃ σ1 σ', f_X12_judge_l8 n (nI 0) (nI k) σ = some (nI (judgeN W R d k A), σ') ∧ sameM σ σ1 ∧ (∀ i, i < 319 → σ' 1 i = σ1 3 i) ∧ (∀ p, p ≠ 1 → σ' p = σ1 p)
  | d, k, 0, σ, A, _, h, _, _, _, _, _ => absurd h (by omega)
  | d, k, n + 1, σ, A, hd, hn, hr, ok, hW, h19, hR => by
    have hm := ok.1.1
    show ∃ σ1 σ', f_X12_judge_b8 (f_X12_judge_l8 n) (nI 0) (nI k) σ = some (_, σ') ∧ _
    unfold f_X12_judge_b8
    rw [h19]
    cases d with
    | zero =>
      obtain ⟨σ', b1, b2, b3⟩ := m_back σ
      rw [if_pos (nI_le (by omega) (by omega)), b1, bnd_some]
      exact ⟨σ, σ', rfl, sameM.rf σ, b2, b3⟩
    | succ d =>
      have hk : k < 4 := by omega
      cases n with
      | zero => exact absurd hn (by omega)
      | succ n =>
        have bad : ∀ σ2, sameM σ σ2 → ¬ okRow W (R k) A → ∃ σ1 σ', f_X12_judge_b83 (f_X12_judge_l8 (n + 1)) (nI k) 0 σ2 = some (nI (judgeN W R (d + 1) k A), σ') ∧ sameM σ σ1 ∧ (∀ i, i < 319 → σ' 1 i = σ1 3 i) ∧ (∀ p, p ≠ 1 → σ' p = σ1 p) := fun σ2 s2 hno => by
          unfold f_X12_judge_b83
          rw [if_pos rfl, lt_ap, nI_1, judge_f hno]
          obtain ⟨σ', e1, e2, e3⟩ := m_judge_e (n := n) (v := k) (x := nI (k + 1)) (σ := σ2) (by omega)
          exact ⟨σ2, σ', e1, s2, e2, e3⟩
        have r0 : σ 8 (3 * k) = R k 0 := (hR k hk 0 (by decide)).symm
        rw [if_neg (nI_ge (by omega) (by omega)), if_neg (show ¬ ¬ nI 0 = 0 from fun z => z rfl), show (3 : Int32) = nI 3 from rfl, pk_mul, rd_nI (by omega) (by decide), bnd_some, bnd_some, r0]
        by_cases q : f_X12_isAct (R k 0) σ = true
        · obtain ⟨q1, q2⟩ := (m_isAct hr ok _).mp q
          obtain ⟨a1, a2⟩ := act_at (by omega) q1
          have h16 := ok.1.2.2.1
          obtain ⟨σ2, p1, p2, p3, p4, -⟩ := m_goes hr ok (by omega) hw hW a2
          have e8 : σ2 8 = σ 8 := p4.1 8 (by decide) (by decide)
          rw [← a1] at p1
          rw [if_pos q, p1, bd2_some, nI_1, rd_nI (by omega) (by decide), bnd_some, e8, ← hR k hk 1 (by decide)]
          by_cases q3 : nI (goesA W A (R k 0).toInt.toNat).1 = R k 1
          · rw [if_neg (fun z => z q3), show f_X12_those 5 σ2 = some (nI (setN (goesA W A (R k 0).toInt.toNat).2 5)) from m_those p2 p3 (Or.inr rfl), bnd_some, show nI (3 * k) + 2 = nI (3 * k + 2) from nI_add (3 * k) 2, rd_nI (by omega) (by decide), bnd_some, e8, ← hR k hk 2 (by decide)]
            by_cases q4 : nI (setN (goesA W A (R k 0).toInt.toNat).2 5) = R k 2
            · rw [if_neg (fun z => z q4), judge_t ⟨q1, q2, q3, q4⟩]
              unfold f_X12_judge_b83
              rw [if_neg (by decide), nI_1]
              obtain ⟨σ3, σ', s1, s2, s3, s4⟩ := m_judge_l hw (R := R) hN d (k + 1) (n + 1) σ2 _ (by omega) (by omega) p2 p3 (hW.mono p4) (by rw [p4.1 0 (by decide) (by decide)]; exact h19) (fun j hj w hw' => by rw [e8]; exact hR j hj w hw')
              exact ⟨σ3, σ', s1, p4.tr s2, s3, s4⟩
            · rw [if_pos q4]
              exact bad σ2 p4 (fun z => q4 z.2.2.2)
          · rw [if_pos q3]
            exact bad σ2 p4 (fun z => q3 z.2.2.1)
        · rw [if_neg q]
          exact bad σ (sameM.rf σ) (fun z => q ((m_isAct hr ok _).mpr ⟨z.1, z.2.1⟩))
theorem c_judge_l {W : WT} (hw : okW W) {R : Nat → Nat → Int32} {N : Nat} (hN : N ≤ 4) : ∀ (d k n : Nat) (σ : Sg) (A : Nat → Nat) (sc : Int32), k + d = N → d < n → rCs σ A → rCd σ 64 A sc → okA A → rulC σ W → σ 0 15 = nI N → (∀ k, k < 4 → ∀ w, w < 3 → R k w = σ (15 + k) w) →
    ∃ σ', f_X11_judge_l16 n (nI k) σ = some (nI (judgeN W R d k A), σ') ∧ fC 64 σ σ'
  | d, k, 0, σ, A, sc, _, h, _, _, _, _, _, _ => absurd h (by omega)
  | d, k, n + 1, σ, A, sc, hd, hn, hs, hr, ok, hW, h15, hR => by
    have hm := ok.1.1
    show ∃ σ', f_X11_judge_b16 (f_X11_judge_l16 n) (nI k) σ = some (_, σ') ∧ _
    unfold f_X11_judge_b16
    rw [h15]
    cases d with
    | zero =>
      rw [if_pos (nI_le (by omega) (by omega))]
      exact ⟨σ, rfl, fC.rf _ σ⟩
    | succ d =>
      have hk : k < 4 := by omega
      rw [if_neg (nI_ge (by omega) (by omega)), if_neg (nI_in hk (by decide)), nI_clamp (by omega)]
      unfold f_X11_isRightOnTrial
      rw [c_over hs hr ok, ← hR k hk 0 (by decide), hs.1, show f_X11_within (R k 0) 0 (nI (A 0)) σ = rng (R k 0) (nI 0) (nI (A 0)) from c_in _ _ _ _]
      by_cases q2 : A 2 ≤ A 3
      · rw [if_pos (decide_eq_true q2), bd2_some, if_neg (by decide), judge_f (fun z => z.2.1 q2), nI_1]
        exact ⟨σ, rfl, fC.rf _ σ⟩
      · rw [if_neg (fun z => q2 (of_decide_eq_true z))]
        by_cases q1 : rng (R k 0) (nI 0) (nI (A 0)) = true
        · obtain ⟨a1, a2⟩ := act_at (by omega) q1
          have h16 := ok.1.2.2.1
          obtain ⟨σ2, p1, p2, p3, p4⟩ := c_goAct sky64 hs hr ok (by omega) hw hW a2
          rw [← a1] at p1
          have e15 : ∀ j, j < 4 → σ2 (15 + j) = σ (15 + j) := fun j hj => p4 _ (by omega) (by omega) (by omega) (by omega)
          have okn := goes_ok (W := W) ok (by omega) a2
          rw [if_pos q1, p1, bd2_some, e15 k hk, ← hR k hk 1 (by decide), ← hR k hk 2 (by decide), p2.2.2.2.1]
          by_cases q3 : nI (goesA W A (R k 0).toInt.toNat).1 = R k 1
          · rw [if_neg (fun z => z q3.symm)]
            by_cases q4 : nI (setN (goesA W A (R k 0).toInt.toNat).2 5) = R k 2
            · rw [if_neg (fun z => z q4.symm), bd2_some, if_pos rfl, judge_t ⟨q1, q2, q3, q4⟩, nI_1]
              obtain ⟨σ', s1, s2⟩ := c_judge_l hw (R := R) hN d (k + 1) n σ2 _ _ (by omega) (by omega) p3 p2 okn (p4.r sky64 hW) (by rw [p4 0 (by decide) (by decide) (by decide) (by decide)]; exact h15) (fun j hj w hw' => by rw [e15 j hj]; exact hR j hj w hw')
              exact ⟨σ', s1, p4.tr s2⟩
            · rw [if_pos (fun z => q4 z.symm), bd2_some, if_neg (by decide), judge_f (fun z => q4 z.2.2.2), nI_1]
              exact ⟨σ2, rfl, p4⟩
          · rw [if_pos (fun z => q3 z.symm), bd2_some, if_neg (by decide), judge_f (fun z => q3 z.2.2.1), nI_1]
            exact ⟨σ2, rfl, p4⟩
        · rw [if_neg q1, bd2_some, if_neg (by decide), judge_f (fun z => q1 z.1), nI_1]
          exact ⟨σ, rfl, fC.rf _ σ⟩
theorem eq_judge {σM σC : Sg} (h : Rel σM σC) : ∃ r σM' σC', f_X12_judge σM = some (r, σM') ∧ f_X11_judge σC = some (r, σC') ∧ Rel σM' σC' := by
  obtain ⟨⟨A, W, g⟩, hk, hr⟩ := id h
  obtain ⟨N, hN, e1, e2⟩ := hr.rn
  obtain ⟨t1, t2, t3, t4⟩ := c_trial g.c g.d g.rc
  obtain ⟨σ1, p1, p2, p3⟩ := m_puts σM
  have h1 : rM σ1 A := fun i a b c d => by rw [p3 1 (by decide)]; exact g.m i a b c d
  have hW1 : rulM σ1 W := g.rm.eq (fun i _ _ => by rw [p3 1 (by decide)])
  obtain ⟨σ2, σ3, r1, r2, r3, r4⟩ := m_judge_l g.okw (R := fun k w => σM 8 (3 * k + w)) hN N 0 400 σ1 A (by omega) (by omega) h1 g.ok hW1 (by rw [p3 0 (by decide)]; exact e1) (fun k _ w _ => by rw [p3 8 (by decide)])
  obtain ⟨σ4, s1, s2⟩ := c_judge_l g.okw (R := fun k w => σM 8 (3 * k + w)) hN N 0 400 (f_X10_copy 64 41 σC) A (σM 1 4) (by omega) (by omega) t1 t2 g.ok t3 (by rw [t4 0 (by decide) (by decide) (by decide) (by decide)]; exact e2) (fun k hk w hw => by rw [t4 (15 + k) (by omega) (by omega) (by omega) (by omega)]; exact (hr.rows k hk w hw).symm)
  have r1' : f_X12_judge_l8 400 0 0 σ1 = some (nI (judgeN W (fun k w => σM 8 (3 * k + w)) N 0 A), σ3) := r1
  have s1' : f_X11_judge_l16 400 0 (f_X10_copy 64 41 σC) = some (nI (judgeN W (fun k w => σM 8 (3 * k + w)) N 0 A), σ4) := s1
  unfold f_X12_judge f_X11_judge
  rw [p1, bnd_some, r1', lt_ap, s1']
  exact ⟨_, σ3, σ4, rfl, rfl, h.fr (tried p2 p3 r2 r3 r4) (t4.tr s2).k⟩
