/-! wouldBe -/
def wouldN (W : WT) (It : Nat → Int32) (m : Nat) : Nat → Nat → Nat → (Nat → Nat) → Int32
  | 0, _, acc, _ => nI acc
  | d + 1, i, acc, A => if i < m then (if rng (It i) (nI 0) (nI (A 0)) = true ∧ ¬ A 2 ≤ A 3 then wouldN W It m d (i + 1) (acc + (goesA W A (It i).toInt.toNat).1) (goesA W A (It i).toInt.toNat).2 else -4) else -12
theorem would_g {W : WT} {It : Nat → Int32} {m d i acc : Nat} {A : Nat → Nat} (h : i < m) (h2 : rng (It i) (nI 0) (nI (A 0)) = true ∧ ¬ A 2 ≤ A 3) : wouldN W It m (d + 1) i acc A = wouldN W It m d (i + 1) (acc + (goesA W A (It i).toInt.toNat).1) (goesA W A (It i).toInt.toNat).2 := (if_pos h).trans (if_pos h2)
theorem would_s {W : WT} {It : Nat → Int32} {m d i acc : Nat} {A : Nat → Nat} (h : i < m) (h2 : ¬ (rng (It i) (nI 0) (nI (A 0)) = true ∧ ¬ A 2 ≤ A 3)) : wouldN W It m (d + 1) i acc A = -4 := (if_pos h).trans (if_neg h2)
theorem would_o {W : WT} {It : Nat → Int32} {m d i acc : Nat} {A : Nat → Nat} (h : ¬ i < m) : wouldN W It m (d + 1) i acc A = -12 := if_neg h
theorem m_would_e {n : Nat} {x1 x2 x3 x5 x6 v : Int32} {σ : Sg} (hv : ¬ v = 0) : ∃ σ', f_X12_wouldBe_l37 x1 x2 x3 (n + 1) v x5 x6 σ = some (v, σ') ∧ (∀ i, i < 319 → σ' 1 i = σ 3 i) ∧ (∀ p, p ≠ 1 → σ' p = σ p) := by
  obtain ⟨σ', b1, b2, b3⟩ := m_back σ
  refine ⟨σ', ?_, b2, b3⟩
  show f_X12_wouldBe_b37 (f_X12_wouldBe_l37 x1 x2 x3 n) x1 x2 x3 v x5 x6 σ = _
  unfold f_X12_wouldBe_b37 f_X12_wouldBe_b138
  rw [if_pos hv, b1, bnd_some, if_neg hv, ite_self]
theorem m_would_l {W : WT} (hw : okW W) {k i0 N m : Nat} {It : Nat → Int32} (hk : k < 4) (hi : i0 < 40) (hN : N ≤ 20) (hm : m ≤ 40) : ∀ (d j n acc : Nat) (σ : Sg) (A : Nat → Nat), j + d = N → d + 1 < n → rM σ A → okA A → rulM σ W → σ 11 k = nI m → (∀ i, i < 40 → σ 12 (40 * k + i) = It i) →
    ∃ σ1 σ', f_X12_wouldBe_l37 (nI k) (nI i0) (nI N) n 0 (nI acc) (nI j) σ = some (wouldN W It m d (i0 + j) acc A, σ') ∧ sameM σ σ1 ∧ (∀ i, i < 319 → σ' 1 i = σ1 3 i) ∧ (∀ p, p ≠ 1 → σ' p = σ1 p)
  | d, j, 0, acc, σ, A, _, h, _, _, _, _, _ => absurd h (by omega)
  | d, j, n + 1, acc, σ, A, hd, hn, hr, ok, hW, h11, h12 => by
    have hm6 := ok.1.1
    have h16 := ok.1.2.2.1
    show ∃ σ1 σ', f_X12_wouldBe_b37 (f_X12_wouldBe_l37 (nI k) (nI i0) (nI N) n) (nI k) (nI i0) (nI N) 0 (nI acc) (nI j) σ = some (_, σ') ∧ _
    unfold f_X12_wouldBe_b37 f_X12_isItem
    cases d with
    | zero =>
      obtain ⟨σ', b1, b2, b3⟩ := m_back σ
      unfold f_X12_wouldBe_b138
      rw [if_pos (nI_le (by omega) (by omega)), b1, bnd_some, if_pos rfl]
      exact ⟨σ, σ', rfl, sameM.rf σ, b2, b3⟩
    | succ d =>
      cases n with
      | zero => exact absurd hn (by omega)
      | succ n =>
        have bad : ∀ v : Int32, ¬ v = 0 → ∃ σ', f_X12_wouldBe_b98 (f_X12_wouldBe_l37 (nI k) (nI i0) (nI N) (n + 1)) (nI k) (nI i0) (nI N) (nI acc) (nI j) v σ = some (v, σ') ∧ (∀ i, i < 319 → σ' 1 i = σ 3 i) ∧ (∀ p, p ≠ 1 → σ' p = σ p) := fun v hv => by
          unfold f_X12_wouldBe_b98
          rw [if_pos hv, lt_ap]
          exact m_would_e hv
        rw [if_neg (nI_ge (by omega) (by omega)), if_neg (fun z => z rfl), rd_nI hk (by decide), bnd_some, bnd_some, h11, add64 i0 hi j (by omega), show f_X12_in (nI (i0 + j)).toInt64 0 (nI m - 1).toInt64 σ = rng (nI (i0 + j)) (nI 0) (nI m - nI 1) from m_in (nI (i0 + j)) (nI 0) _ σ]
        by_cases q : i0 + j < m
        · have ei : (40 : Int32) * nI k + nI i0 + nI j = nI (40 * k + (i0 + j)) := by
            rw [show (40 : Int32) = nI 40 from rfl, pk_mul, nI_add, nI_add, Nat.add_assoc]
          rw [if_pos ((lt_rng (by omega) (by omega)).mpr q), ei, rd_nI (by omega) (by decide), bnd_some, h12 _ (by omega)]
          by_cases q2 : rng (It (i0 + j)) (nI 0) (nI (A 0)) = true ∧ ¬ A 2 ≤ A 3
          · obtain ⟨a1, a2⟩ := act_at (by omega) q2.1
            obtain ⟨σ2, p1, p2, p3, p4, -⟩ := m_goes hr ok (by omega) hw hW a2
            rw [← a1] at p1
            rw [if_pos ((m_isAct hr ok _).mpr q2), would_g q q2]
            unfold f_X12_wouldBe_b98
            rw [if_neg (fun z => z rfl), ei, rd_nI (by omega) (by decide), bnd_some, h12 _ (by omega), p1, bd2_some, lt_ap, nI_add, nI_1]
            obtain ⟨σ3, σ', s1, s2, s3, s4⟩ := m_would_l hw (It := It) hk hi hN hm d (j + 1) (n + 1) (acc + (goesA W A (It (i0 + j)).toInt.toNat).1) σ2 _ (by omega) (by omega) p2 p3 (hW.mono p4) (by rw [p4.1 11 (by decide) (by decide)]; exact h11) (fun i hi' => by rw [p4.1 12 (by decide) (by decide)]; exact h12 i hi')
            exact ⟨σ3, σ', s1, p4.tr s2, s3, s4⟩
          · rw [if_neg (fun z => q2 ((m_isAct hr ok _).mp z)), would_s q q2]
            obtain ⟨σ', e1, e2, e3⟩ := bad (-4) (by decide)
            exact ⟨σ, σ', e1, sameM.rf σ, e2, e3⟩
        · rw [if_neg (fun z => q ((lt_rng (by omega) (by omega)).mp z)), would_o q]
          obtain ⟨σ', e1, e2, e3⟩ := bad (-12) (by decide)
          exact ⟨σ, σ', e1, sameM.rf σ, e2, e3⟩
theorem c_would_l {W : WT} (hw : okW W) {k i0 N m : Nat} {It : Nat → Int32} (hk : k < 4) (hi : i0 < 40) (hN : N ≤ 20) (hm : m ≤ 40) : ∀ (d j n acc : Nat) (σ : Sg) (A : Nat → Nat) (sc : Int32), j + d = N → d < n → rCs σ A → rCd σ 64 A sc → okA A → rulC σ W → σ 10 k = nI m → (∀ i, i < 40 → σ (20 + k) i = It i) →
    ∃ σ', f_X11_wouldBe_l55 (nI k) (nI i0) (nI N) n (nI acc) (nI j) σ = some (wouldN W It m d (i0 + j) acc A, σ') ∧ fC 64 σ σ'
  | d, j, 0, acc, σ, A, sc, _, h, _, _, _, _, _, _ => absurd h (by omega)
  | d, j, n + 1, acc, σ, A, sc, hd, hn, hs, hr, ok, hW, h10, h20 => by
    have hm6 := ok.1.1
    have h16 := ok.1.2.2.1
    show ∃ σ', f_X11_wouldBe_b55 (f_X11_wouldBe_l55 (nI k) (nI i0) (nI N) n) (nI k) (nI i0) (nI N) (nI acc) (nI j) σ = some (_, σ') ∧ _
    unfold f_X11_wouldBe_b55
    cases d with
    | zero =>
      rw [if_pos (nI_le (by omega) (by omega))]
      exact ⟨σ, rfl, fC.rf _ σ⟩
    | succ d =>
      rw [if_neg (nI_ge (by omega) (by omega)), rd_nI hk (by decide), bnd_some, h10, nI_add, show f_X11_within (nI (i0 + j)) 0 (nI m - 1) σ = rng (nI (i0 + j)) (nI 0) (nI m - nI 1) from c_in _ _ _ _]
      by_cases q : i0 + j < m
      · rw [if_pos ((lt_rng (by omega) (by omega)).mpr q), if_neg (nI_in hk (by decide)), nI_clamp (by omega), rd_nI (by omega) (by decide), bnd_some, lt_ap, h20 _ (by omega), hs.1, c_over hs hr ok, show f_X11_within (It (i0 + j)) 0 (nI (A 0)) σ = rng (It (i0 + j)) (nI 0) (nI (A 0)) from c_in _ _ _ _]
        by_cases q1 : rng (It (i0 + j)) (nI 0) (nI (A 0)) = true
        · rw [if_pos q1]
          by_cases q2 : A 2 ≤ A 3
          · rw [if_pos (decide_eq_true q2), would_s q (fun z => z.2 q2)]
            exact ⟨σ, rfl, fC.rf _ σ⟩
          · obtain ⟨a1, a2⟩ := act_at (by omega) q1
            obtain ⟨σ2, p1, p2, p3, p4⟩ := c_goAct sky64 hs hr ok (by omega) hw hW a2
            rw [← a1] at p1
            have okn := goes_ok (W := W) ok (by omega) a2
            rw [if_neg (fun z => q2 (of_decide_eq_true z)), p1, bd2_some, lt_ap, nI_add, nI_1, would_g q ⟨q1, q2⟩]
            obtain ⟨σ', s1, s2⟩ := c_would_l hw (It := It) hk hi hN hm d (j + 1) n (acc + (goesA W A (It (i0 + j)).toInt.toNat).1) σ2 _ _ (by omega) (by omega) p3 p2 okn (p4.r sky64 hW) (by rw [p4 10 (by decide) (by decide) (by decide) (by decide)]; exact h10) (fun i hi' => by rw [p4 (20 + k) (by omega) (by omega) (by omega) (by omega)]; exact h20 i hi')
            exact ⟨σ', s1, p4.tr s2⟩
        · rw [if_neg q1, would_s q (fun z => q1 z.1)]
          exact ⟨σ, rfl, fC.rf _ σ⟩
      · rw [if_neg (fun z => q ((lt_rng (by omega) (by omega)).mp z)), would_o q]
        exact ⟨σ, rfl, fC.rf _ σ⟩
theorem eq_wouldBe {σM σC : Sg} (h : Rel σM σC) (x i n : Int32) : ∃ r σM' σC', f_X12_wouldBe x i n σM = some (r, σM') ∧ f_X11_wouldBe x i n σC = some (r, σC') ∧ Rel σM' σC' := by
  obtain ⟨⟨A, W, g⟩, hk', hr⟩ := id h
  unfold f_X12_wouldBe f_X11_wouldBe f_X12_isSpan
  rw [one_x, sheet_x, m_inN 0 20 0 20 rfl rfl, show f_X11_within n 0 20 σC = rng n (nI 0) (nI 20) from c_in _ _ _ _]
  by_cases q : rng x (nI 0) (nI 3) = true
  · obtain ⟨k, -, hk, rfl⟩ := (rng_nI (by decide) (by decide)).mp q
    have hk4 : k < 4 := by omega
    rw [if_pos q, if_pos q]
    by_cases q1 : rng n (nI 0) (nI 20) = true
    · obtain ⟨N, -, hN, rfl⟩ := (rng_nI (by decide) (by decide)).mp q1
      obtain ⟨r, r1, r2, -⟩ := why_eq h.rest hk4 0
      rw [if_pos q1, if_pos rfl, if_pos q1, r1, bnd_some, r2, bnd_some]
      by_cases q3 : r = 0
      · subst q3
        obtain ⟨s1, s2, s3, ⟨m, hm, s4⟩, s5⟩ := h.rest.sheet k hk4
        obtain ⟨t1, t2, t3, t4⟩ := c_trial g.c g.d g.rc
        obtain ⟨σ1, p1, p2, p3⟩ := m_puts σM
        rw [if_pos rfl, if_pos rfl, p1, bnd_some, lt_ap]
        have c10 : f_X10_copy 64 41 σC 10 k = nI m := by rw [t4 10 (by decide) (by decide) (by decide) (by decide), s2, s4]
        have m11 : σ1 11 k = nI m := by rw [p3 11 (by decide), s4]
        by_cases q2 : rng i (nI 0) (nI m - nI 1) = true
        · obtain ⟨i0, hi0, rfl⟩ := (kite_iff (by omega)).mp q2
          have h1 : rM σ1 A := fun i a b c d => by rw [p3 1 (by decide)]; exact g.m i a b c d
          have hW1 : rulM σ1 W := g.rm.eq (fun i _ _ => by rw [p3 1 (by decide)])
          obtain ⟨σ2, σ3, e1, e2, e3, e4⟩ := m_would_l g.okw (It := fun i => σM 12 (40 * k + i)) hk4 (show i0 < 40 by omega) hN hm N 0 400 0 σ1 A (by omega) (by omega) h1 g.ok hW1 m11 (fun i _ => by rw [p3 12 (by decide)])
          obtain ⟨σ4, f1, f2⟩ := c_would_l g.okw (It := fun i => σM 12 (40 * k + i)) hk4 (show i0 < 40 by omega) hN hm N 0 400 0 (f_X10_copy 64 41 σC) A (σM 1 4) (by omega) (by omega) t1 t2 g.ok t3 c10 (fun i hi => by rw [t4 (20 + k) (by omega) (by omega) (by omega) (by omega)]; exact s5 i hi)
          exact ⟨_, σ3, σ4, e1, f1, h.fr (tried p2 p3 e2 e3 e4) (t4.tr f2).k⟩
        · by_cases q4 : nI N ≤ 0
          · obtain ⟨σ', b1, b2, b3⟩ := m_back σ1
            refine ⟨0, σ', f_X10_copy 64 41 σC, ?_, ?_, h.fr (tried p2 p3 (sameM.rf σ1) b2 b3) t4.k⟩
            · show f_X12_wouldBe_b37 (f_X12_wouldBe_l37 (nI k) i (nI N) 399) (nI k) i (nI N) 0 0 0 σ1 = _
              unfold f_X12_wouldBe_b37 f_X12_wouldBe_b138
              rw [if_pos q4, b1, bnd_some, if_pos rfl]
            · show f_X11_wouldBe_b55 (f_X11_wouldBe_l55 (nI k) i (nI N) 399) (nI k) i (nI N) 0 0 (f_X10_copy 64 41 σC) = _
              unfold f_X11_wouldBe_b55
              rw [if_pos q4]
          · obtain ⟨σ', e1, e2, e3⟩ := m_would_e (n := 398) (x1 := nI k) (x2 := i) (x3 := nI N) (x5 := 0 + 0) (x6 := 0 + 1) (v := -12) (σ := σ1) (by decide)
            refine ⟨-12, σ', f_X10_copy 64 41 σC, ?_, ?_, h.fr (tried p2 p3 (sameM.rf σ1) e2 e3) t4.k⟩
            · show f_X12_wouldBe_b37 (f_X12_wouldBe_l37 (nI k) i (nI N) 399) (nI k) i (nI N) 0 0 0 σ1 = _
              unfold f_X12_wouldBe_b37 f_X12_isItem
              rw [if_neg q4, if_neg (fun z => z rfl), show i.toInt64 + (0 : Int32).toInt64 = i.toInt64 from Int64.add_zero _, rd_nI hk4 (by decide), bnd_some, bnd_some, m11, show f_X12_in i.toInt64 0 (nI m - 1).toInt64 σ1 = rng i (nI 0) (nI m - nI 1) from m_in i (nI 0) _ σ1, if_neg q2]
              unfold f_X12_wouldBe_b98
              rw [if_pos (by decide), lt_ap]
              exact e1
            · show f_X11_wouldBe_b55 (f_X11_wouldBe_l55 (nI k) i (nI N) 399) (nI k) i (nI N) 0 0 (f_X10_copy 64 41 σC) = _
              unfold f_X11_wouldBe_b55
              rw [if_neg q4, rd_nI hk4 (by decide), bnd_some, c10, show i + 0 = i from Int32.add_zero i, show f_X11_within i 0 (nI m - 1) (f_X10_copy 64 41 σC) = rng i (nI 0) (nI m - nI 1) from c_in _ _ _ _, if_neg q2]
      · rw [if_neg q3, if_neg q3]
        exact ⟨_, σM, σC, rfl, rfl, h⟩
    · rw [if_neg q1, if_neg (by decide), if_neg q1]
      exact ⟨_, σM, σC, rfl, rfl, h⟩
  · rw [if_neg q, if_neg (by decide), if_neg q]
    exact ⟨_, σM, σC, rfl, rfl, h⟩
