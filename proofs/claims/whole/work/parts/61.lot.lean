theorem eq_kiteOf {σM σC : Sg} (h : Rel σM σC) (x y : Int32) : ∃ r σM' σC', f_X12_kiteOf x y σM = some (r, σM') ∧ f_X11_kiteOf x y σC = some (r, σC') ∧ Rel σM' σC' := by
  obtain ⟨⟨A, W, g⟩, hk, hr⟩ := id h
  have hm := g.ok.1.1
  by_cases q : rng x (nI 0) (nI (A 0) - nI 1) = true
  · obtain ⟨k, hk0, rfl⟩ := (kite_iff (by omega)).mp q
    have hk6 : k < 6 := by omega
    by_cases q2 : rng y (nI 0) (nI 9) = true
    · obtain ⟨w, -, hw, rfl⟩ := (rng_nI (by decide) (by decide)).mp q2
      by_cases h6 : w < 6
      · exact ⟨_, _, _, m_kiteOf_w g.m g.ok hk0 h6, c_kiteOf_w g.c g.d g.ok hk0 h6, h⟩
      · unfold f_X12_kiteOf f_X11_kiteOf
        rw [m_isKite g.m, c_isKite g.c, m_inN 0 9 0 9 rfl rfl, if_pos q, if_pos q, if_pos q2]
        match w, hw, h6 with
        | 6, _, _ =>
          rw [if_pos (by decide), if_neg (by decide), if_neg (by decide), if_neg (by decide), if_neg (by decide), if_neg (by decide), if_neg (by decide), if_pos (by decide), m_driftsNow g.m g.ok hk6, bnd_some, c_driftsNow g.c g.d g.ok hk6, bnd_some]
          exact ⟨_, σM, σC, rfl, rfl, h⟩
        | 7, _, _ =>
          rw [if_neg (show ¬ nI 7 = 6 by decide), if_pos (show nI 7 = 7 by decide), m_fee g.m g.ok hk6, bnd_some, if_neg (by decide), if_neg (by decide), if_neg (by decide), if_neg (by decide), if_neg (by decide), if_neg (by decide), if_neg (by decide), if_pos (by decide)]
          unfold f_X1_feeOf
          have hk0' := (g.ok.2.2.2.1 k hk6).1
          rw [rd_nI hk6 (by decide), bnd_some, (g.c.2.2.2.1 k hk6).1, if_neg (nI_in (by omega) (by decide)), nI_clamp (by omega), c_fee (by omega) hk6, bnd_some]
          exact ⟨_, σM, σC, rfl, rfl, h⟩
        | 8, _, _ =>
          obtain ⟨σ2, e1, e2⟩ := g.rm σM (fun _ _ _ => rfl) A g.m g.ok k hk6
          obtain ⟨σ3, e3, e4, e5⟩ := c_facts sky41 g.c g.d g.ok g.rc hk6
          rw [if_neg (show ¬ nI 8 = 6 by decide), if_neg (show ¬ nI 8 = 7 by decide), if_pos (show nI 8 = 8 by decide), e1, bd2_some, if_neg (by decide), if_neg (by decide), if_neg (by decide), if_neg (by decide), if_neg (by decide), if_neg (by decide), if_neg (by decide), if_neg (by decide), if_pos (by decide)]
          unfold f_X1_willOf
          rw [c_farOf g.c g.d g.ok hk6, bnd_some, e3, bnd_some, rd_nI hk6 (by decide), bnd_some, e4 25 (by decide), (g.c.2.2.2.1 k hk6).1, e5, bnd_some, bd2_some]
          exact ⟨_, σ2, σ3, rfl, rfl, h.fr ⟨fun i _ => by rw [e2 1 (by decide)], fun p hp => e2 p (by omega), fun i _ => by rw [e2 0 (by decide)]⟩ (eqK.of (fun p _ hp => e4 p hp))⟩
        | 9, _, _ =>
          rw [if_neg (show ¬ nI 9 = 6 by decide), if_neg (show ¬ nI 9 = 7 by decide), if_neg (show ¬ nI 9 = 8 by decide), if_pos (show nI 9 = 9 by decide), m_farOf g.m g.ok hk6, bnd_some, if_neg (by decide), if_neg (by decide), if_neg (by decide), if_neg (by decide), if_neg (by decide), if_neg (by decide), if_neg (by decide), if_neg (by decide), if_neg (by decide), if_pos (by decide), c_farOf g.c g.d g.ok hk6, bnd_some]
          exact ⟨_, σM, σC, rfl, rfl, h⟩
        | 0, _, z | 1, _, z | 2, _, z | 3, _, z | 4, _, z | 5, _, z => exact absurd z (by decide)
        | w + 10, z, _ => exact absurd z (by omega)
    · have ne : ∀ n, n ≤ 9 → ¬ y = nI n := fun n hn e => q2 (by rw [e]; exact (rng_nI (by decide) (by decide)).mpr ⟨n, by omega, hn, rfl⟩)
      unfold f_X12_kiteOf f_X11_kiteOf
      rw [m_isKite g.m, c_isKite g.c, m_inN 0 9 0 9 rfl rfl, if_pos q, if_pos q, if_neg q2, if_neg (show ¬ y = 0 from ne 0 (by decide)), if_neg (show ¬ y = 1 from ne 1 (by decide)), if_neg (show ¬ y = 2 from ne 2 (by decide)), if_neg (show ¬ y = 3 from ne 3 (by decide)), if_neg (show ¬ y = 4 from ne 4 (by decide)), if_neg (show ¬ y = 5 from ne 5 (by decide)),
        if_neg (show ¬ y = 6 from ne 6 (by decide)), if_neg (show ¬ y = 7 from ne 7 (by decide)), if_neg (show ¬ y = 8 from ne 8 (by decide)), if_neg (show ¬ y = 9 from ne 9 (by decide))]
      exact ⟨_, σM, σC, rfl, rfl, h⟩
  · unfold f_X12_kiteOf f_X11_kiteOf
    rw [m_isKite g.m, c_isKite g.c, if_neg q, if_neg q]
    exact ⟨_, σM, σC, rfl, rfl, h⟩
/-! lots -/
def uZ (z : Int32) : Nat := (z.toUInt32 >>> 16).toNat
theorem uZ_lt (z : Int32) : uZ z < 65536 := by
  unfold uZ
  rw [UInt32.toNat_shiftRight]
  have h := z.toUInt32.toNat_lt
  show z.toUInt32.toNat >>> 16 < 65536
  rw [Nat.shiftRight_eq_div_pow]
  omega
theorem u_nI (w : UInt32) : w.toInt32 = nI w.toNat := by
  apply Int32.toBitVec_inj.mp
  show w.toBitVec = BitVec.ofNat 32 w.toNat
  simp
theorem ushr_nI (z : Int32) : ushr32 z 16 = nI (uZ z) := u_nI (z.toUInt32 >>> 16)
theorem ne_succ {m : Nat} (h : m < 100) : ¬ nI m + 1 = 0 := fun z => by
  rw [nI_1] at z
  exact absurd ((nI_eq (b := 0) (by omega) (by decide)).mp z) (by omega)
theorem act_nI (z : Int32) {m : Nat} (hm : m < 100) : rem32 (ushr32 z 16) (nI m + 1) = nI (uZ z % (m + 1)) := by
  have := uZ_lt z
  rw [ushr_nI, nI_1]
  unfold rem32
  exact pk_rem (by omega) (by omega) (by omega)
def nextZ (z : Int32) : Int32 := z * 1103515245 + 12345
def lotA (W : WT) (A : Nat → Nat) (z : Int32) : Nat × (Nat → Nat) := goesA W A (uZ (nextZ z) % (A 0 + 1))
theorem lot_le (A : Nat → Nat) (z : Int32) : uZ (nextZ z) % (A 0 + 1) ≤ A 0 := by
  have := Nat.mod_lt (uZ (nextZ z)) (show 0 < A 0 + 1 by omega)
  omega
theorem m_byLot {σ : Sg} {A : Nat → Nat} {W : WT} (h : rM σ A) (ok : okA A) (hg : A 3 < 16) (hw : okW W) (hW : rulM σ W) :
    ∃ σ', f_X12_byLot σ = some (nI (lotA W A (σ 1 6)).1, σ') ∧ rM σ' (lotA W A (σ 1 6)).2 ∧ okA (lotA W A (σ 1 6)).2 ∧ σ' 1 6 = nextZ (σ 1 6) ∧ σ' 1 4 = σ 1 4 + nI (lotA W A (σ 1 6)).1 ∧ (∀ p, p ≠ 1 → p ≠ 4 → σ' p = σ p) ∧ (∀ i, i = 1 ∨ 95 ≤ i → σ' 1 i = σ 1 i) := by
  have hm := ok.1.1
  have h1 : rM (upS σ 1 6 (nextZ (σ 1 6))) A := fun i a b c d => by rw [upS_nj (by omega)]; exact h i a b c d
  have hW1 : rulM (upS σ 1 6 (nextZ (σ 1 6))) W := hW.eq (fun i _ _ => upS_nj (by omega))
  obtain ⟨σ', p1, p2, p3, p4, p5⟩ := m_goes h1 ok hg hw hW1 (lot_le A (σ 1 6))
  unfold f_X12_byLot
  rw [lt_ap, upS_at, upS_nj (by decide), h 0 (by decide) (by decide) (by decide) (by decide), if_neg (ne_succ (by omega)), act_nI _ (by omega)]
  have p1' : f_X12_goes (nI (uZ (σ 1 6 * 1103515245 + 12345) % (A 0 + 1))) (upS σ 1 6 (σ 1 6 * 1103515245 + 12345)) = some (nI (lotA W A (σ 1 6)).1, σ') := p1
  rw [p1', bd2_some]
  refine ⟨σ', rfl, p2, p3, ?_, ?_, fun p a b => ?_, fun i hi => ?_⟩
  · rw [p4.2 6 (by omega), upS_at]
  · rw [p5, upS_nj (by decide)]; rfl
  · rw [p4.1 p a b, upS_ne a]
  · rw [p4.2 i (by omega), upS_nj (by omega)]
theorem c_lotAct {σ : Sg} {A : Nat → Nat} (hs : rCs σ A) (ok : okA A) (z : Int32) : f_X1_actOfLot (f_X11_nextLot z σ) σ = some (nI (uZ (nextZ z) % (A 0 + 1))) := by
  have hm := ok.1.1
  unfold f_X1_actOfLot
  rw [hs.1, if_neg (ne_succ (by omega)), act_nI _ (by omega)]
  rfl
theorem rCs.z {σ : Sg} {A : Nat → Nat} (h : rCs σ A) (v : Int32) : rCs (upS σ 24 3 v) A := by
  obtain ⟨h1, h2, h3, h4, h5, h6, h7⟩ := h
  refine ⟨by rw [upS_nj (by decide)]; exact h1, by rw [upS_nj (by decide)]; exact h2, by rw [upS_nj (by decide)]; exact h3, ?_⟩
  rw [upS_ne (by decide), upS_ne (by decide), upS_ne (by decide), upS_ne (by decide), upS_ne (by decide), upS_ne (by decide), upS_ne (by decide), upS_ne (by decide), upS_ne (by decide)]
  exact ⟨h4, h5, h6, h7⟩
theorem eq_lot {σM σC : Sg} (h : Rel σM σC) : ∃ r σM' σC', f_X12_lot σM = some (r, σM') ∧ f_X11_lot σC = some (r, σC') ∧ Rel σM' σC' := by
  obtain ⟨⟨A, W, g⟩, hk, hr⟩ := id h
  have hm := g.ok.1.1
  unfold f_X12_lot f_X11_lot
  rw [m_over g.m g.ok, c_over g.c g.d g.ok]
  by_cases q : A 2 ≤ A 3
  · rw [if_pos (decide_eq_true q), if_pos (decide_eq_true q)]
    exact ⟨_, σM, σC, rfl, rfl, h⟩
  · have h16 := g.ok.1.2.2.1
    obtain ⟨σ1, p1, p2, p3, p4, p5, p6, p7⟩ := m_byLot g.m g.ok (by omega) g.okw g.rm
    have s0 : rCs (upS σC 24 3 (nextZ (σM 1 6))) A := g.c.z _
    have d0 : rCd (upS σC 24 3 (nextZ (σM 1 6))) 41 A (σM 1 4) := g.d.mono (upS_ne (by decide)) (upS_ne (by decide)) (upS_ne (by decide))
    have w0 : rulC (upS σC 24 3 (nextZ (σM 1 6))) W := g.rc.mono (fun p a b => upS_ne (by omega))
    obtain ⟨σ2, q1, q2, q3, q4⟩ := c_goAct sky41 s0 d0 g.ok (by omega) g.okw w0 (lot_le A (σM 1 6))
    have q1' : f_X1_goByAct 41 (nI (uZ (nextZ (σM 1 6)) % (A 0 + 1))) (upS σC 24 3 (f_X11_nextLot (σM 1 6) σC)) = some (nI (lotA W A (σM 1 6)).1, σ2) := q1
    have e1 : f_X1_actOfLot (f_X11_nextLot (σM 1 6) σC) (upS σC 24 3 (f_X11_nextLot (σM 1 6) σC)) = some (nI (uZ (nextZ (σM 1 6)) % (A 0 + 1))) := c_lotAct (σ := upS σC 24 3 (f_X11_nextLot (σM 1 6) σC)) s0 g.ok (σM 1 6)
    rw [if_neg (fun z => q (of_decide_eq_true z)), if_neg (fun z => q (of_decide_eq_true z)), p1, bd2_some, lt_ap, g.z, upS_at, e1, bnd_some, q1', bd2_some]
    have oM1 : oM σM σ1 := ⟨fun p hp => p6 p (by omega) (by omega), fun i _ => by rw [p6 0 (by decide) (by decide)]⟩
    have oC1 : oC σC σ2 := (oC.up (by decide) (by decide)).tr q4.o
    refine ⟨_, σ1, σ2, rfl, rfl, ⟨(lotA W A (σM 1 6)).2, W, p3, g.okw, p2, q3, by rw [p5]; exact q2, g.rm.eq (fun i hi _ => p7 i hi), q4.r sky41 w0, ?_, ?_⟩, hk.go oM1 oC1, hr.go oM1 oC1⟩
    · rw [p4, q4 24 (by decide) (by decide) (by decide) (by decide), upS_at]
    · rw [p7 1 (by omega), q4 34 (by decide) (by decide) (by decide) (by decide), upS_ne (by decide)]; exact g.n
