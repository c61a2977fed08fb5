/-! feed: both sides -/
def byt (x : Int64) (i : Nat) : Nat := (x.toBitVec >>> (8 * i)).toNat % 2 ^ 8
theorem byt_lt (x : Int64) (i : Nat) : byt x i < 256 := Nat.mod_lt _ (by decide)
theorem sh_s : ∀ i, i < 8 → ((((8 : Int32) * nI i).toInt64 &&& 63).toBitVec.smod 64).toNat = 8 * i := by decide +kernel
theorem sh_u : ∀ i, i < 8 → ((((8 : Int32) * nI i).toInt64.toUInt64 &&& Int64.toUInt64 63).toBitVec % 64).toNat = 8 * i := by decide +kernel
theorem shr64_b {x : Int64} {i : Nat} (hi : i < 8) : (shr64 x (8 * nI i)).toBitVec = x.toBitVec.sshiftRight (8 * i) := by
  show x.toBitVec.sshiftRight ((((8 : Int32) * nI i).toInt64 &&& 63).toBitVec.smod 64).toNat = _
  rw [sh_s i hi]
theorem ushr64_b {x : Int64} {i : Nat} (hi : i < 8) : (ushr64 x (8 * nI i)).toBitVec = x.toBitVec >>> (8 * i) := by
  show x.toBitVec >>> ((((8 : Int32) * nI i).toInt64.toUInt64 &&& Int64.toUInt64 63).toBitVec % 64).toNat = _
  rw [sh_u i hi]
theorem ssh_8 (v : BitVec 64) {k : Nat} (hk : k ≤ 56) : (v.sshiftRight k).setWidth 8 = (v >>> k).setWidth 8 := by
  apply BitVec.eq_of_getLsbD_eq
  intro j hj
  rw [BitVec.getLsbD_setWidth, BitVec.getLsbD_setWidth, BitVec.getLsbD_sshiftRight, BitVec.getLsbD_ushiftRight]
  have h1 : k + j < 64 := by omega
  have h2 : ¬ 64 ≤ j := by omega
  simp [h1, h2]
theorem byt_m {x : Int64} {i : Nat} (hi : i < 8) : ((shr64 x (8 * nI i)) &&& (255 : Int64)).toInt32 = nI (byt x i) := by
  apply Int32.toBitVec_inj.mp
  have e1 : ((shr64 x (8 * nI i)) &&& (255 : Int64)).toBitVec.toNat = byt x i := by
    show ((shr64 x (8 * nI i)).toBitVec &&& 255#64).toNat = _
    rw [shr64_b hi, BitVec.toNat_and]
    show _ &&& (2 ^ 8 - 1) = _
    rw [Nat.and_two_pow_sub_one_eq_mod]
    have := congrArg BitVec.toNat (ssh_8 x.toBitVec (k := 8 * i) (by omega))
    rw [BitVec.toNat_setWidth, BitVec.toNat_setWidth] at this
    exact this
  have hb := byt_lt x i
  apply BitVec.eq_of_toNat_eq
  rw [pk_tn (by omega), Int64.toBitVec_toInt32]
  rw [BitVec.signExtend_eq_setWidth_of_le _ (by decide), BitVec.toNat_setWidth, e1]
  exact Nat.mod_eq_of_lt (by omega)
theorem sx8_idem (z : Int32) : z.toInt8.toInt32.toInt8 = z.toInt8 := by simp
theorem byt_c {x : Int64} {i : Nat} (hi : i < 8) : (((ushr64 x (8 * nI i)).toInt32).toInt8.toInt32).toInt8.toInt32 = sx8 (nI (byt x i)) := by
  rw [sx8_idem]
  unfold sx8
  refine congrArg Int8.toInt32 (Int8.toBitVec_inj.mp ?_)
  have hb := byt_lt x i
  rw [Int32.toBitVec_toInt8, Int64.toBitVec_toInt32, ushr64_b hi, Int32.toBitVec_toInt8, BitVec.signExtend_eq_setWidth_of_le _ (by decide), BitVec.signExtend_eq_setWidth_of_le _ (by decide), BitVec.signExtend_eq_setWidth_of_le _ (by decide)]
  apply BitVec.eq_of_toNat_eq
  rw [BitVec.toNat_setWidth, BitVec.toNat_setWidth, BitVec.toNat_setWidth, pk_tn (by omega)]
  unfold byt
  omega
theorem Rel.fed {σM σC σM' σC' : Sg} (h : Rel σM σC) (q : ∀ p, p ≠ 0 → p ≠ 9 → σM' p = σM p) (q0 : ∀ j, j ≠ 21 → σM' 0 j = σM 0 j) (k : ∀ p, p ≠ 67 → p ≠ 68 → σC' p = σC p) (tn : ∃ n, n ≤ 200 ∧ σM' 0 21 = nI n ∧ σC' 67 0 = nI n) (tp : ∀ i, i < 200 → ∃ b, b < 256 ∧ σM' 9 i = nI b ∧ σC' 68 i = sx8 (nI b)) : Rel σM' σC' := by
  obtain ⟨hh, hk, hr⟩ := h
  refine ⟨hh.elim fun A g => g.elim fun W g => ⟨A, W, g.fr (fun i _ => by rw [q 1 (by decide) (by decide)]) (fun p a b c => k p (by omega) (by omega))⟩, ⟨by rw [k 0 (by decide) (by decide), q0 3 (by decide)]; exact hk.1, ?_⟩, by rw [q0 19 (by decide), k 0 (by decide) (by decide)]; exact hr.rn, fun j hj w hw => by rw [k (15 + j) (by omega) (by omega), q 8 (by decide) (by decide)]; exact hr.rows j hj w hw, tn, tp, fun j hj => by rw [k 9 (by decide) (by decide), k 10 (by decide) (by decide), k (20 + j) (by omega) (by omega), q 10 (by decide) (by decide), q 11 (by decide) (by decide), q 12 (by decide) (by decide)]; exact hr.sheet j hj, (by rw [k 11 (by decide) (by decide), k 12 (by decide) (by decide), k 13 (by decide) (by decide), q 13 (by decide) (by decide), q 14 (by decide) (by decide), q 15 (by decide) (by decide)]; exact hr.shelf), by rw [q0 35 (by decide), k 0 (by decide) (by decide), k 1 (by decide) (by decide), q 16 (by decide) (by decide)]; exact hr.trn⟩
  rw [q0 3 (by decide)]
  exact hk.2.elim Or.inl (fun ⟨A, W, g⟩ => Or.inr ⟨A, W, g.fr (fun i _ => by show σM' 2 i = σM 2 i; rw [q 2 (by decide) (by decide)]) (fun p h1 h2 h3 => by
    rw [shf_in (by omega), shf_in (by omega), k (p + 20) (by omega) (by omega)])⟩)
theorem feed_l (x : Int64) {N : Nat} (hN : N ≤ 8) : ∀ (d i n1 n2 t : Nat) (σM σC : Sg), i + d = N → d < n1 → d < n2 → t + d ≤ 200 → Rel σM σC → σM 0 21 = nI t → σC 67 0 = nI t →
    ∃ r σM' σC', f_X12_feed_l32 x (nI N) n1 (nI i) σM = some (r, σM') ∧ f_X8_take_l3 x (nI N) n2 (nI i) σC = some (r, σC') ∧ Rel σM' σC'
  | d, i, 0, n2, t, σM, σC, _, h, _, _, _, _, _ => absurd h (by omega)
  | d, i, n1 + 1, 0, t, σM, σC, _, _, h, _, _, _, _ => absurd h (by omega)
  | d, i, n1 + 1, n2 + 1, t, σM, σC, hd, hn1, hn2, ht, h, e1, e2 => by
    show ∃ r σM' σC', f_X12_feed_b32 (f_X12_feed_l32 x (nI N) n1) x (nI N) (nI i) σM = some (r, σM') ∧ f_X8_take_b3 (f_X8_take_l3 x (nI N) n2) x (nI N) (nI i) σC = some (r, σC') ∧ Rel σM' σC'
    unfold f_X12_feed_b32 f_X8_take_b3
    rw [e1, e2]
    cases d with
    | zero =>
      rw [if_pos (nI_le (by omega) (by omega)), if_pos (nI_le (by omega) (by omega))]
      exact ⟨_, σM, σC, rfl, rfl, h⟩
    | succ d =>
      rw [if_neg (nI_ge (by omega) (by omega)), if_neg (nI_ge (by omega) (by omega)), if_neg (show ¬ (200 : Int32) ≤ nI t from nI_ge (b := 200) (by omega) (by decide)), byt_m (by omega), byt_c (by omega), wr_nI (by omega) (by decide), wr_nI (by omega) (by decide), bnd_some, bnd_some, lt_ap, lt_ap, upS_ne (q := 0) (by decide), upS_ne (q := 67) (by decide), e1, e2, nI_1, nI_1]
      have h2 : Rel (upS (upS σM 9 t (nI (byt x i))) 0 21 (nI (t + 1))) (upS (upS σC 68 t (sx8 (nI (byt x i)))) 67 0 (nI (t + 1))) := h.fed (fun p a b => by rw [upS_ne a, upS_ne b]) (fun j a => by rw [upS_nj (by omega), upS_nj (by omega)]) (fun p a b => by rw [upS_ne a, upS_ne b]) ⟨t + 1, by omega, upS_at, upS_at⟩ (fun j hj => by
        by_cases e : j = t
        · subst e
          exact ⟨byt x i, byt_lt x i, by rw [upS_nj (by omega), upS_at], by rw [upS_nj (by omega), upS_at]⟩
        · rw [upS_nj (by omega), upS_nj (by omega), upS_nj (by omega), upS_nj (by omega)]
          exact h.rest.tape j hj)
      exact feed_l x hN d (i + 1) n1 n2 (t + 1) _ _ (by omega) (by omega) (by omega) (by omega) h2 upS_at upS_at
theorem eq_feed {σM σC : Sg} (h : Rel σM σC) (x : Int64) (y : Int32) : ∃ r σM' σC', f_X12_feed x y σM = some (r, σM') ∧ f_X11_feed x y σC = some (r, σC') ∧ Rel σM' σC' := by
  obtain ⟨t, t0, t1, t2⟩ := h.rest.tn
  unfold f_X12_feed f_X11_feed
  rw [m_inN 1 8 1 8 rfl rfl, show f_X11_within y 1 8 σC = rng y (nI 1) (nI 8) from c_in _ _ _ _]
  by_cases q : rng y (nI 1) (nI 8) = true
  · obtain ⟨N, h1, hN, rfl⟩ := (rng_nI (by decide) (by decide)).mp q
    rw [if_pos q, if_pos q, t1, t2, nI_add]
    by_cases q2 : t + N ≤ 200
    · obtain ⟨r, σ1, σ2, p1, p2, p3⟩ := feed_l x hN N 0 400 400 t σM σC (by omega) (by omega) (by omega) q2 h t1 t2
      have p2' : f_X8_take x (nI N) σC = some (r, σ2) := p2
      rw [if_pos (show nI (t + N) ≤ (200 : Int32) from nI_le (b := 200) q2 (by decide)), if_pos (show nI (t + N) ≤ (200 : Int32) from nI_le (b := 200) q2 (by decide)), p2', bd2_some]
      exact ⟨r, σ1, σ2, p1, rfl, p3⟩
    · rw [if_neg (show ¬ nI (t + N) ≤ (200 : Int32) from nI_ge (a := 200) (by omega) (by omega)), if_neg (show ¬ nI (t + N) ≤ (200 : Int32) from nI_ge (a := 200) (by omega) (by omega))]
      exact ⟨_, σM, σC, rfl, rfl, h⟩
  · rw [if_neg q, if_neg q]
    exact ⟨_, σM, σC, rfl, rfl, h⟩
