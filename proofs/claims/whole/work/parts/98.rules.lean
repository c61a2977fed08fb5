/-! rules: both sides -/
theorem eq_rules_l {B : Nat → Nat} {n la : Nat} : ∀ (d j r m1 m2 : Nat) (lm lc : List Int32) (kd ds en fc tc : Nat → Nat) (φ : Nat → Fct → Bool) (σM σC : Sg), j + d = la → d < m1 → d < m2 → OKM B n j 0 lm σM → OKC B n la j lc σC → lm.length ≤ j → lc.length ≤ j → RuL r lm lc kd ds en fc tc φ σM σC →
    ∃ σM' σC', f_X12_rules_l35 m1 σM = f_X12_rules_b60 σM' ∧ f_X8_readInto_l23 m2 (nI r) σC = f_X8_readInto_b55 σC' ∧ frM σM σM' ∧ frC σC σC' ∧ ((∃ p, WRM B n p σM' ∧ WRC B n la p σC') ∨
      ∃ j' r' lm' lc' kd' ds' en' fc' tc' φ', lm'.length ≤ 200 ∧ lc'.length ≤ 200 ∧ OKM B n j' 0 lm' σM' ∧ OKC B n la j' lc' σC' ∧ RuL r' lm' lc' kd' ds' en' fc' tc' φ' σM' σC')
  | d, j, r, 0, m2, lm, lc, kd, ds, en, fc, tc, φ, σM, σC, _, h, _, _, _, _, _, _ => absurd h (by omega)
  | d, j, r, m1 + 1, 0, lm, lc, kd, ds, en, fc, tc, φ, σM, σC, _, _, h, _, _, _, _, _ => absurd h (by omega)
  | d, j, r, m1 + 1, m2 + 1, lm, lc, kd, ds, en, fc, tc, φ, σM, σC, hd, k1, k2, h, g, hm, hc, R => by
    obtain ⟨l200, jla⟩ := la_b g
    have hst := h.st
    have hn := h.1.1
    have tt := tk_top (B := B) (n := n) (s := stN B n j)
    have hr8 := R.1
    show ∃ σM' σC', f_X12_rules_b35 (f_X12_rules_l35 m1) σM = f_X12_rules_b60 σM' ∧ f_X8_readInto_b23 (f_X8_readInto_l23 m2) (nI r) σC = f_X8_readInto_b55 σC' ∧ _
    unfold f_X12_rules_b35 f_X8_readInto_b23
    rw [if_neg (fun z => z h.2.1.1), h.1.2.2, h.2.1.2.1, if_neg (show ¬ (8 : Int32) < nI r from nI_nlt (a := 8) (by omega) (by decide)), if_pos (stillC g), tokC g, bnd_some]
    have t27 : nI (tkV B n (stN B n j)) = 27 ↔ tkV B n (stN B n j) = 27 := nI_eq (b := 27) (by omega) (by decide)
    by_cases q : tkV B n (stN B n j) = 27
    · have hs := tk_27.mp q
      rw [if_pos (nI_le (by omega) (by omega)), if_pos (t27.mpr q)]
      exact ⟨σM, σC, rfl, rfl, frM.rf σM, frC.rf σC, Or.inr ⟨j, r, lm, lc, kd, ds, en, fc, tc, φ, by omega, by omega, h, g, R⟩⟩
    · have hj := jl g q
      have hs : stN B n j < n := by
        by_cases z : stN B n j < n
        · exact z
        · exact absurd (tk_27.mpr z) q
      obtain ⟨σ1, τ1, e1, e2, f1, f2, S⟩ := eq_rule h g hm hc R
      rw [if_neg (nI_ge (by omega) (by omega)), if_neg (fun z => q (t27.mp z)), e1, bnd_some, e2, bnd_some, nI_1]
      obtain ⟨m1', rfl⟩ : ∃ m, m1 = m + 1 := ⟨m1 - 1, by omega⟩
      obtain ⟨m2', rfl⟩ : ∃ m, m2 = m + 1 := ⟨m2 - 1, by omega⟩
      rcases S with ⟨p, w1, w2⟩ | ⟨j', lm', lc', kd', ds', en', fc', tc', φ', h1, h2, h3, h4, h5, h6⟩
      · refine ⟨σ1, τ1, ?_, ?_, f1, f2, Or.inl ⟨p, w1, w2⟩⟩
        · show f_X12_rules_b35 (f_X12_rules_l35 m1') σ1 = _
          unfold f_X12_rules_b35
          rw [if_pos (show ¬ σ1 0 27 = 0 by rw [w1.2.1]; decide)]
        · show f_X8_readInto_b23 (f_X8_readInto_l23 m2') (nI (r + 1)) τ1 = _
          unfold f_X8_readInto_b23
          rw [if_neg (show ¬ f_X8_isStill τ1 = true by rw [stillC_w w2]; decide), ite_self]
      · obtain ⟨l2, jla'⟩ := la_b h5
        obtain ⟨σ2, τ2, a1, a2, a3, a4, a5⟩ := eq_rules_l (la - j') j' (r + 1) (m1' + 1) (m2' + 1) lm' lc' kd' ds' en' fc' tc' φ' σ1 τ1 (by omega) (by omega) (by omega) h4 h5 h2 h3 h6
        exact ⟨σ2, τ2, a1, a2, f1.tr a3, f2.tr a4, a5⟩
theorem Rel.ruled {σM σC σM' σC' : Sg} (h : Rel σM σC) (hh : ∃ A W, Hold σM' σC' A W) (q : ∀ p, p = 2 ∨ 8 ≤ p → σM' p = σM p) (q0 : ∀ i, i = 3 ∨ i = 19 ∨ i = 35 → σM' 0 i = σM 0 i) (q21 : σM' 0 21 = nI 0) (k : ∀ p, (p < 3 ∨ (9 ≤ p ∧ p < 24) ∨ (44 ≤ p ∧ p < 64) ∨ p = 68) → σC' p = σC p) (k0 : σC' 67 0 = nI 0) : Rel σM' σC' := by
  obtain ⟨-, hk, hr⟩ := h
  refine ⟨hh, ⟨by rw [k 0 (by omega), q0 3 (by omega)]; exact hk.1, ?_⟩, by rw [q0 19 (by omega), k 0 (by omega)]; exact hr.rn, fun j hj w hw => by rw [k (15 + j) (by omega), q 8 (by omega)]; exact hr.rows j hj w hw, ⟨0, by omega, q21, k0⟩, by rw [k 68 (by omega), q 9 (by omega)]; exact hr.tape, fun j hj => by rw [k 9 (by omega), k 10 (by omega), k (20 + j) (by omega), q 10 (by omega), q 11 (by omega), q 12 (by omega)]; exact hr.sheet j hj, (by rw [k 11 (by omega), k 12 (by omega), k 13 (by omega), q 13 (by omega), q 14 (by omega), q 15 (by omega)]; exact hr.shelf), by rw [q0 35 (by omega), k 0 (by omega), k 1 (by omega), q 16 (by omega)]; exact hr.trn⟩
  rw [q0 3 (by omega)]
  exact hk.2.elim Or.inl (fun ⟨A, W, g⟩ => Or.inr ⟨A, W, g.fr (fun i _ => by show σM' 2 i = σM 2 i; rw [q 2 (by omega)]) (fun p h1 h2 h3 => by
    rw [shf_in (by omega), shf_in (by omega), k (p + 20) (by omega)])⟩)
theorem eq_rules {σM σC : Sg} (h : Rel σM σC) : ∃ r σM' σC', f_X12_rules σM = some (r, σM') ∧ f_X11_rules σC = some (r, σC') ∧ Rel σM' σC' := by
  obtain ⟨⟨A, W, g⟩, hk, hr⟩ := id h
  obtain ⟨n, hn, n1, n2⟩ := hr.tn
  -- the bytes
  have hB : ∃ B : Nat → Nat, ∀ i, i < 200 → B i < 256 ∧ σM 9 i = nI (B i) ∧ σC 68 i = sx8 (nI (B i)) := by
    refine ⟨fun i => (σM 9 i).toInt.toNat, fun i hi => ?_⟩
    obtain ⟨b, b1, b2, b3⟩ := hr.tape i hi
    have e : (σM 9 i).toInt.toNat = b := by rw [b2, nI_toInt (by omega)]; rfl
    show (σM 9 i).toInt.toNat < 256 ∧ σM 9 i = nI (σM 9 i).toInt.toNat ∧ σC 68 i = sx8 (nI (σM 9 i).toInt.toNat)
    rw [e]
    exact ⟨b1, b2, b3⟩
  obtain ⟨B, hB⟩ := hB
  obtain ⟨σ1, p1, p2, p3⟩ := m_puts σM
  have tM : tpM B n (upS (upS (upS (upS (upS σ1 1 1 0) 0 26 0) 0 25 0) 0 23 0) 0 27 0) := ⟨hn, fun i hi => by rw [upS_ne (by decide), upS_ne (by decide), upS_ne (by decide), upS_ne (by decide), upS_ne (by decide), p3 9 (by decide)]; exact ⟨(hB i hi).1, (hB i hi).2.1⟩, by rw [upS_nj (by omega), upS_nj (by omega), upS_nj (by omega), upS_nj (by omega), upS_ne (by decide), p3 0 (by decide)]; exact n1⟩
  have e23 : upS (upS (upS (upS (upS σ1 1 1 0) 0 26 0) 0 25 0) 0 23 0) 0 27 0 0 23 = nI (eN B n 0) := by rw [upS_nj (by omega), upS_at]; rfl
  obtain ⟨σ2, a1, a2, a3, a4⟩ := m_token tM e23
  have tC : tpC B n σC := ⟨hn, fun i hi => ⟨(hB i hi).1, (hB i hi).2.2⟩, n2⟩
  obtain ⟨τ1, la, c1, c2, c3, c4⟩ := c_readTokens tC
  have okm : OKM B n 0 0 [] σ2 := ⟨a4.tp tM, ⟨by rw [a4.2 27 (by decide) (by decide), upS_at], a2, a3, by rw [a4.2 25 (by decide) (by decide), upS_nj (by omega), upS_nj (by omega), upS_at]; rfl⟩, by rw [a4.2 26 (by decide) (by decide), upS_nj (by omega), upS_nj (by omega), upS_nj (by omega), upS_at]; rfl, fun i hi => absurd hi (Nat.not_lt_zero i)⟩
  have okc : OKC B n la 0 [] (upS (upS (upS (upS τ1 71 0 0) 71 1 0) 67 5 0) 67 6 (-1)) := ⟨c2.mono (by rw [upS_ne (by decide), upS_ne (by decide), upS_ne (by decide), upS_ne (by decide)]) (by rw [upS_ne (by decide), upS_ne (by decide), upS_ne (by decide), upS_ne (by decide)]) (by rw [upS_nj (by omega), upS_nj (by omega), upS_ne (by decide), upS_ne (by decide)]), Nat.zero_le _, ⟨upS_at, by rw [upS_nj (by omega), upS_at]; rfl⟩, ⟨by rw [upS_ne (by decide), upS_ne (by decide), upS_at]; rfl, fun i hi => absurd hi (Nat.not_lt_zero i)⟩, 0, by omega, by rw [upS_ne (by decide), upS_ne (by decide), upS_nj (by omega), upS_at]; rfl⟩
  have rl : RuL 0 [] [] (fun _ => 0) (fun _ => 0) (fun _ => 0) (fun _ => 0) (fun _ => 0) (fun _ _ => true) σ2 (upS (upS (upS (upS τ1 71 0 0) 71 1 0) 67 5 0) 67 6 (-1)) := ⟨by omega, by rw [a4.1 1 (by decide), upS_ne (by decide), upS_ne (by decide), upS_ne (by decide), upS_ne (by decide), upS_at]; rfl, by rw [upS_ne (by decide), upS_ne (by decide), upS_nj (by omega), upS_at]; rfl, rfl, fun q hq => absurd hq (by omega)⟩
  obtain ⟨σ3, τ3, b1, b2, f1, f2, S⟩ := eq_rules_l (la - 0) 0 0 400 400 [] [] _ _ _ _ _ _ σ2 _ (by omega) (by have := c2.1; have := c2.2.1; omega) (by have := c2.1; have := c2.2.1; omega) okm okc (Nat.le_refl _) (Nat.le_refl _) rl
  have b2' : f_X8_readInto_l23 400 0 (upS (upS (upS (upS τ1 71 0 0) 71 1 0) 67 5 0) 67 6 (-1)) = f_X8_readInto_b55 τ3 := b2
  -- frames
  have fM : ∀ p, p = 2 ∨ 8 ≤ p → σ3 p = σM p := fun p hp => by rw [f1.1 p (by omega) (by omega), a4.1 p (by omega), upS_ne (by omega), upS_ne (by omega), upS_ne (by omega), upS_ne (by omega), upS_ne (by omega), p3 p (by omega)]
  have fM0 : ∀ i, i < 22 ∨ 28 ≤ i → σ3 0 i = σM 0 i := fun i hi => by rw [f1.2.1 i hi, a4.2 i (by omega) (by omega), upS_nj (by omega), upS_nj (by omega), upS_nj (by omega), upS_nj (by omega), upS_ne (by decide), p3 0 (by decide)]
  have fM1 : ∀ i, i ≠ 1 → (i < 95 ∨ 319 ≤ i) → σ3 1 i = σM 1 i := fun i a b => by rw [f1.2.2 i a b, a4.1 1 (by decide), upS_ne (by decide), upS_ne (by decide), upS_ne (by decide), upS_ne (by decide), upS_nj (by omega), p3 1 (by decide)]
  have fM3 : ∀ i, i < 319 → σ3 3 i = σM 1 i := fun i hi => by rw [f1.1 3 (by decide) (by decide), a4.1 3 (by decide), upS_ne (by decide), upS_ne (by decide), upS_ne (by decide), upS_ne (by decide), upS_ne (by decide), p2 i hi]
  have fC : ∀ p, p < 67 ∨ p = 68 → τ3 p = σC p := fun p hp => by rw [f2.1 p (by omega) (by omega), upS_ne (by omega), upS_ne (by omega), upS_ne (by omega), upS_ne (by omega), c3 p (by omega) (by omega) (by omega)]
  unfold f_X12_rules f_X11_rules f_X8_readInto f_X9_clear
  simp only [lt_ap]
  rw [p1, bnd_some, a1, bnd_some, b1, c1, bnd_some, b2']
  unfold f_X12_rules_b60 f_X8_readInto_b55
  rw [lt_ap, lt_ap, upS_nj (j := 27) (by omega), upS_nj (j := 6) (by omega)]
  rcases S with ⟨p, w1, w2⟩ | ⟨j', r', lm', lc', kd', ds', en', fc', tc', φ', h2, h3, h4, h5, h6⟩
  · obtain ⟨σ4, x1, x2, x3⟩ := m_back (upS σ3 0 21 0)
    rw [if_neg (show ¬ σ3 0 27 = 0 by rw [w1.2.1]; decide), w2.2.2.1, if_neg (m1_p (by have := w2.1.1; have := w2.2.1; omega)), x1, bnd_some, bd2_some, x3 0 (by decide), upS_nj (j := 22) (by omega), w1.2.2.1]
    refine ⟨_, σ4, _, rfl, rfl, h.ruled ⟨A, W, g.fr (fun i hi => by rw [x2 i hi, upS_ne (by decide), fM3 i hi]) (fun p a b c => by rw [upS_ne (by omega), fC p (by omega)])⟩ (fun p hp => by rw [x3 p (by omega), upS_ne (by omega), fM p hp]) (fun i hi => by rw [x3 0 (by decide), upS_nj (by omega), fM0 i (by omega)]) (by rw [x3 0 (by decide), upS_at]; rfl) (fun p hp => by rw [upS_ne (by omega), fC p (by omega)]) (by rw [upS_at]; rfl)⟩
  · obtain ⟨r8, rm, rc, -, rq⟩ := h6
    rw [if_pos h4.2.1.1, if_pos h5.2.2.1.1, lt_ap, bd2_some]
    have rum : RuM r' kd' ds' en' φ' (upS σ3 0 21 0) := by
      refine ⟨r8, by rw [upS_ne (by decide)]; exact rm, fun q hq => ?_⟩
      obtain ⟨o1, ⟨o2, o3, o4⟩, -, l, c, o5, ⟨o6, o7, o8⟩, -⟩ := rq q hq
      rw [upS_ne (by decide)]
      exact ⟨o1, ⟨o2, o3, o4⟩, l, c, o5, o6, by omega, fun i hi => by rw [h4.2.2.2 _ (by omega)]; exact o8 i hi⟩
    obtain ⟨y1, y2, y3, y4⟩ : (f_X9_copy_p34_p71 (upS τ3 67 0 0) 34 0 = τ3 71 0) ∧ (∀ i, i < 8 → f_X9_copy_p34_p71 (upS τ3 67 0 0) 35 i = τ3 72 i ∧ f_X9_copy_p34_p71 (upS τ3 67 0 0) 36 i = τ3 73 i ∧ f_X9_copy_p34_p71 (upS τ3 67 0 0) 37 i = τ3 74 i ∧ f_X9_copy_p34_p71 (upS τ3 67 0 0) 38 i = τ3 75 i) ∧ (∀ i, i < 200 → f_X9_copy_p34_p71 (upS τ3 67 0 0) 39 i = τ3 76 i) ∧ ∀ p, (p < 34 ∨ 39 < p) → f_X9_copy_p34_p71 (upS τ3 67 0 0) p = upS τ3 67 0 0 p := by
      unfold f_X9_copy_p34_p71
      simp only [lt_ap]
      refine ⟨?_, fun i hi => ⟨?_, ?_, ?_, ?_⟩, fun i hi => ?_, fun p hp => ?_⟩
      · rw [cpy_ne (by decide), cpy_ne (by decide), cpy_ne (by decide), cpy_ne (by decide), cpy_ne (by decide), upS_nj (by omega), upS_at, upS_ne (by decide)]
      · rw [cpy_ne (by decide), cpy_ne (by decide), cpy_ne (by decide), cpy_ne (by decide), cpy_at hi, upS_ne (by decide), upS_ne (by decide), upS_ne (by decide)]
      · rw [cpy_ne (by decide), cpy_ne (by decide), cpy_ne (by decide), cpy_at hi, cpy_ne (by decide), upS_ne (by decide), upS_ne (by decide), upS_ne (by decide)]
      · rw [cpy_ne (by decide), cpy_ne (by decide), cpy_at hi, cpy_ne (by decide), cpy_ne (by decide), upS_ne (by decide), upS_ne (by decide), upS_ne (by decide)]
      · rw [cpy_ne (by decide), cpy_at hi, cpy_ne (by decide), cpy_ne (by decide), cpy_ne (by decide), upS_ne (by decide), upS_ne (by decide), upS_ne (by decide)]
      · rw [cpy_at hi, cpy_ne (by decide), cpy_ne (by decide), cpy_ne (by decide), cpy_ne (by decide), upS_ne (by decide), upS_ne (by decide), upS_ne (by decide)]
      · rw [cpy_ne (by omega), cpy_ne (by omega), cpy_ne (by omega), cpy_ne (by omega), cpy_ne (by omega), upS_ne (by omega), upS_ne (by omega)]
    have ruc : RuC r' kd' ds' φ' (f_X9_copy_p34_p71 (upS τ3 67 0 0)) := by
      refine ⟨r8, y1.trans rc, fun q hq => ?_⟩
      obtain ⟨o1, -, ⟨o2, o3, o4, o5⟩, l, c, o6, -, ⟨o7, o8, o9⟩⟩ := rq q hq
      obtain ⟨z1, z2, z3, z4⟩ := y2 q (by omega)
      exact ⟨o1, ⟨z1.trans o2, z2.trans o3⟩, l, c, fc' q, o6, z3.trans o4, by rw [z4, o5, o7], by omega, fun i hi => by rw [y3 _ (by omega), h5.2.2.2.1.2 _ (by omega)]; exact o9 i hi⟩
    have yC : ∀ p, (p < 34 ∨ (39 < p ∧ p < 67) ∨ p = 68) → f_X9_copy_p34_p71 (upS τ3 67 0 0) p = σC p := fun p hp => by rw [y4 p (by omega), upS_ne (by omega), fC p (by omega)]
    refine ⟨_, _, _, rfl, by rw [y1, upS_ne (by decide), rm, rc], h.ruled ⟨A, WR kd' ds' φ' r', g.ok, WR_ok (fun q hq => (rq q hq).1.2), fun i a b c d => by rw [upS_ne (by decide), fM1 i b (by omega)]; exact g.m i a b c d, g.c.mono (fun p a b => yC p (by omega)), ?_, rum.w, ruc.w, ?_, ?_⟩ (fun p hp => by rw [upS_ne (by omega), fM p hp]) (fun i hi => by rw [upS_nj (by omega), fM0 i (by omega)]) (by rw [upS_at]; rfl) (fun p hp => yC p (by omega)) (by rw [y4 67 (by omega), upS_at]; rfl)⟩
    · rw [upS_ne (by decide), fM1 4 (by decide) (by omega)]
      exact g.d.mono (yC 41 (by omega)) (yC 42 (by omega)) (yC 43 (by omega))
    · rw [yC 24 (by omega), upS_ne (by decide), fM1 6 (by decide) (by omega)]
      exact g.z
    · rw [y1, upS_ne (by decide), rm, rc]
