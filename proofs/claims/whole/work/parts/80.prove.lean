/-! prove: both sides -/
theorem Rel.rowed {σM σC σM' σC' : Sg} (h : Rel σM σC) (q1 : ∀ i, i < 319 → σM' 1 i = σM 1 i) (q : ∀ p, p = 2 ∨ 9 ≤ p → σM' p = σM p) (q0 : ∀ i, i = 3 ∨ i = 21 ∨ i = 35 → σM' 0 i = σM 0 i) (k : sH σC σC')
    (k1 : ∀ p, (p = 1 ∨ (9 ≤ p ∧ p < 15) ∨ (20 ≤ p ∧ p < 24) ∨ (44 ≤ p ∧ p < 64) ∨ p = 68) → p ≠ 60 → σC' p = σC p) (k0 : σC' 0 14 = σC 0 14 ∧ σC' 0 16 = σC 0 16) (k7 : σC' 67 0 = σC 67 0) {n : Nat} (hn : n ≤ 4) (e1 : σM' 0 19 = nI n) (e2 : σC' 0 15 = nI n)
    (hrow : ∀ k, k < 4 → ∀ w, w < 3 → σC' (15 + k) w = σM' 8 (3 * k + w)) : Rel σM' σC' := by
  obtain ⟨hh, hk, hr⟩ := h
  refine ⟨hh.elim fun A g => g.elim fun W g => ⟨A, W, g.fr q1 k⟩, ⟨by rw [k0.1, q0 3 (by omega)]; exact hk.1, ?_⟩, ⟨n, hn, e1, e2⟩, hrow, by rw [q0 21 (by omega), k7]; exact hr.tn, by rw [k1 68 (by omega) (by omega), q 9 (by omega)]; exact hr.tape, fun j hj => by rw [k1 9 (by omega) (by omega), k1 10 (by omega) (by omega), k1 (20 + j) (by omega) (by omega), q 10 (by omega), q 11 (by omega), q 12 (by omega)]; exact hr.sheet j hj, (by rw [k1 11 (by omega) (by omega), k1 12 (by omega) (by omega), k1 13 (by omega) (by omega), q 13 (by omega), q 14 (by omega), q 15 (by omega)]; exact hr.shelf), (by rw [k0.2, k1 1 (by omega) (by omega), q0 35 (by omega), q 16 (by omega)]; exact hr.trn)⟩
  rw [q0 3 (by omega)]
  exact hk.2.elim Or.inl (fun ⟨A, W, g⟩ => Or.inr ⟨A, W, g.fr (fun i _ => by show σM' 2 i = σM 2 i; rw [q 2 (by omega)]) (fun p h1 h2 h3 => by
    rw [shf_in (by omega), shf_in (by omega), k1 (p + 20) (by omega) (by omega)])⟩)
theorem prove_l {W : WT} (hw : okW W) {A0 : Nat → Nat} {L : Nat} (hL : L ≤ 4) : ∀ (j k n1 n2 : Nat) (σM σC : Sg) (A : Nat → Nat) (sc : Int32), k + j = L → j < n1 → j < n2 → rM σM A → okA A → rulM σM W → rCs σC A → rCd σC 64 A sc → rulC σC W → A 0 = A0 0 → A 3 + j ≤ 16 → σM 0 19 = nI L → σC 78 4 = nI L →
    (∀ i, i < L → ∃ a, a ≤ A0 0 ∧ σM 7 i = nI a ∧ σC 81 i = nI a) → (∀ i, i < 4 → ∀ w, w < 3 → σC (15 + i) w = σM 8 (3 * i + w)) →
    ∃ σM' σC', f_X12_prove_l25 n1 (nI k) σM = some (nI L, σM') ∧ f_X11_prove_l34 n2 (nI k) σC = some (nI L, σC') ∧ (∀ i, i < 319 → σM' 1 i = σM 3 i) ∧ σC' 0 15 = nI L ∧ (∀ i, i < 4 → ∀ w, w < 3 → σC' (15 + i) w = σM' 8 (3 * i + w)) ∧ (∀ p, p ≠ 1 → p ≠ 4 → p ≠ 8 → σM' p = σM p) ∧
      (∀ p, p ≠ 0 → p ≠ 64 → p ≠ 65 → p ≠ 66 → p ≠ 40 → (p < 15 ∨ 19 ≤ p) → σC' p = σC p) ∧ ∀ i, i ≠ 15 → σC' 0 i = σC 0 i
  | j, k, 0, n2, σM, σC, A, sc, _, h, _, _, _, _, _, _, _, _, _, _, _, _, _ => absurd h (by omega)
  | j, k, n1 + 1, 0, σM, σC, A, sc, _, _, h, _, _, _, _, _, _, _, _, _, _, _, _ => absurd h (by omega)
  | j, k, n1 + 1, n2 + 1, σM, σC, A, sc, hj, hn1, hn2, hr, ok, hrW, hs, hd, hcW, e0, e3, r19, c4, ha, hrow => by
    have hm := ok.1.1
    show ∃ σM' σC', f_X12_prove_b25 (f_X12_prove_l25 n1) (nI k) σM = some (nI L, σM') ∧ f_X11_prove_b34 (f_X11_prove_l34 n2) (nI k) σC = some (nI L, σC') ∧ _
    unfold f_X12_prove_b25 f_X11_prove_b34
    rw [r19, c4]
    cases j with
    | zero =>
      obtain ⟨σ1, b1, b2, b3⟩ := m_back σM
      rw [if_pos (nI_le (by omega) (by omega)), if_pos (nI_le (by omega) (by omega)), b1, bnd_some, lt_ap, b3 0 (by decide), r19]
      refine ⟨σ1, _, rfl, by rw [upS_at], b2, upS_at, fun i hi w hw => by rw [upS_ne (by omega), b3 8 (by decide)]; exact hrow i hi w hw, fun p a b c => b3 p a, fun p a b c d e f => upS_ne a, fun i hi => upS_nj (by omega)⟩
    | succ j =>
      obtain ⟨a, a0, a1, a2⟩ := ha k (by omega)
      have h4 : ¬ (nI k < 0 ∨ 4 ≤ k) := hin4 (by omega)
      have m1 : rM (upS σM 8 (3 * k) (nI a)) A := fun i x y z t => by rw [upS_ne (by decide)]; exact hr i x y z t
      have w1 : rulM (upS σM 8 (3 * k) (nI a)) W := hrW.eq (fun i _ _ => by rw [upS_ne (by decide)])
      obtain ⟨σ2, g1, g2, g3, g4, -⟩ := m_goes m1 ok (by omega) hw w1 (act := a) (by omega)
      have s1 : rCs (upS σC (15 + k) 0 (nI a)) A := hs.mono (fun p x y => upS_ne (by omega))
      have d1 : rCd (upS σC (15 + k) 0 (nI a)) 64 A sc := hd.mono (upS_ne (by omega)) (upS_ne (by omega)) (upS_ne (by omega))
      have x1 : rulC (upS σC (15 + k) 0 (nI a)) W := hcW.mono (fun p x y => upS_ne (by omega))
      obtain ⟨σ3, c1, c2, c3, c5⟩ := c_goAct sky64 s1 d1 ok (by omega) hw x1 (act := a) (by omega)
      have m2 : rM (upS σ2 8 (3 * k + 1) (nI (goesA W A a).1)) (goesA W A a).2 := fun i x y z t => by rw [upS_ne (by decide)]; exact g2 i x y z t
      have m3 : rM (upS (upS σ2 8 (3 * k + 1) (nI (goesA W A a).1)) 8 (3 * k + 2) (nI (setN (goesA W A a).2 5))) (goesA W A a).2 := fun i x y z t => by rw [upS_ne (by decide)]; exact m2 i x y z t
      have pM : ∀ p, p ≠ 1 → p ≠ 4 → p ≠ 8 → upS (upS σ2 8 (3 * k + 1) (nI (goesA W A a).1)) 8 (3 * k + 2) (nI (setN (goesA W A a).2 5)) p = σM p := fun p x y z => by rw [upS_ne z, upS_ne z, g4.1 p x y, upS_ne z]
      have pC : ∀ p, p ≠ 64 → p ≠ 65 → p ≠ 66 → p ≠ 40 → p ≠ 15 + k → upS (upS σ3 (15 + k) 1 (nI (goesA W A a).1)) (15 + k) 2 (nI (setN (goesA W A a).2 5)) p = σC p := fun p x y z t u => by rw [upS_ne u, upS_ne u, c5 p x y z t, upS_ne u]
      obtain ⟨σ4, σ5, i1, i2, i3, i4, i5, i6, i7, i8⟩ := prove_l hw (A0 := A0) hL j (k + 1) n1 n2 (upS (upS σ2 8 (3 * k + 1) (nI (goesA W A a).1)) 8 (3 * k + 2) (nI (setN (goesA W A a).2 5))) (upS (upS σ3 (15 + k) 1 (nI (goesA W A a).1)) (15 + k) 2 (nI (setN (goesA W A a).2 5))) (goesA W A a).2 (sc + nI (goesA W A a).1) (by omega) (by omega) (by omega) m3 g3 ((w1.mono g4).eq (fun i _ _ => by rw [upS_ne (by decide), upS_ne (by decide)]))
        (c3.mono (fun p x y => by rw [upS_ne (by omega), upS_ne (by omega)])) (c2.mono (by rw [upS_ne (by omega), upS_ne (by omega)]) (by rw [upS_ne (by omega), upS_ne (by omega)]) (by rw [upS_ne (by omega), upS_ne (by omega)])) ((c5.r sky64 x1).mono (fun p x y => by rw [upS_ne (by omega), upS_ne (by omega)]))
        (by rw [goes_ne ok (by omega) (by omega)]; exact e0) (by rw [goes_3]; omega) (by rw [pM 0 (by decide) (by decide) (by decide)]; exact r19) (by rw [pC 78 (by omega) (by omega) (by omega) (by omega) (by omega)]; exact c4)
        (fun i hi => by rw [pM 7 (by decide) (by decide) (by decide), pC 81 (by omega) (by omega) (by omega) (by omega) (by omega)]; exact ha i hi) (fun i hi w hw9 => by
          by_cases e : i = k
          · subst e
            have e15 : σ3 (15 + i) = upS σC (15 + i) 0 (nI a) (15 + i) := c5 (15 + i) (by omega) (by omega) (by omega) (by omega)
            match w, hw9 with
            | 0, _ => rw [upS_nj (by omega), upS_nj (by omega), upS_nj (by omega), upS_nj (by omega), e15, upS_at, g4.1 8 (by decide) (by decide)]; exact upS_at.symm
            | 1, _ => rw [upS_nj (by omega), upS_at, upS_nj (by omega), upS_at]
            | 2, _ => rw [upS_at, upS_at]
            | w + 3, hw9 => exact absurd hw9 (by omega)
          · rw [pC (15 + i) (by omega) (by omega) (by omega) (by omega) (by omega), upS_nj (by omega), upS_nj (by omega), g4.1 8 (by decide) (by decide), upS_nj (by omega)]
            exact hrow i hi w hw9)
      refine ⟨σ4, σ5, ?_, ?_, fun i hi => by rw [i3 i hi, pM 3 (by decide) (by decide) (by decide)], i4, i5, fun p x y z => by rw [i6 p x y z, pM p x y z], fun p x y z t u v => by rw [i7 p x y z t u v, pC p y z t u (by omega)], fun i hi => by rw [i8 i hi, pC 0 (by decide) (by decide) (by decide) (by decide) (by omega)]⟩
      · simp only [lit]
        rw [if_neg (nI_ge (by omega) (by omega)), rd_nI (by omega) (by decide), bnd_some, a1, pk_mul, wr_nI (by omega) (by decide), bnd_some, rd_nI (by omega) (by decide), bnd_some, upS_ne (q := 7) (by decide), a1, g1, bd2_some, nI_add, wr_nI (by omega) (by decide), bnd_some, m_those m2 g3 (Or.inr rfl), bnd_some, nI_add, wr_nI (by omega) (by decide), bnd_some, nI_add]
        exact i1
      · have nc : (nI k).toNatClampNeg = k := nI_clamp (by omega)
        rw [if_neg (nI_ge (by omega) (by omega)), nc, if_neg h4, rd_nI (by omega) (by decide), bnd_some, a2, lt_ap, if_neg h4, rd_nI (by omega) (by decide), bnd_some, upS_ne (q := 81) (by omega), a2, c1, bd2_some, lt_ap, if_neg h4, lt_ap, upS_ne (q := 64) (by omega), c2.2.2.2.1, nI_1]
        exact i2
theorem eq_prove {σM σC : Sg} (h : Rel σM σC) (x : Int32) : ∃ r σM' σC', f_X12_prove x σM = some (r, σM') ∧ f_X11_prove x σC = some (r, σC') ∧ Rel σM' σC' := by
  obtain ⟨⟨A, W, g⟩, hk', hr⟩ := id h
  unfold f_X12_prove f_X11_prove
  rw [long_x, plan_x]
  by_cases q : rng x (nI 0) (nI 4) = true
  · obtain ⟨N, -, hN, rfl⟩ := (rng_nI (by decide) (by decide)).mp q
    obtain ⟨σ1, σ2, r, s1, s2, s3, s4, s5, s6, s7⟩ := eq_search g hN (u := 0) (v := 0) (by omega) (by omega)
    have s1' : f_X12_plansOf (nI N) 0 σM = some (r, σ1) := s1
    have s3' : f_X6_search (nI N) 0 σC = some σ2 := s3
    obtain ⟨w, -, t1, t2, t3, L, l1, l2, l3, l4, l5⟩ := s4.top s5
    have g2 := g.fr s6.1 s7.1
    obtain ⟨p1, p2, p3, p4⟩ := c_trial g2.c g2.d g2.rc
    obtain ⟨σ3, u1, u2, u3⟩ := m_puts (upS σ1 0 19 (nI L))
    have e1 : ∀ p, p ≠ 3 → p ≠ 0 → σ3 p = σ1 p := fun p a b => by rw [u3 p a, upS_ne b]
    have e0 : ∀ i, i ≠ 19 → σ3 0 i = σ1 0 i := fun i a => by rw [u3 0 (by decide), upS_nj (by omega)]
    obtain ⟨σ4, σ5, i1, i2, i3, i4, i5, i6, i7, i8⟩ := prove_l g.okw (A0 := A) l1 L 0 400 400 σ3 (f_X10_copy 64 41 σ2) A (σ1 1 4) (by omega) (by omega) (by omega) (fun i a b c d => by rw [e1 1 (by decide) (by decide)]; exact g2.m i a b c d) g.ok (g2.rm.eq (fun i _ _ => by rw [e1 1 (by decide) (by decide)])) p1 p2 p3 rfl l2 (by rw [u3 0 (by decide), upS_at]) (by rw [p4 78 (by decide) (by decide) (by decide) (by decide)]; exact l4)
      (fun i hi => by rw [e1 7 (by decide) (by decide), p4 81 (by decide) (by decide) (by decide) (by decide)]; exact l5 i hi) (fun i hi w hw => by rw [p4 (15 + i) (by omega) (by omega) (by omega) (by omega), e1 8 (by decide) (by decide), s7.2.1 (15 + i) (by omega) (by omega), s6.2.1 8 (by omega)]; exact hr.rows i hi w hw)
    have i1' : f_X12_prove_l25 400 0 σ3 = some (nI L, σ4) := i1
    have i2' : f_X11_prove_l34 400 0 (f_X10_copy 64 41 σ2) = some (nI L, σ5) := i2
    rw [if_pos q, if_pos q, s1', bd2_some, s3', bnd_some, lt_ap, lt_ap, s2, l3, u1, bnd_some, i1', i2']
    refine ⟨_, σ4, σ5, rfl, rfl, h.rowed (n := L) (fun i hi => ?_) (fun p hp => ?_) (fun i hi => ?_) (fun p a b c => ?_) (fun p a b => ?_) ⟨?_, ?_⟩ ?_ l1 ?_ i4 i5⟩
    · rw [i3 i hi, u2 i hi, upS_ne (by decide), s6.1 i hi]
    · rw [i6 p (by omega) (by omega) (by omega), e1 p (by omega) (by omega), s6.2.1 p (by omega)]
    · rw [i6 0 (by decide) (by decide) (by decide), e0 i (by omega), s6.2.2 i (by omega)]
    · rw [i7 p (by omega) (by omega) (by omega) (by omega) c (by omega), p4 p (by omega) (by omega) (by omega) c, s7.1 p a b c]
    · rw [i7 p (by omega) (by omega) (by omega) (by omega) (by omega) (by omega), p4 p (by omega) (by omega) (by omega) (by omega), s7.2.1 p (by omega) b]
    · rw [i8 14 (by decide), p4 0 (by decide) (by decide) (by decide) (by decide), s7.2.1 0 (by omega) (by omega)]
    · rw [i8 16 (by decide), p4 0 (by decide) (by decide) (by decide) (by decide), s7.2.1 0 (by omega) (by omega)]
    · rw [i7 67 (by decide) (by decide) (by decide) (by decide) (by decide) (by omega), p4 67 (by decide) (by decide) (by decide) (by decide), s7.2.2]
    · rw [i6 0 (by decide) (by decide) (by decide), u3 0 (by decide), upS_at]
  · rw [if_neg q, if_neg q]
    exact ⟨_, σM, σC, rfl, rfl, h⟩
