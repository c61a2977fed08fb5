theorem c_ccopy2 (σ : Sg) : cty (shf σ) (f_X1_copy_p24_p44 σ) ∧ ∀ p, p < 24 ∨ 44 ≤ p → f_X1_copy_p24_p44 σ p = σ p := by
  have key : ∀ τ, τ = f_X1_copy_p24_p44 σ → cty (shf σ) τ ∧ ∀ p, p < 24 ∨ 44 ≤ p → τ p = σ p := by
    intro τ hτ
    unfold f_X1_copy_p24_p44 at hτ
    simp only [lt_ap] at hτ
    generalize hu : cpy (cpy (cpy (cpy (cpy (cpy (cpy (cpy (cpy (upS (upS (upS (upS σ 24 1 (σ 44 1)) 24 2 (upS σ 24 1 (σ 44 1) 44 2)) 24 3 (upS (upS σ 24 1 (σ 44 1)) 24 2 (upS σ 24 1 (σ 44 1) 44 2) 44 3)) 24 4 (upS (upS (upS σ 24 1 (σ 44 1)) 24 2 (upS σ 24 1 (σ 44 1) 44 2)) 24 3 (upS (upS σ 24 1 (σ 44 1)) 24 2 (upS σ 24 1 (σ 44 1) 44 2) 44 3) 44 4)) 45 25 6) 46 26 6) 47 27 16) 48 28 6) 49 29 6) 50 30 6) 51 31 6) 52 32 6) 53 33 6 = u at hτ
    have hu4 : ∀ p, p < 24 ∨ 33 < p → u p = σ p := fun p hp => by
      rw [← hu, cpy_ne (by omega), cpy_ne (by omega), cpy_ne (by omega), cpy_ne (by omega), cpy_ne (by omega), cpy_ne (by omega), cpy_ne (by omega), cpy_ne (by omega), cpy_ne (by omega), upS_ne (by omega), upS_ne (by omega), upS_ne (by omega), upS_ne (by omega)]
    have hu0 : u 24 1 = σ 44 1 ∧ u 24 2 = σ 44 2 ∧ u 24 3 = σ 44 3 ∧ u 24 4 = σ 44 4 := by
      have e : ∀ i, u 24 i = (upS (upS (upS (upS σ 24 1 (σ 44 1)) 24 2 (upS σ 24 1 (σ 44 1) 44 2)) 24 3 (upS (upS σ 24 1 (σ 44 1)) 24 2 (upS σ 24 1 (σ 44 1) 44 2) 44 3)) 24 4 (upS (upS (upS σ 24 1 (σ 44 1)) 24 2 (upS σ 24 1 (σ 44 1) 44 2)) 24 3 (upS (upS σ 24 1 (σ 44 1)) 24 2 (upS σ 24 1 (σ 44 1) 44 2) 44 3) 44 4)) 24 i := fun i => by
        rw [← hu, cpy_ne (by omega), cpy_ne (by omega), cpy_ne (by omega), cpy_ne (by omega), cpy_ne (by omega), cpy_ne (by omega), cpy_ne (by omega), cpy_ne (by omega), cpy_ne (by omega)]
      refine ⟨?_, ?_, ?_, ?_⟩ <;> rw [e] <;> simp [upS_ap]
    have hu1 : ∀ j, j < 9 → j ≠ 2 → ∀ i, i < 6 → u (25 + j) i = σ (45 + j) i := fun j hj hj2 i hi => by
      rw [← hu]
      simp only [cpy_ap, upS_ap]
      match j, hj with
      | 0, _ | 1, _ | 3, _ | 4, _ | 5, _ | 6, _ | 7, _ | 8, _ => simp [hi]
      | 2, _ => exact absurd rfl hj2
      | j + 9, q => exact absurd q (by omega)
    have hu2 : ∀ i, i < 16 → u 27 i = σ 47 i := fun i hi => by
      rw [← hu]
      simp only [cpy_ap, upS_ap]
      simp [hi]
    clear hu
    obtain ⟨r1, r2, r3, r4⟩ := c_rcopy2 u
    obtain ⟨t1, t2, t3⟩ := c_scopy (n := 41) (m := 61) (by omega) (f_X9_copy_p34_p54 u)
    have lo : ∀ p, p < 34 → τ p = u p := fun p hp => by rw [hτ, t3 p (by omega) (by omega) (by omega), r4 p (by omega)]
    have hi : ∀ p, 34 ≤ p → p < 40 → τ p = f_X9_copy_p34_p54 u p := fun p h1 h2 => by rw [hτ, t3 p (by omega) (by omega) (by omega)]
    refine ⟨⟨?_, fun i h => ?_, fun i h => ?_, ⟨?_, fun i h => ?_, fun i h => ?_⟩, ?_, fun i h => ?_⟩, fun p hp => ?_⟩
    · rw [shf_in (by decide), lo 24 (by decide)]; exact hu0
    · rw [shf_in (by decide), shf_in (by decide), shf_in (by decide), shf_in (by decide), shf_in (by decide), shf_in (by decide), shf_in (by decide), shf_in (by decide), lo 25 (by decide), lo 26 (by decide), lo 28 (by decide), lo 29 (by decide), lo 30 (by decide), lo 31 (by decide), lo 32 (by decide), lo 33 (by decide)]
      exact ⟨hu1 0 (by decide) (by decide) i h, hu1 1 (by decide) (by decide) i h, hu1 3 (by decide) (by decide) i h, hu1 4 (by decide) (by decide) i h, hu1 5 (by decide) (by decide) i h, hu1 6 (by decide) (by decide) i h, hu1 7 (by decide) (by decide) i h, hu1 8 (by decide) (by decide) i h⟩
    · rw [shf_in (by decide), lo 27 (by decide)]; exact hu2 i h
    · rw [shf_in (by decide), hi 34 (by decide) (by decide), r1, hu4 54 (by decide)]
    · rw [shf_in (by decide), shf_in (by decide), shf_in (by decide), shf_in (by decide), hi 35 (by decide) (by decide), hi 36 (by decide) (by decide), hi 37 (by decide) (by decide), hi 38 (by decide) (by decide), ← hu4 (35 + 20) (by decide), ← hu4 (36 + 20) (by decide), ← hu4 (37 + 20) (by decide), ← hu4 (38 + 20) (by decide)]
      exact r2 i h
    · rw [shf_in (by decide), hi 39 (by decide) (by decide), r3 i h, hu4 59 (by decide)]
    · rw [shf_in (by decide), hτ, t1 0 (by decide), t1 1 (by decide), t1 2 (by decide), t1 3 (by decide), r4 61 (by decide), hu4 61 (by decide)]
      exact ⟨rfl, rfl, rfl, rfl⟩
    · rw [shf_in (by decide), shf_in (by decide), hτ]
      refine ⟨((t2 i h).1).trans ?_, ((t2 i h).2).trans ?_⟩
      · rw [r4 (61 + 1) (by decide), hu4 (61 + 1) (by decide)]
      · rw [r4 (61 + 2) (by decide), hu4 (61 + 2) (by decide)]
    · rw [hτ, t3 p (by omega) (by omega) (by omega), r4 p (by omega), hu4 p (by omega)]
  exact key _ rfl
theorem Rest.kp {σM σC σM' σC' : Sg} (h : Rest σM σC) (q : ∀ p, 8 ≤ p → σM' p = σM p) (q0 : ∀ i, i = 19 ∨ i = 21 ∨ i = 35 → σM' 0 i = σM 0 i) (k : ∀ p, p = 1 ∨ (9 ≤ p ∧ p < 24) ∨ p = 68 → σC' p = σC p) (k0 : σC' 0 15 = σC 0 15 ∧ σC' 0 16 = σC 0 16) (k7 : σC' 67 0 = σC 67 0) : Rest σM' σC' :=
  ⟨(by rw [k0.1, q0 19 (by omega)]; exact h.rn), (fun j hj w hw => by rw [k (15 + j) (by omega), q 8 (by omega)]; exact h.rows j hj w hw), (by rw [k7, q0 21 (by omega)]; exact h.tn), (by rw [k 68 (by omega), q 9 (by omega)]; exact h.tape),
    (fun j hj => by rw [k 9 (by omega), k 10 (by omega), k (20 + j) (by omega), q 10 (by omega), q 11 (by omega), q 12 (by omega)]; exact h.sheet j hj), (by rw [k 11 (by omega), k 12 (by omega), k 13 (by omega), q 13 (by omega), q 14 (by omega), q 15 (by omega)]; exact h.shelf),
    (by rw [k0.2, k 1 (by omega), q0 35 (by omega), q 16 (by omega)]; exact h.trn)⟩
theorem m_keep_l : ∀ (d k n : Nat) (σ : Sg), k + d = 319 → d < n → ∃ σ', f_X12_keep_l2 n (nI k) σ = some (1, σ') ∧ (∀ i, k ≤ i → i < 319 → σ' 2 i = σ 1 i) ∧ (∀ i, i < k → σ' 2 i = σ 2 i) ∧ (∀ p, p ≠ 2 → p ≠ 0 → σ' p = σ p) ∧ (∀ i, i ≠ 3 → σ' 0 i = σ 0 i) ∧ σ' 0 3 = 1
  | d, k, 0, σ, _, h => absurd h (by omega)
  | d, k, n + 1, σ, hd, hn => by
    show ∃ σ', f_X12_keep_b2 (f_X12_keep_l2 n) (nI k) σ = some (1, σ') ∧ _
    unfold f_X12_keep_b2
    cases d with
    | zero =>
      rw [if_pos (show (319 : Int32) ≤ nI k from nI_le (a := 319) (by omega) (by omega)), lt_ap]
      exact ⟨_, rfl, fun i a b => absurd b (by omega), fun i a => by rw [upS_ne (by decide)], fun p h2 h0 => upS_ne h0, fun i hi => upS_nj (by omega), upS_at⟩
    | succ d =>
      rw [if_neg (show ¬ (319 : Int32) ≤ nI k from nI_ge (b := 319) (by omega) (by omega)), rd_nI (by omega) (by decide), bnd_some, wr_nI (by omega) (by decide), bnd_some, nI_1]
      obtain ⟨σ', p1, p2, p3, p4, p5, p6⟩ := m_keep_l d (k + 1) n (upS σ 2 k (σ 1 k)) (by omega) (by omega)
      refine ⟨σ', p1, fun i a b => ?_, fun i a => ?_, fun p h2 h0 => by rw [p4 p h2 h0, upS_ne h2], fun i hi => by rw [p5 i hi, upS_ne (by decide)], p6⟩
      · by_cases e : i = k
        · subst e
          rw [p3 i (by omega), upS_at]
        · rw [p2 i (by omega) b, upS_ne (by decide)]
      · rw [p3 i (by omega), upS_nj (by omega)]
theorem eq_keep {σM σC : Sg} (h : Rel σM σC) : ∃ r σM' σC', f_X12_keep σM = some (r, σM') ∧ f_X11_keep σC = (r, σC') ∧ Rel σM' σC' := by
  obtain ⟨⟨A, W, g⟩, hk, hr⟩ := id h
  obtain ⟨σ1, p1, p2, -, p4, p5, p6⟩ := m_keep_l 319 0 400 σM (by omega) (by omega)
  obtain ⟨c1, c2⟩ := c_ccopy1 σC
  have p1' : f_X12_keep σM = some (1, σ1) := p1
  refine ⟨1, σ1, upS (f_X1_copy_p44_p24 σC) 0 14 1, p1', rfl, ⟨A, W, ?_⟩, ⟨?_, Or.inr ⟨A, W, ?_⟩⟩, ?_⟩
  · exact g.fr (fun i _ => by rw [p4 1 (by decide) (by decide)]) (fun p a b c => by rw [upS_ne (by omega), c2 p (by omega)])
  · rw [upS_at, p6]
  · have e : shf (upS (f_X1_copy_p44_p24 σC) 0 14 1) = upS (shf (f_X1_copy_p44_p24 σC)) 0 14 1 := by
      funext p
      by_cases q : 24 ≤ p ∧ p < 44
      · rw [shf_in q, upS_ne (by omega), upS_ne (by omega), shf_in q]
      · by_cases q0 : p = 0
        · subst q0
          rw [shf_out (by decide)]
          funext i
          rw [upS_ap, upS_ap, shf_out (by decide)]
        · rw [shf_out q, upS_ne q0, upS_ne q0, shf_out q]
    rw [e]
    have h2 : Hold (shM σ1) (shf (f_X1_copy_p44_p24 σC)) A W := g.cty (fun i hi => p2 i (by omega) hi) c1
    exact h2.fr (fun _ _ => rfl) (fun p a b c => upS_ne (by omega))
  · refine hr.kp (fun p hp => p4 p (by omega) (by omega)) (fun i hi => p5 i (by omega)) (fun p hp => by rw [upS_ne (by omega), c2 p (by omega)]) ⟨?_, ?_⟩ ?_
    · rw [upS_nj (by decide), c2 0 (by decide)]
    · rw [upS_nj (by decide), c2 0 (by decide)]
    · rw [upS_ne (by decide), c2 67 (by decide)]
theorem m_again_l : ∀ (d k n : Nat) (σ : Sg), k + d = 319 → d < n → ∃ σ', f_X12_again_l12 n (nI k) σ = some (σ' 1 0, σ') ∧ (∀ i, k ≤ i → i < 319 → σ' 1 i = σ 2 i) ∧ (∀ i, i < k → σ' 1 i = σ 1 i) ∧ (∀ p, p ≠ 1 → σ' p = σ p)
  | d, k, 0, σ, _, h => absurd h (by omega)
  | d, k, n + 1, σ, hd, hn => by
    show ∃ σ', f_X12_again_b12 (f_X12_again_l12 n) (nI k) σ = some (σ' 1 0, σ') ∧ _
    unfold f_X12_again_b12
    cases d with
    | zero =>
      rw [if_pos (show (319 : Int32) ≤ nI k from nI_le (a := 319) (by omega) (by omega))]
      exact ⟨_, rfl, fun i a b => absurd b (by omega), fun i a => rfl, fun p h2 => rfl⟩
    | succ d =>
      rw [if_neg (show ¬ (319 : Int32) ≤ nI k from nI_ge (b := 319) (by omega) (by omega)), rd_nI (by omega) (by decide), bnd_some, wr_nI (by omega) (by decide), bnd_some, nI_1]
      obtain ⟨σ', p1, p2, p3, p4⟩ := m_again_l d (k + 1) n (upS σ 1 k (σ 2 k)) (by omega) (by omega)
      refine ⟨σ', p1, fun i a b => ?_, fun i a => ?_, fun p h2 => by rw [p4 p h2, upS_ne h2]⟩
      · by_cases e : i = k
        · subst e
          rw [p3 i (by omega), upS_at]
        · rw [p2 i (by omega) b, upS_ne (by decide)]
      · rw [p3 i (by omega), upS_nj (by omega)]
theorem eq_again {σM σC : Sg} (h : Rel σM σC) : ∃ r σM' σC', f_X12_again σM = some (r, σM') ∧ f_X11_again σC = (r, σC') ∧ Rel σM' σC' := by
  obtain ⟨hh, hk, hr⟩ := id h
  unfold f_X12_again f_X11_again
  rw [hk.1]
  by_cases q : σM 0 3 = 0
  · rw [if_neg (fun z => z q), if_neg (fun z => z q)]
    exact ⟨_, σM, σC, rfl, rfl, h⟩
  · rw [if_pos q, if_pos q, lt_ap]
    obtain ⟨A, W, g⟩ := hk.2.resolve_left q
    obtain ⟨σ1, p1, p2, -, p4⟩ := m_again_l 319 0 400 σM (by omega) (by omega)
    obtain ⟨c1, c2⟩ := c_ccopy2 σC
    have p1' : f_X12_again_l12 400 0 σM = some (σ1 1 0, σ1) := p1
    have g' : Hold σ1 (f_X1_copy_p24_p44 σC) A W := g.cty (fun i hi => p2 i (by omega) hi) c1
    have oM1 : oM σM σ1 := ⟨fun p hp => p4 p (by omega), fun i _ => by rw [p4 0 (by decide)]⟩
    have oC1 : oC σC (f_X1_copy_p24_p44 σC) := oC.of (fun p hp => c2 p (by omega))
    rw [p1', g'.m 0 (by decide) (by decide) (by decide) (by decide), g'.c.1]
    exact ⟨_, _, _, rfl, rfl, ⟨A, W, g'⟩, hk.go oM1 oC1, hr.go oM1 oC1⟩
