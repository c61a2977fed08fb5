/-! the class's gusts over the same numbers -/
theorem nI_in0 {c N : Nat} (h : c < N) (hN : N < 2 ^ 31) : ¬ (nI c < nI 0 ∨ N ≤ (nI c).toNatClampNeg) := nI_in h hN
theorem chosen_t {A : Nat → Nat} {d k : Nat} (ha : A (35 + 6 * k + 4) = 1) (hc : farA A k ≤ A (23 + 2 * A (35 + 6 * k + 3) + 1)) : chosenN A (d + 1) k = k + 1 := if_pos ⟨ha, hc⟩
theorem chosen_f {A : Nat → Nat} {d k : Nat} (h : ¬ (A (35 + 6 * k + 4) = 1 ∧ farA A k ≤ A (23 + 2 * A (35 + 6 * k + 3) + 1))) : chosenN A (d + 1) k = chosenN A d (k + 1) := if_neg h
def setN (A : Nat → Nat) (w : Nat) : Nat := A (35 + 6 * 0 + w) + A (35 + 6 * 1 + w) * 2 + A (35 + 6 * 2 + w) * 4 + A (35 + 6 * 3 + w) * 8 + A (35 + 6 * 4 + w) * 16 + A (35 + 6 * 5 + w) * 32
theorem set_lt {A : Nat → Nat} {w : Nat} (h : ∀ k, k < 6 → A (35 + 6 * k + w) ≤ 1) : setN A w < 64 := by
  have h0 := h 0 (by decide)
  have h1 := h 1 (by decide)
  have h2 := h 2 (by decide)
  have h3 := h 3 (by decide)
  have h4 := h 4 (by decide)
  have h5 := h 5 (by decide)
  unfold setN
  omega
theorem set_bit {A : Nat → Nat} {w : Nat} (h : ∀ k, k < 6 → A (35 + 6 * k + w) ≤ 1) {k : Nat} (hk : k < 6) : setN A w / 2 ^ k % 2 = A (35 + 6 * k + w) := by
  have h0 := h 0 (by decide)
  have h1 := h 1 (by decide)
  have h2 := h 2 (by decide)
  have h3 := h 3 (by decide)
  have h4 := h 4 (by decide)
  have h5 := h 5 (by decide)
  unfold setN
  match k, hk with
  | 0, _ => show _ / 1 % 2 = _; omega
  | 1, _ => show _ / 2 % 2 = _; omega
  | 2, _ => show _ / 4 % 2 = _; omega
  | 3, _ => show _ / 8 % 2 = _; omega
  | 4, _ => show _ / 16 % 2 = _; omega
  | 5, _ => show _ / 32 % 2 = _; omega
  | k + 6, q => exact absurd q (by omega)
theorem set_ne {A : Nat → Nat} {w i v : Nat} (h : ∀ k, k < 6 → 35 + 6 * k + w ≠ i) : setN (up1 A i v) w = setN A w := by
  unfold setN
  rw [up1_ne (h 0 (by decide)), up1_ne (h 1 (by decide)), up1_ne (h 2 (by decide)), up1_ne (h 3 (by decide)), up1_ne (h 4 (by decide)), up1_ne (h 5 (by decide))]
theorem set_up {A : Nat → Nat} {w v : Nat} (h : ∀ k, k < 6 → A (35 + 6 * k + w) ≤ 1) {k : Nat} (hk : k < 6) : bitN (setN A w) k v = setN (up1 A (35 + 6 * k + w) v) w := by
  unfold bitN
  rw [set_bit h hk]
  have h0 := h 0 (by decide)
  have h1 := h 1 (by decide)
  have h2 := h 2 (by decide)
  have h3 := h 3 (by decide)
  have h4 := h 4 (by decide)
  have h5 := h 5 (by decide)
  unfold setN
  match k, hk with
  | 0, _ => rw [up1_at, up1_ne (by omega), up1_ne (by omega), up1_ne (by omega), up1_ne (by omega), up1_ne (by omega)]; show _ - _ * 1 + v * 1 = _; omega
  | 1, _ => rw [up1_ne (by omega), up1_at, up1_ne (by omega), up1_ne (by omega), up1_ne (by omega), up1_ne (by omega)]; show _ - _ * 2 + v * 2 = _; omega
  | 2, _ => rw [up1_ne (by omega), up1_ne (by omega), up1_at, up1_ne (by omega), up1_ne (by omega), up1_ne (by omega)]; show _ - _ * 4 + v * 4 = _; omega
  | 3, _ => rw [up1_ne (by omega), up1_ne (by omega), up1_ne (by omega), up1_at, up1_ne (by omega), up1_ne (by omega)]; show _ - _ * 8 + v * 8 = _; omega
  | 4, _ => rw [up1_ne (by omega), up1_ne (by omega), up1_ne (by omega), up1_ne (by omega), up1_at, up1_ne (by omega)]; show _ - _ * 16 + v * 16 = _; omega
  | 5, _ => rw [up1_ne (by omega), up1_ne (by omega), up1_ne (by omega), up1_ne (by omega), up1_ne (by omega), up1_at]; show _ - _ * 32 + v * 32 = _; omega
  | k + 6, q => exact absurd q (by omega)
theorem ok_al {A : Nat → Nat} (ok : okA A) : ∀ k, k < 6 → A (35 + 6 * k + 4) ≤ 1 := fun k hk => (ok.2.2.2.1 k hk).2.2.2.2.1
theorem ok_sv {A : Nat → Nat} (ok : okA A) : ∀ k, k < 6 → A (35 + 6 * k + 5) ≤ 1 := fun k hk => (ok.2.2.2.1 k hk).2.2.2.2.2
/-- the county at place 24 -/
def rCs (σ : Sg) (A : Nat → Nat) : Prop := σ 24 1 = nI (A 0) ∧ σ 24 2 = nI (A 2) ∧ σ 24 4 = nI (A 5) ∧ (∀ k, k < 6 → σ 25 k = nI (A (35 + 6 * k + 0)) ∧ σ 26 k = nI (A (35 + 6 * k + 3))) ∧ (∀ g, g < 16 → σ 27 g = nI (A (7 + g))) ∧
  (∀ f, f < 6 → σ 28 f = nI (A (23 + 2 * f)) ∧ σ 29 f = nI (A (23 + 2 * f + 1))) ∧ (∀ r, r < 6 → σ 30 r = nI (A (71 + 4 * r)) ∧ σ 31 r = nI (A (71 + 4 * r + 1)) ∧ σ 32 r = nI (A (71 + 4 * r + 2)) ∧ σ 33 r = nI (A (71 + 4 * r + 3)))
theorem rCs.mono {σ σ' : Sg} {A : Nat → Nat} (h : rCs σ A) (e : ∀ p, 24 ≤ p → p ≤ 33 → σ' p = σ p) : rCs σ' A := by
  unfold rCs
  rw [e 24 (by decide) (by decide), e 25 (by decide) (by decide), e 26 (by decide) (by decide), e 27 (by decide) (by decide), e 28 (by decide) (by decide), e 29 (by decide) (by decide), e 30 (by decide) (by decide), e 31 (by decide) (by decide), e 32 (by decide) (by decide), e 33 (by decide) (by decide)]
  exact h
theorem rCs.A {σ : Sg} {A B : Nat → Nat} (h : rCs σ A) (e : ∀ j, (j < 35 ∧ j ≠ 3) ∨ 71 ≤ j ∨ (35 ≤ j ∧ ((j - 35) % 6 = 0 ∨ (j - 35) % 6 = 3)) → B j = A j) : rCs σ B := by
  obtain ⟨h1, h2, h3, h4, h5, h6, h7⟩ := h
  refine ⟨by rw [e 0 (by omega)]; exact h1, by rw [e 2 (by omega)]; exact h2, by rw [e 5 (by omega)]; exact h3, fun k hk => ?_, fun g hg => by rw [e _ (by omega)]; exact h5 g hg, fun f hf => by rw [e _ (by omega), e _ (by omega)]; exact h6 f hf, fun r hr => by rw [e _ (by omega), e _ (by omega), e _ (by omega), e _ (by omega)]; exact h7 r hr⟩
  rw [e _ (by omega), e _ (by omega)]
  exact h4 k hk
/-- the sky at place n -/
def rCd (σ : Sg) (n : Nat) (A : Nat → Nat) (sc : Int32) : Prop := σ n 0 = nI (A 3) ∧ σ n 1 = sc ∧ σ n 2 = nI (setN A 4) ∧ σ n 3 = nI (setN A 5) ∧ ∀ k, k < 6 → σ (n + 1) k = nI (A (35 + 6 * k + 1)) ∧ σ (n + 2) k = nI (A (35 + 6 * k + 2))
theorem rCd.mono {σ σ' : Sg} {n : Nat} {A : Nat → Nat} {sc : Int32} (h : rCd σ n A sc) (e0 : σ' n = σ n) (e1 : σ' (n + 1) = σ (n + 1)) (e2 : σ' (n + 2) = σ (n + 2)) : rCd σ' n A sc := by
  unfold rCd
  rw [e0, e1, e2]
  exact h
theorem sky_b {n : Nat} (h : isSky n) : 41 ≤ n ∧ n ≤ 94 := by unfold isSky at h; omega
theorem c_aloft {σ : Sg} {n : Nat} {A : Nat → Nat} {sc : Int32} (h : rCd σ n A sc) (ok : okA A) {k : Nat} (hk : k < 6) (σ' : Sg) : f_X11_isIn (σ n 2) (nI k) σ' = decide (A (35 + 6 * k + 4) = 1) := by
  rw [h.2.2.1, c_isIn (set_lt (ok_al ok)) hk, set_bit (ok_al ok) hk]
theorem c_served {σ : Sg} {n : Nat} {A : Nat → Nat} {sc : Int32} (h : rCd σ n A sc) (ok : okA A) {k : Nat} (hk : k < 6) (σ' : Sg) : f_X11_isIn (σ n 3) (nI k) σ' = decide (A (35 + 6 * k + 5) = 1) := by
  rw [h.2.2.2.1, c_isIn (set_lt (ok_sv ok)) hk, set_bit (ok_sv ok) hk]
theorem c_farOf {σ : Sg} {n : Nat} {A : Nat → Nat} {sc : Int32} (hs : rCs σ A) (hd : rCd σ n A sc) (ok : okA A) {k : Nat} (hk : k < 6) : f_X1_farFromFarm n (nI k) σ = some (nI (farA A k)) := by
  obtain ⟨-, -, hf, hkk, -⟩ := ok
  obtain ⟨-, h1, -, h3, -⟩ := hkk k hk
  have h4 := (hf _ (show A (35 + 6 * k + 3) < 6 by omega)).1
  unfold f_X1_farFromFarm
  rw [rd_nI hk (by decide), bnd_some, (hd.2.2.2.2 k hk).1, rd_nI hk (by decide), bnd_some, (hs.2.2.2.1 k hk).2, rd_nI (by omega) (by decide), bnd_some, (hs.2.2.2.2.2.1 _ (by omega)).1, c_far (by omega) (by omega)]
  rfl
theorem c_windOf {σ : Sg} {A : Nat → Nat} (hs : rCs σ A) {g : Nat} (hg : g < 16) : f_X1_windOf (nI g) σ = some (nI (A (7 + g))) := by
  unfold f_X1_windOf
  rw [c_in, show (0 : Int32) = nI 0 from rfl, show (15 : Int32) = nI 15 from rfl, if_pos ((rng_nI (by decide) (by decide)).mpr ⟨g, by omega, by omega, rfl⟩), rd_nI hg (by decide), bnd_some, hs.2.2.2.2.1 g hg]
/-- only the two rows of the sky at n have changed -/
def dC (n : Nat) (σ σ' : Sg) : Prop := ∀ p, p ≠ n + 1 → p ≠ n + 2 → σ' p = σ p
theorem dC.tr {n : Nat} {a b c : Sg} (h : dC n a b) (g : dC n b c) : dC n a c := fun p h1 h2 => (g p h1 h2).trans (h p h1 h2)
theorem rCd.step {σ : Sg} {n : Nat} {B : Nat → Nat} {sc : Int32} (h : rCd σ n B sc) {k : Nat} (hk : k < 6) (x y : Nat) : rCd (upS (upS σ (n + 1) k (nI x)) (n + 2) k (nI y)) n (up1 (up1 B (35 + 6 * k + 1) x) (35 + 6 * k + 2) y) sc := by
  obtain ⟨h0, h1, h2, h3, h4⟩ := h
  refine ⟨?_, ?_, ?_, ?_, fun j hj => ⟨?_, ?_⟩⟩
  · rw [upS_ne (by omega), upS_ne (by omega), up1_ne (by omega), up1_ne (by omega)]; exact h0
  · rw [upS_ne (by omega), upS_ne (by omega)]; exact h1
  · rw [upS_ne (by omega), upS_ne (by omega), set_ne (fun j hj => by omega), set_ne (fun j hj => by omega)]; exact h2
  · rw [upS_ne (by omega), upS_ne (by omega), set_ne (fun j hj => by omega), set_ne (fun j hj => by omega)]; exact h3
  · rw [upS_ne (by omega), up1_ne (by omega), upS_ap]
    by_cases e : j = k
    · subst e; rw [if_pos ⟨rfl, rfl⟩, up1_at]
    · rw [if_neg (fun z => e z.2), up1_ne (by omega)]; exact (h4 j hj).1
  · rw [upS_ap]
    by_cases e : j = k
    · subst e; rw [if_pos ⟨rfl, rfl⟩, up1_at]
    · rw [if_neg (fun z => e z.2), up1_ne (by omega), up1_ne (by omega), upS_ne (by omega)]; exact (h4 j hj).2
theorem c_drift_l {n : Nat} (hn : isSky n) {A : Nat → Nat} {sc : Int32} (ok : okA A) (hg : A 3 < 16) : ∀ (d k fu : Nat) (σ : Sg), k + d = A 0 → d < fu → rCs σ A → rCd σ n (blowsN k A) sc → ∃ σ', f_X1_drift_l25 n (nI (windA A / 4)) (nI (windA A % 4)) fu (nI k) σ = some σ' ∧ rCd σ' n (gustA A) sc ∧ dC n σ σ'
  | d, k, 0, σ, _, h, _, _ => absurd h (by omega)
  | d, k, fu + 1, σ, hd, hf, hs, hr => by
    have hm := ok.1.1
    have hb := sky_b hn
    show ∃ σ', f_X1_drift_b25 (f_X1_drift_l25 n (nI (windA A / 4)) (nI (windA A % 4)) fu) n (nI (windA A / 4)) (nI (windA A % 4)) (nI k) σ = some σ' ∧ _
    unfold f_X1_drift_b25
    rw [hs.1]
    cases d with
    | zero =>
      rw [if_pos (nI_le (by omega) (by omega))]
      exact ⟨σ, rfl, by unfold gustA; rw [← hd]; exact hr, fun _ _ _ => rfl⟩
    | succ d =>
      have hk : k < 6 := by omega
      rw [if_neg (nI_ge (by omega) (by omega))]
      simp only [lit]
      have okb := blowsN_ok ok hg k (by omega)
      have e3 : blowsN k A 3 = A 3 := blowsN_ne (by omega) k (by omega)
      have eW : windA (blowsN k A) = windA A := by unfold windA; rw [e3, blowsN_ne (by omega) k (by omega)]
      have hgb : blowsN k A 3 < 16 := by rw [e3]; exact hg
      have hwb := wind_b ok hg
      have ek : blowsN k A (35 + 6 * k + 0) = A (35 + 6 * k + 0) := blowsN_hi k (Nat.le_refl _) 0 (by decide)
      obtain ⟨c0, c1, c2, -, b4, -⟩ := okb.2.2.2.1 k hk
      have hdb := drift_b okb hgb hk
      have next : ∀ σ2 : Sg, rCd σ2 n (blowsN (k + 1) A) sc → dC n σ σ2 → ∃ σ', f_X1_drift_l25 n (nI (windA A / 4)) (nI (windA A % 4)) fu (nI k + nI 1) σ2 = some σ' ∧ rCd σ' n (gustA A) sc ∧ dC n σ σ' := fun σ2 h2 s2 => by
        rw [nI_add]
        obtain ⟨σ', p1, p2, p3⟩ := c_drift_l hn ok hg d (k + 1) fu σ2 (by omega) (by omega) (hs.mono (fun p a b => s2 p (by omega) (by omega))) h2
        exact ⟨σ', p1, p2, s2.tr p3⟩
      rw [c_aloft hr okb hk]
      by_cases ha : blowsN k A (35 + 6 * k + 4) = 1
      · rw [if_pos (decide_eq_true ha), rd_nI hk (by decide), bnd_some, (hs.2.2.2.1 k hk).1, if_neg (nI_in0 (by omega) (by decide)), nI_clamp (by omega), hr.1, lt_ap, e3, c_drift (by omega) (by omega) hg, rd_nI hk (by decide), bnd_some, rd_nI hk (by decide), bnd_some, (hr.2.2.2.2 k hk).1, (hr.2.2.2.2 k hk).2, lt_ap]
        have eD : nI (driftN (A (35 + 6 * k + 0)) (windA A / 4) (A 3)) = nI (driftA (blowsN k A) k) := by unfold driftA; rw [ek, eW, e3]
        have emin : min32 (nI (driftA (blowsN k A) k)) (nI (blowsN k A (35 + 6 * k + 2))) = nI (min (driftA (blowsN k A) k) (blowsN k A (35 + 6 * k + 2))) := by
          unfold min32
          by_cases q : blowsN k A (35 + 6 * k + 2) < driftA (blowsN k A) k
          · rw [if_pos (nI_lt q (by omega)), Nat.min_eq_right (by omega)]
          · rw [if_neg (nI_nlt (by omega) (by omega)), Nat.min_eq_left (by omega)]
        rw [eD, emin, c_room (by omega) (Nat.mod_lt _ (by decide)) (by omega), bnd_some, c_moved (by omega) (Nat.mod_lt _ (by decide)) (by omega), wr_nI hk (by decide), bnd_some, rd_nI hk (by decide), bnd_some, upS_ne (by omega), (hr.2.2.2.2 k hk).2, pk_sub (by have := room_le (blowsN k A (35 + 6 * k + 1)) (windA A % 4) (min (driftA (blowsN k A) k) (blowsN k A (35 + 6 * k + 2))); omega), wr_nI hk (by decide), bnd_some]
        refine next _ ?_ (fun p a b => by rw [upS_ne b, upS_ne a])
        have est : blowsN (k + 1) A = up1 (up1 (blowsN k A) (35 + 6 * k + 1) (movedN (blowsN k A (35 + 6 * k + 1)) (windA A % 4) (roomN (blowsN k A (35 + 6 * k + 1)) (windA A % 4) (min (driftA (blowsN k A) k) (blowsN k A (35 + 6 * k + 2)))))) (35 + 6 * k + 2) (blowsN k A (35 + 6 * k + 2) - roomN (blowsN k A (35 + 6 * k + 1)) (windA A % 4) (min (driftA (blowsN k A) k) (blowsN k A (35 + 6 * k + 2)))) := by
          show stepK (blowsN k A) k = _
          unfold stepK byA
          rw [if_pos ha, eW]
        rw [est]
        exact hr.step hk _ _
      · rw [if_neg (fun z => ha (of_decide_eq_true z))]
        refine next σ ?_ (fun _ _ _ => rfl)
        show rCd σ n (stepK (blowsN k A) k) sc
        unfold stepK
        rw [if_neg ha]
        exact hr
theorem c_driftS {n : Nat} (hn : isSky n) {σ : Sg} {A : Nat → Nat} {sc : Int32} (hs : rCs σ A) (hd : rCd σ n A sc) (ok : okA A) (hg : A 3 < 16) : ∃ σ', f_X1_drift n σ = some σ' ∧ rCd σ' n (gustA A) sc ∧ dC n σ σ' := by
  have hw := wind_b ok hg
  have hm := ok.1.1
  unfold f_X1_drift
  rw [hd.1, c_windOf hs hg, bnd_some, lt_ap, bnd_some, lt_ap]
  simp only [lit]
  unfold rem32
  show ∃ σ', f_X1_drift_l25 n (nI (windA A) / nI 4) (nI (windA A) - nI (windA A) / nI 4 * nI 4) 400 (nI 0) σ = some σ' ∧ _
  rw [pk_rem (by omega) (by decide) (by decide), pk_div (by omega) (by decide) (by decide)]
  exact c_drift_l hn ok hg (A 0) 0 400 σ (by omega) (by omega) hs hd
/-- the kite that is told in the rest: -1, or its number -/
theorem c_first_l {n : Nat} {σ : Sg} {A : Nat → Nat} {sc : Int32} (hs : rCs σ A) (hd : rCd σ n A sc) (ok : okA A) : ∀ (d k fu : Nat), k + d = A 0 → d < fu → f_X1_firstInReach_l2 n σ fu (nI k) = some (if chosenN A d k = 0 then -1 else nI (chosenN A d k - 1))
  | d, k, 0, _, hf => absurd hf (by omega)
  | d, k, fu + 1, hk0, hf => by
    have hm := ok.1.1
    show f_X1_firstInReach_b2 (f_X1_firstInReach_l2 n σ fu) n σ (nI k) = _
    unfold f_X1_firstInReach_b2
    rw [hs.1]
    cases d with
    | zero => rw [if_pos (nI_le (by omega) (by omega))]; rfl
    | succ d =>
      have hk : k < 6 := by omega
      have ih := c_first_l hs hd ok d (k + 1) fu (by omega) (by omega)
      obtain ⟨-, -, -, h3, -, -⟩ := ok.2.2.2.1 k hk
      have h4 := (ok.2.2.1 _ (show A (35 + 6 * k + 3) < 6 by omega)).2
      have hfb := far_b ok hk
      rw [if_neg (nI_ge (by omega) (by omega)), c_aloft hd ok hk, nI_1]
      by_cases ha : A (35 + 6 * k + 4) = 1
      · rw [if_pos (decide_eq_true ha), c_farOf hs hd ok hk, bnd_some, rd_nI hk (by decide), bnd_some, (hs.2.2.2.1 k hk).2, rd_nI (by omega) (by decide), bnd_some, (hs.2.2.2.2.2.1 _ (by omega)).2]
        by_cases hc : farA A k ≤ A (23 + 2 * A (35 + 6 * k + 3) + 1)
        · rw [if_neg (nI_nlt hc (by omega)), chosen_t ha hc, if_neg (by omega)]
          rfl
        · rw [if_pos (nI_lt (by omega) (by omega)), chosen_f (fun q => hc q.2)]
          exact ih
      · rw [if_neg (fun z => ha (of_decide_eq_true z)), chosen_f (fun q => ha q.1)]
        exact ih
/-- two states hold the same rules -/
def eqR (σ σ' : Sg) : Prop := σ' 34 0 = σ 34 0 ∧ (∀ i, i < 8 → σ' 35 i = σ 35 i ∧ σ' 36 i = σ 36 i ∧ σ' 37 i = σ 37 i ∧ σ' 38 i = σ 38 i) ∧ ∀ i, i < 200 → σ' 39 i = σ 39 i
theorem eqR.of {σ σ' : Sg} (e : ∀ p, 34 ≤ p → p < 40 → σ' p = σ p) : eqR σ σ' := by
  unfold eqR
  rw [e 34 (by decide) (by decide), e 35 (by decide) (by decide), e 36 (by decide) (by decide), e 37 (by decide) (by decide), e 38 (by decide) (by decide), e 39 (by decide) (by decide)]
  exact ⟨rfl, fun _ _ => ⟨rfl, rfl, rfl, rfl⟩, fun _ _ => rfl⟩
theorem eqR.tr {a b c : Sg} (h : eqR a b) (g : eqR b c) : eqR a c := ⟨g.1.trans h.1, fun i hi => ⟨(g.2.1 i hi).1.trans (h.2.1 i hi).1, (g.2.1 i hi).2.1.trans (h.2.1 i hi).2.1, (g.2.1 i hi).2.2.1.trans (h.2.1 i hi).2.2.1, (g.2.1 i hi).2.2.2.trans (h.2.1 i hi).2.2.2⟩, fun i hi => (g.2.2 i hi).trans (h.2.2 i hi)⟩
/-- the rules that the class holds at place 34 are W -/
def rulC (σ : Sg) (W : WT) : Prop := ∀ σ' : Sg, eqR σ σ' → ∀ kd g st fa nm k, kd < 6 → g ≤ 16 → st ≤ 9 → fa ≤ 14 → nm ≤ 5 → k < 6 → σ' 40 0 = nI g → σ' 40 1 = nI st → σ' 40 2 = nI fa → σ' 40 3 = nI nm → σ' 40 4 = nI k → f_X9_doFor (nI kd) σ' = some (nI (W kd g st fa nm k))
theorem rulC.eq {σ σ' : Sg} {W : WT} (h : rulC σ W) (e : eqR σ σ') : rulC σ' W := fun σ2 s2 => h σ2 (e.tr s2)
theorem rulC.mono {σ σ' : Sg} {W : WT} (h : rulC σ W) (e : ∀ p, 34 ≤ p → p < 40 → σ' p = σ p) : rulC σ' W := h.eq (eqR.of e)
/-- facts laid, and the rules asked: what the told kite does -/
theorem c_facts {n : Nat} (hn : isSky n) {σ : Sg} {A : Nat → Nat} {sc : Int32} {W : WT} (hs : rCs σ A) (hd : rCd σ n A sc) (ok : okA A) (hW : rulC σ W) {k : Nat} (hk : k < 6) : ∃ σ', f_X1_layFacts n (nI k) (nI (farA A k)) σ = some σ' ∧ (∀ p, p ≠ 40 → σ' p = σ p) ∧ f_X9_doFor (nI (A (35 + 6 * k + 0))) σ' = some (nI (willA W A k)) := by
  have hb := sky_b hn
  obtain ⟨c0, c1, c2, c3, -⟩ := ok.2.2.2.1 k hk
  have hfb := far_b ok hk
  unfold f_X1_layFacts
  rw [lt_ap, rd_nI hk (by decide), bnd_some, upS_ne (q := n + 2) (by omega), lt_ap, lt_ap, rd_nI hk (by decide), bnd_some, upS_ne (q := 26) (by decide), upS_ne (q := 26) (by decide), upS_ne (q := 26) (by decide), lt_ap, lt_ap, (hd.2.2.2.2 k hk).2, (hs.2.2.2.1 k hk).2, hd.1]
  refine ⟨_, rfl, fun p hp => by rw [upS_ne hp, upS_ne hp, upS_ne hp, upS_ne hp, upS_ne hp], ?_⟩
  refine hW _ (eqR.of (fun p a b => by rw [upS_ne (by omega), upS_ne (by omega), upS_ne (by omega), upS_ne (by omega), upS_ne (by omega)])) _ _ _ _ _ _ (by omega) ok.1.2.2.2.1 (by omega) hfb (by omega) hk ?_ ?_ ?_ ?_ ?_
  · rw [upS_nj (by omega), upS_nj (by omega), upS_nj (by omega), upS_nj (by omega), upS_at]
  · rw [upS_nj (by omega), upS_nj (by omega), upS_nj (by omega), upS_at]
  · rw [upS_nj (by omega), upS_nj (by omega), upS_at]
  · rw [upS_nj (by omega), upS_at]
  · rw [upS_at]
/-- only the sky at n and the facts have changed -/
def fC (n : Nat) (σ σ' : Sg) : Prop := ∀ p, p ≠ n → p ≠ n + 1 → p ≠ n + 2 → p ≠ 40 → σ' p = σ p
theorem fC.tr {n : Nat} {a b c : Sg} (h : fC n a b) (g : fC n b c) : fC n a c := fun p h1 h2 h3 h4 => (g p h1 h2 h3 h4).trans (h p h1 h2 h3 h4)
theorem fC.rf (n : Nat) (σ : Sg) : fC n σ σ := fun _ _ _ _ _ => rfl
theorem rCd.facts {σ σ' : Sg} {n : Nat} (hn : isSky n) {A : Nat → Nat} {sc : Int32} (h : rCd σ n A sc) (e : ∀ p, p ≠ 40 → σ' p = σ p) : rCd σ' n A sc := by
  have hb := sky_b hn
  exact h.mono (e _ (by omega)) (e _ (by omega)) (e _ (by omega))

/-! telling, in the class -/
theorem rCd.al {σ : Sg} {n : Nat} {A : Nat → Nat} {sc : Int32} (h : rCd σ n A sc) (ok : okA A) {k v : Nat} (hk : k < 6) (hv : v < 2) (σ' : Sg) : rCd (upS σ n 2 (f_X11_withBit (σ n 2) (nI k) (nI v) σ')) n (up1 A (35 + 6 * k + 4) v) sc := by
  obtain ⟨h0, h1, h2, h3, h4⟩ := h
  rw [h2, c_withBit (set_lt (ok_al ok)) hk hv, set_up (ok_al ok) hk]
  refine ⟨?_, ?_, ?_, ?_, fun j hj => ⟨?_, ?_⟩⟩
  · rw [upS_nj (by omega), up1_ne (by omega)]; exact h0
  · rw [upS_nj (by omega)]; exact h1
  · rw [upS_at]
  · rw [upS_nj (by omega), set_ne (fun j hj => by omega)]; exact h3
  · rw [upS_ne (by omega), up1_ne (by omega)]; exact (h4 j hj).1
  · rw [upS_ne (by omega), up1_ne (by omega)]; exact (h4 j hj).2
theorem rCd.sv {σ : Sg} {n : Nat} {A : Nat → Nat} {sc : Int32} (h : rCd σ n A sc) (ok : okA A) {k v : Nat} (hk : k < 6) (hv : v < 2) (σ' : Sg) : rCd (upS σ n 3 (f_X11_withBit (σ n 3) (nI k) (nI v) σ')) n (up1 A (35 + 6 * k + 5) v) sc := by
  obtain ⟨h0, h1, h2, h3, h4⟩ := h
  rw [h3, c_withBit (set_lt (ok_sv ok)) hk hv, set_up (ok_sv ok) hk]
  refine ⟨?_, ?_, ?_, ?_, fun j hj => ⟨?_, ?_⟩⟩
  · rw [upS_nj (by omega), up1_ne (by omega)]; exact h0
  · rw [upS_nj (by omega)]; exact h1
  · rw [upS_nj (by omega), set_ne (fun j hj => by omega)]; exact h2
  · rw [upS_at]
  · rw [upS_ne (by omega), up1_ne (by omega)]; exact (h4 j hj).1
  · rw [upS_ne (by omega), up1_ne (by omega)]; exact (h4 j hj).2
theorem up1_id {A : Nat → Nat} {i v : Nat} (h : A i = v) : up1 A i v = A := by
  funext j
  unfold up1
  split
  · rename_i e; rw [e, h]
  · rfl
theorem up1_up {A : Nat → Nat} {i v w : Nat} : up1 (up1 A i v) i w = up1 A i w := by
  funext j
  unfold up1
  split <;> rfl
/-- the end of a gust: what it was worth is told, one gust more -/
theorem c_end {n : Nat} {σ : Sg} {B : Nat → Nat} {sc : Int32} {g : Nat} (h : rCd σ n B sc) (eg : B 3 = g) (w : Nat) : ∃ σ', f_X1_tell_b139 n (nI w) σ = some (nI w, σ') ∧ rCd σ' n (up1 B 3 (g + 1)) (sc + nI w) ∧ (∀ p, p ≠ n → σ' p = σ p) := by
  obtain ⟨h0, h1, h2, h3, h4⟩ := h
  unfold f_X1_tell_b139
  rw [lt_ap, lt_ap, upS_nj (by omega), h0, h1, eg, nI_1]
  refine ⟨_, rfl, ⟨?_, ?_, ?_, ?_, fun j hj => ⟨?_, ?_⟩⟩, fun p hp => by rw [upS_ne hp, upS_ne hp]⟩
  · rw [upS_at, up1_at]
  · rw [upS_nj (by omega), upS_at]
  · rw [upS_nj (by omega), upS_nj (by omega), set_ne (fun j hj => by omega)]; exact h2
  · rw [upS_nj (by omega), upS_nj (by omega), set_ne (fun j hj => by omega)]; exact h3
  · rw [upS_ne (by omega), upS_ne (by omega), up1_ne (by omega)]; exact (h4 j hj).1
  · rw [upS_ne (by omega), upS_ne (by omega), up1_ne (by omega)]; exact (h4 j hj).2
theorem c_tellK {n : Nat} (hn : isSky n) {σ : Sg} {A : Nat → Nat} {sc : Int32} {W : WT} {g : Nat} (hs : rCs σ A) (hd : rCd σ n A sc) (ok : okA A) (hw : okW W) (hW : rulC σ W) (eg : A 3 = g) {k : Nat} (hk : k < A 0) (ha : A (35 + 6 * k + 4) = 1) :
    ∃ σ', f_X1_tell n (nI k) σ = some (nI (toldA W A k).1, σ') ∧ rCd σ' n (up1 (toldA W A k).2 3 (g + 1)) (sc + nI (toldA W A k).1) ∧ fC n σ σ' := by
  have hm := ok.1.1
  have hk6 : k < 6 := by omega
  have hb := sky_b hn
  have hwb : willA W A k ≤ 2 := hw _ _ _ _ _ _
  have hfb := far_b ok hk6
  obtain ⟨c0, c1, c2, c3, -⟩ := ok.2.2.2.1 k hk6
  have c9 := (ok.2.2.1 _ (show A (35 + 6 * k + 3) < 6 by omega)).2
  have hfe := fee_le _ (show A (35 + 6 * k + 0) < 6 by omega) _ hk6
  obtain ⟨σ2, e1, e2, e3⟩ := c_facts hn hs hd ok hW hk6
  have hs2 : rCs σ2 A := hs.mono (fun p a b => e2 p (by omega))
  have hd2 : rCd σ2 n A sc := hd.facts hn e2
  have f2 : fC n σ σ2 := fun p _ _ _ h4 => e2 p h4
  have hne : ¬ nI k = -1 := fun z => by
    have := congrArg Int32.toInt z
    rw [nI_toInt (by omega)] at this
    exact absurd this (by have : (-1 : Int32).toInt = -1 := rfl; omega)
  unfold f_X1_tell
  rw [if_neg hne, c_aloft hd ok hk6, if_pos (decide_eq_true ha), c_farOf hs hd ok hk6, bnd_some, e1, bnd_some, rd_nI hk6 (by decide), bnd_some, (hs2.2.2.2.1 k hk6).1, e3, bnd_some]
  have fin : ∀ (w : Nat) (σ5 : Sg) (B : Nat → Nat), rCd σ5 n B sc → B 3 = g → fC n σ σ5 → ∃ σ', f_X1_tell_b139 n (nI w) σ5 = some (nI w, σ') ∧ rCd σ' n (up1 B 3 (g + 1)) (sc + nI w) ∧ fC n σ σ' := fun w σ5 B h5 g5 f5 => by
    obtain ⟨σ', p1, p2, p3⟩ := c_end h5 g5 w
    exact ⟨σ', p1, p2, f5.tr (fun p h1 _ _ _ => p3 p h1)⟩
  have b68 : ∀ (v : Nat) (σ5 : Sg), v = (if willA W A k = 1 then 1 else 0) → rCs σ5 A → rCd σ5 n (up1 A (35 + 6 * k + 4) v) sc → okA (up1 A (35 + 6 * k + 4) v) → fC n σ σ5 →
      ∃ σ', f_X1_tell_b68 n (nI k) 0 (nI (farA A k)) (nI (willA W A k)) σ5 = some (nI (toldA W A k).1, σ') ∧ rCd σ' n (up1 (toldA W A k).2 3 (g + 1)) (sc + nI (toldA W A k).1) ∧ fC n σ σ' := by
    intro v σ5 ev hs5 hd5 ok5 f5
    have g5 : up1 A (35 + 6 * k + 4) v 3 = g := by rw [up1_ne (by omega)]; exact eg
    unfold f_X1_tell_b68
    simp only [lit]
    by_cases q2 : willA W A k = 2
    · rw [q2, if_neg (by decide), told_b (by omega), ← ev, q2]
      exact fin 1 σ5 _ hd5 g5 f5
    · rw [if_pos (fun z => q2 ((nI_eq (by omega) (by decide)).mp z))]
      by_cases q0 : willA W A k = 0
      · rw [q0, if_neg (by decide), rd_nI hk6 (by decide), bnd_some, (hs5.2.2.2.1 k hk6).2, rd_nI (by omega) (by decide), bnd_some, (hs5.2.2.2.2.2.1 _ (by omega)).2]
        have ev0 : v = 0 := by rw [ev, if_neg (by omega)]
        subst ev0
        by_cases hc : farA A k ≤ A (23 + 2 * A (35 + 6 * k + 3) + 1)
        · rw [if_neg (nI_nlt hc (by omega)), lt_ap, rd_nI hk6 (by decide), bnd_some, upS_ne (q := 25) (by omega), (hs5.2.2.2.1 k hk6).1, if_neg (nI_in0 (by omega) (by decide)), nI_clamp (by omega), c_fee (by omega) hk6, lt_ap, told_a q0 hc]
          have emax : max32 (nI 0) (nI 9 - nI (farA A k)) = nI (9 - farA A k) := by
            have key : ∀ f, f < 15 → max32 (nI 0) (nI 9 - nI f) = nI (9 - f) := by decide +kernel
            exact key _ (by omega)
          rw [emax, nI_add]
          refine fin _ _ _ (hd5.sv ok5 hk6 (by decide) _) ?_ (f5.tr (fun p h1 _ _ _ => upS_ne h1))
          exact (up1_ne (A := up1 A (35 + 6 * k + 4) 0) (i := 35 + 6 * k + 5) (v := 1) (j := 3) (by omega)).trans g5
        · rw [if_pos (nI_lt (by omega) (by omega)), told_b (fun z => hc z.2), ← ev, if_neg q2]
          exact fin 0 σ5 _ hd5 g5 f5
      · rw [if_pos (fun z => q0 ((nI_eq (by omega) (by decide)).mp z)), told_b (fun z => q0 z.1), ← ev, if_neg q2]
        exact fin 0 σ5 _ hd5 g5 f5
  by_cases q1 : willA W A k = 1
  · rw [if_pos (by rw [q1]; rfl)]
    have ei : up1 A (35 + 6 * k + 4) 1 = A := up1_id ha
    exact b68 1 σ2 (by rw [if_pos q1]) hs2 (by rw [ei]; exact hd2) (by rw [ei]; exact ok) f2
  · rw [if_neg (show ¬ nI (willA W A k) = 1 from fun z => q1 ((nI_eq (a := willA W A k) (b := 1) (by omega) (by decide)).mp z)), lt_ap]
    exact b68 0 _ (by rw [if_neg q1]) (hs2.mono (fun p a b => upS_ne (by omega))) (hd2.al ok hk6 (by decide) _) (okA_al ok hk (by decide)) (f2.tr (fun p h1 _ _ _ => upS_ne h1))
theorem c_tell0 {n : Nat} {σ : Sg} {A : Nat → Nat} {sc : Int32} {g : Nat} (hd : rCd σ n A sc) (eg : A 3 = g) : ∃ σ', f_X1_tell n (-1) σ = some (nI 0, σ') ∧ rCd σ' n (up1 A 3 (g + 1)) (sc + nI 0) ∧ fC n σ σ' := by
  unfold f_X1_tell
  rw [if_pos rfl]
  obtain ⟨σ', p1, p2, p3⟩ := c_end hd eg 0
  exact ⟨σ', p1, p2, fun p h1 _ _ _ => p3 p h1⟩
theorem c_tellL {n : Nat} {σ : Sg} {A : Nat → Nat} {sc : Int32} {g : Nat} (hd : rCd σ n A sc) (ok : okA A) (eg : A 3 = g) {k : Nat} (hk : k < A 0) (ha : ¬ A (35 + 6 * k + 4) = 1) : ∃ σ', f_X1_tell n (nI k) σ = some (nI 0, σ') ∧ rCd σ' n (up1 A 3 (g + 1)) (sc + nI 0) ∧ fC n σ σ' := by
  have hm := ok.1.1
  have hne : ¬ nI k = -1 := fun z => by
    have := congrArg Int32.toInt z
    rw [nI_toInt (by omega)] at this
    exact absurd this (by have : (-1 : Int32).toInt = -1 := rfl; omega)
  unfold f_X1_tell
  rw [if_neg hne, c_aloft hd ok (by omega), if_neg (fun z => ha (of_decide_eq_true z))]
  obtain ⟨σ', p1, p2, p3⟩ := c_end hd eg 0
  exact ⟨σ', p1, p2, fun p h1 _ _ _ => p3 p h1⟩
theorem dC.f {n : Nat} {σ σ' : Sg} (h : dC n σ σ') : fC n σ σ' := fun p _ h1 h2 _ => h p h1 h2
theorem fC.s {n : Nat} (hn : isSky n) {σ σ' : Sg} {A : Nat → Nat} (h : fC n σ σ') (hs : rCs σ A) : rCs σ' A := by
  have hb := sky_b hn
  exact hs.mono (fun p a b => h p (by omega) (by omega) (by omega) (by omega))
theorem fC.r {n : Nat} (hn : isSky n) {σ σ' : Sg} {W : WT} (h : fC n σ σ') (hW : rulC σ W) : rulC σ' W := by
  have hb := sky_b hn
  exact hW.mono (fun p a b => h p (by omega) (by omega) (by omega) (by omega))
theorem gustA_s {A : Nat → Nat} (ok : okA A) {σ : Sg} (hs : rCs σ A) : rCs σ (gustA A) := hs.A (fun j hj => gust_ne ok (by omega))
theorem c_goAct {n : Nat} (hn : isSky n) {σ : Sg} {A : Nat → Nat} {sc : Int32} {W : WT} (hs : rCs σ A) (hd : rCd σ n A sc) (ok : okA A) (hg : A 3 < 16) (hw : okW W) (hW : rulC σ W) {act : Nat} (ha : act ≤ A 0) :
    ∃ σ', f_X1_goByAct n (nI act) σ = some (nI (goesA W A act).1, σ') ∧ rCd σ' n (goesA W A act).2 (sc + nI (goesA W A act).1) ∧ rCs σ' (goesA W A act).2 ∧ fC n σ σ' := by
  have hm := ok.1.1
  obtain ⟨σ1, p1, p2, p3⟩ := c_driftS hn hs hd ok hg
  have e3 : gustA A 3 = A 3 := gust_ne ok (by omega)
  have e0 : gustA A 0 = A 0 := gust_ne ok (by omega)
  have okB := gust_ok ok hg
  have hs1 : rCs σ1 (gustA A) := gustA_s ok (p3.f.s hn hs)
  have main : ∃ σ', f_X1_tell n (nI act - 1) σ1 = some (nI (goesA W A act).1, σ') ∧ rCd σ' n (goesA W A act).2 (sc + nI (goesA W A act).1) ∧ fC n σ1 σ' := by
    by_cases h0 : act = 0
    · subst h0
      rw [show nI 0 - 1 = (-1 : Int32) from rfl, goes_0]
      exact c_tell0 p2 e3
    · rw [show nI act - 1 = nI (act - 1) from pk_sub (b := 1) (by omega)]
      by_cases h4 : gustA A (35 + 6 * (act - 1) + 4) = 1
      · rw [goes_a h0 h4]
        exact c_tellK hn hs1 p2 okB hw (p3.f.r hn hW) e3 (by omega) h4
      · rw [goes_b h0 h4]
        exact c_tellL p2 okB e3 (by omega) h4
  obtain ⟨σ', q1, q2, q3⟩ := main
  unfold f_X1_goByAct
  rw [p1, bnd_some, q1, bd2_some]
  have f := p3.f.tr q3
  exact ⟨σ', rfl, q2, (f.s hn hs).A (fun j hj => goes_ne ok ha hj), f⟩
theorem c_goRest {n : Nat} (hn : isSky n) {σ : Sg} {A : Nat → Nat} {sc : Int32} {W : WT} (hs : rCs σ A) (hd : rCd σ n A sc) (ok : okA A) (hg : A 3 < 16) (hw : okW W) (hW : rulC σ W) :
    ∃ σ', f_X1_goByRest n σ = some (nI (restA W A).1, σ') ∧ rCd σ' n (restA W A).2 (sc + nI (restA W A).1) ∧ rCs σ' (restA W A).2 ∧ fC n σ σ' := by
  have hm := ok.1.1
  obtain ⟨σ1, p1, p2, p3⟩ := c_driftS hn hs hd ok hg
  have e3 : gustA A 3 = A 3 := gust_ne ok (by omega)
  have e0 : gustA A 0 = A 0 := gust_ne ok (by omega)
  have okB := gust_ok ok hg
  have hs1 : rCs σ1 (gustA A) := gustA_s ok (p3.f.s hn hs)
  have hcb := chosen_b ok
  have hfst : f_X1_firstInReach n σ1 = some (if chosenA (gustA A) = 0 then -1 else nI (chosenA (gustA A) - 1)) := by
    unfold f_X1_firstInReach
    exact c_first_l hs1 p2 okB (gustA A 0) 0 400 (by omega) (by omega)
  have main : ∃ σ', f_X1_tell n (if chosenA (gustA A) = 0 then -1 else nI (chosenA (gustA A) - 1)) σ1 = some (nI (restA W A).1, σ') ∧ rCd σ' n (restA W A).2 (sc + nI (restA W A).1) ∧ fC n σ1 σ' := by
    unfold restA
    by_cases h0 : chosenA (gustA A) = 0
    · rw [if_pos h0, h0, goes_0]
      exact c_tell0 p2 e3
    · rw [if_neg h0]
      by_cases h4 : gustA A (35 + 6 * (chosenA (gustA A) - 1) + 4) = 1
      · rw [goes_a h0 h4]
        exact c_tellK hn hs1 p2 okB hw (p3.f.r hn hW) e3 (by omega) h4
      · rw [goes_b h0 h4]
        exact c_tellL p2 okB e3 (by omega) h4
  obtain ⟨σ', q1, q2, q3⟩ := main
  unfold f_X1_goByRest
  rw [p1, bnd_some, hfst, bnd_some, q1, bd2_some]
  have f := p3.f.tr q3
  exact ⟨σ', rfl, q2, (f.s hn hs).A (fun j hj => goes_ne ok hcb hj), f⟩
