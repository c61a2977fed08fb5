/-! the class's gusts over the same numbers -/
def setN (A : Nat → Nat) (w : Nat) : Nat := A (35 + 6 * 0 + w) + A (35 + 6 * 1 + w) * 2 + A (35 + 6 * 2 + w) * 4 + A (35 + 6 * 3 + w) * 8 + A (35 + 6 * 4 + w) * 16 + A (35 + 6 * 5 + w) * 32
theorem set_lt {A : Nat → Nat} {w : Nat} (h : ∀ k, k < 6 → A (35 + 6 * k + w) ≤ 1) : setN A w < 64 := by
  have h0 := h 0 (by decide)
  have h1 := h 1 (by decide)
  have h2 := h 2 (by decide)
  have h3 := h 3 (by decide)
  have h4 := h 4 (by decide)
  have h5 := h 5 (by decide)
  unfold setN
  omega
theorem set_bit {A : Nat → Nat} {w : Nat} (h : ∀ k, k < 6 → A (35 + 6 * k + w) ≤ 1) {k : Nat} (hk : k < 6) : setN A w / 2 ^ k % 2 = A (35 + 6 * k + w) := by
  have h0 := h 0 (by decide)
  have h1 := h 1 (by decide)
  have h2 := h 2 (by decide)
  have h3 := h 3 (by decide)
  have h4 := h 4 (by decide)
  have h5 := h 5 (by decide)
  unfold setN
  match k, hk with
  | 0, _ => show _ / 1 % 2 = _; omega
  | 1, _ => show _ / 2 % 2 = _; omega
  | 2, _ => show _ / 4 % 2 = _; omega
  | 3, _ => show _ / 8 % 2 = _; omega
  | 4, _ => show _ / 16 % 2 = _; omega
  | 5, _ => show _ / 32 % 2 = _; omega
  | k + 6, q => exact absurd q (by omega)
theorem set_ne {A : Nat → Nat} {w i v : Nat} (h : ∀ k, k < 6 → 35 + 6 * k + w ≠ i) : setN (up1 A i v) w = setN A w := by
  unfold setN
  rw [up1_ne (h 0 (by decide)), up1_ne (h 1 (by decide)), up1_ne (h 2 (by decide)), up1_ne (h 3 (by decide)), up1_ne (h 4 (by decide)), up1_ne (h 5 (by decide))]
theorem set_up {A : Nat → Nat} {w v : Nat} (h : ∀ k, k < 6 → A (35 + 6 * k + w) ≤ 1) {k : Nat} (hk : k < 6) : bitN (setN A w) k v = setN (up1 A (35 + 6 * k + w) v) w := by
  unfold bitN
  rw [set_bit h hk]
  have h0 := h 0 (by decide)
  have h1 := h 1 (by decide)
  have h2 := h 2 (by decide)
  have h3 := h 3 (by decide)
  have h4 := h 4 (by decide)
  have h5 := h 5 (by decide)
  unfold setN
  match k, hk with
  | 0, _ => rw [up1_at, up1_ne (by omega), up1_ne (by omega), up1_ne (by omega), up1_ne (by omega), up1_ne (by omega)]; show _ - _ * 1 + v * 1 = _; omega
  | 1, _ => rw [up1_ne (by omega), up1_at, up1_ne (by omega), up1_ne (by omega), up1_ne (by omega), up1_ne (by omega)]; show _ - _ * 2 + v * 2 = _; omega
  | 2, _ => rw [up1_ne (by omega), up1_ne (by omega), up1_at, up1_ne (by omega), up1_ne (by omega), up1_ne (by omega)]; show _ - _ * 4 + v * 4 = _; omega
  | 3, _ => rw [up1_ne (by omega), up1_ne (by omega), up1_ne (by omega), up1_at, up1_ne (by omega), up1_ne (by omega)]; show _ - _ * 8 + v * 8 = _; omega
  | 4, _ => rw [up1_ne (by omega), up1_ne (by omega), up1_ne (by omega), up1_ne (by omega), up1_at, up1_ne (by omega)]; show _ - _ * 16 + v * 16 = _; omega
  | 5, _ => rw [up1_ne (by omega), up1_ne (by omega), up1_ne (by omega), up1_ne (by omega), up1_ne (by omega), up1_at]; show _ - _ * 32 + v * 32 = _; omega
  | k + 6, q => exact absurd q (by omega)
theorem ok_al {A : Nat → Nat} (ok : okA A) : ∀ k, k < 6 → A (35 + 6 * k + 4) ≤ 1 := fun k hk => (ok.2.2.2.1 k hk).2.2.2.2.1
theorem ok_sv {A : Nat → Nat} (ok : okA A) : ∀ k, k < 6 → A (35 + 6 * k + 5) ≤ 1 := fun k hk => (ok.2.2.2.1 k hk).2.2.2.2.2
/-- the county at place 24 -/
def rCs (σ : Sg) (A : Nat → Nat) : Prop := σ 24 1 = nI (A 0) ∧ σ 24 2 = nI (A 2) ∧ σ 24 4 = nI (A 5) ∧ (∀ k, k < 6 → σ 25 k = nI (A (35 + 6 * k + 0)) ∧ σ 26 k = nI (A (35 + 6 * k + 3))) ∧ (∀ g, g < 16 → σ 27 g = nI (A (7 + g))) ∧
  (∀ f, f < 6 → σ 28 f = nI (A (23 + 2 * f)) ∧ σ 29 f = nI (A (23 + 2 * f + 1))) ∧ (∀ r, r < 6 → σ 30 r = nI (A (71 + 4 * r)) ∧ σ 31 r = nI (A (71 + 4 * r + 1)) ∧ σ 32 r = nI (A (71 + 4 * r + 2)) ∧ σ 33 r = nI (A (71 + 4 * r + 3)))
theorem rCs.mono {σ σ' : Sg} {A : Nat → Nat} (h : rCs σ A) (e : ∀ p, 24 ≤ p → p ≤ 33 → σ' p = σ p) : rCs σ' A := by
  unfold rCs
  rw [e 24 (by decide) (by decide), e 25 (by decide) (by decide), e 26 (by decide) (by decide), e 27 (by decide) (by decide), e 28 (by decide) (by decide), e 29 (by decide) (by decide), e 30 (by decide) (by decide), e 31 (by decide) (by decide), e 32 (by decide) (by decide), e 33 (by decide) (by decide)]
  exact h
theorem rCs.A {σ : Sg} {A B : Nat → Nat} (h : rCs σ A) (e : ∀ j, (j < 35 ∧ j ≠ 3) ∨ 71 ≤ j ∨ (35 ≤ j ∧ ((j - 35) % 6 = 0 ∨ (j - 35) % 6 = 3)) → B j = A j) : rCs σ B := by
  obtain ⟨h1, h2, h3, h4, h5, h6, h7⟩ := h
  refine ⟨by rw [e 0 (by omega)]; exact h1, by rw [e 2 (by omega)]; exact h2, by rw [e 5 (by omega)]; exact h3, fun k hk => ?_, fun g hg => by rw [e _ (by omega)]; exact h5 g hg, fun f hf => by rw [e _ (by omega), e _ (by omega)]; exact h6 f hf, fun r hr => by rw [e _ (by omega), e _ (by omega), e _ (by omega), e _ (by omega)]; exact h7 r hr⟩
  rw [e _ (by omega), e _ (by omega)]
  exact h4 k hk
/-- the sky at place n -/
def rCd (σ : Sg) (n : Nat) (A : Nat → Nat) (sc : Int32) : Prop := σ n 0 = nI (A 3) ∧ σ n 1 = sc ∧ σ n 2 = nI (setN A 4) ∧ σ n 3 = nI (setN A 5) ∧ ∀ k, k < 6 → σ (n + 1) k = nI (A (35 + 6 * k + 1)) ∧ σ (n + 2) k = nI (A (35 + 6 * k + 2))
theorem rCd.mono {σ σ' : Sg} {n : Nat} {A : Nat → Nat} {sc : Int32} (h : rCd σ n A sc) (e0 : σ' n = σ n) (e1 : σ' (n + 1) = σ (n + 1)) (e2 : σ' (n + 2) = σ (n + 2)) : rCd σ' n A sc := by
  unfold rCd
  rw [e0, e1, e2]
  exact h
theorem sky_b {n : Nat} (h : isSky n) : 41 ≤ n ∧ n ≤ 94 := by unfold isSky at h; omega
theorem c_aloft {σ : Sg} {n : Nat} {A : Nat → Nat} {sc : Int32} (h : rCd σ n A sc) (ok : okA A) {k : Nat} (hk : k < 6) (σ' : Sg) : f_X11_isIn (σ n 2) (nI k) σ' = decide (A (35 + 6 * k + 4) = 1) := by
  rw [h.2.2.1, c_isIn (set_lt (ok_al ok)) hk, set_bit (ok_al ok) hk]
theorem c_served {σ : Sg} {n : Nat} {A : Nat → Nat} {sc : Int32} (h : rCd σ n A sc) (ok : okA A) {k : Nat} (hk : k < 6) (σ' : Sg) : f_X11_isIn (σ n 3) (nI k) σ' = decide (A (35 + 6 * k + 5) = 1) := by
  rw [h.2.2.2.1, c_isIn (set_lt (ok_sv ok)) hk, set_bit (ok_sv ok) hk]
theorem c_farOf {σ : Sg} {n : Nat} {A : Nat → Nat} {sc : Int32} (hs : rCs σ A) (hd : rCd σ n A sc) (ok : okA A) {k : Nat} (hk : k < 6) : f_X1_farFromFarm n (nI k) σ = some (nI (farA A k)) := by
  obtain ⟨-, -, hf, hkk, -⟩ := ok
  obtain ⟨-, h1, -, h3, -⟩ := hkk k hk
  have h4 := (hf _ (show A (35 + 6 * k + 3) < 6 by omega)).1
  unfold f_X1_farFromFarm
  rw [rd_nI hk (by decide), bnd_some, (hd.2.2.2.2 k hk).1, rd_nI hk (by decide), bnd_some, (hs.2.2.2.1 k hk).2, rd_nI (by omega) (by decide), bnd_some, (hs.2.2.2.2.2.1 _ (by omega)).1, c_far (by omega) (by omega)]
  rfl
theorem c_windOf {σ : Sg} {A : Nat → Nat} (hs : rCs σ A) {g : Nat} (hg : g < 16) : f_X1_windOf (nI g) σ = some (nI (A (7 + g))) := by
  unfold f_X1_windOf
  rw [c_in, show (0 : Int32) = nI 0 from rfl, show (15 : Int32) = nI 15 from rfl, if_pos ((rng_nI (by decide) (by decide)).mpr ⟨g, by omega, by omega, rfl⟩), rd_nI hg (by decide), bnd_some, hs.2.2.2.2.1 g hg]
/-- only the two rows of the sky at n have changed -/
def dC (n : Nat) (σ σ' : Sg) : Prop := ∀ p, p ≠ n + 1 → p ≠ n + 2 → σ' p = σ p
theorem dC.tr {n : Nat} {a b c : Sg} (h : dC n a b) (g : dC n b c) : dC n a c := fun p h1 h2 => (g p h1 h2).trans (h p h1 h2)
theorem rCd.step {σ : Sg} {n : Nat} {B : Nat → Nat} {sc : Int32} (h : rCd σ n B sc) {k : Nat} (hk : k < 6) (x y : Nat) : rCd (upS (upS σ (n + 1) k (nI x)) (n + 2) k (nI y)) n (up1 (up1 B (35 + 6 * k + 1) x) (35 + 6 * k + 2) y) sc := by
  obtain ⟨h0, h1, h2, h3, h4⟩ := h
  refine ⟨?_, ?_, ?_, ?_, fun j hj => ⟨?_, ?_⟩⟩
  · rw [upS_ne (by omega), upS_ne (by omega), up1_ne (by omega), up1_ne (by omega)]; exact h0
  · rw [upS_ne (by omega), upS_ne (by omega)]; exact h1
  · rw [upS_ne (by omega), upS_ne (by omega), set_ne (fun j hj => by omega), set_ne (fun j hj => by omega)]; exact h2
  · rw [upS_ne (by omega), upS_ne (by omega), set_ne (fun j hj => by omega), set_ne (fun j hj => by omega)]; exact h3
  · rw [upS_ne (by omega), up1_ne (by omega), upS_ap]
    by_cases e : j = k
    · subst e; rw [if_pos ⟨rfl, rfl⟩, up1_at]
    · rw [if_neg (fun z => e z.2), up1_ne (by omega)]; exact (h4 j hj).1
  · rw [upS_ap]
    by_cases e : j = k
    · subst e; rw [if_pos ⟨rfl, rfl⟩, up1_at]
    · rw [if_neg (fun z => e z.2), up1_ne (by omega), up1_ne (by omega), upS_ne (by omega)]; exact (h4 j hj).2
theorem c_drift_l {n : Nat} (hn : isSky n) {A : Nat → Nat} {sc : Int32} (ok : okA A) (hg : A 3 < 16) : ∀ (d k fu : Nat) (σ : Sg), k + d = A 0 → d < fu → rCs σ A → rCd σ n (blowsN k A) sc → ∃ σ', f_X1_drift_l25 n (nI (windA A / 4)) (nI (windA A % 4)) fu (nI k) σ = some σ' ∧ rCd σ' n (gustA A) sc ∧ dC n σ σ'
  | d, k, 0, σ, _, h, _, _ => absurd h (by omega)
  | d, k, fu + 1, σ, hd, hf, hs, hr => by
    have hm := ok.1.1
    have hb := sky_b hn
    show ∃ σ', f_X1_drift_b25 (f_X1_drift_l25 n (nI (windA A / 4)) (nI (windA A % 4)) fu) n (nI (windA A / 4)) (nI (windA A % 4)) (nI k) σ = some σ' ∧ _
    unfold f_X1_drift_b25
    rw [hs.1]
    cases d with
    | zero =>
      rw [if_pos (nI_le (by omega) (by omega))]
      exact ⟨σ, rfl, by unfold gustA; rw [← hd]; exact hr, fun _ _ _ => rfl⟩
    | succ d =>
      have hk : k < 6 := by omega
      rw [if_neg (nI_ge (by omega) (by omega))]
      simp only [lit]
      have okb := blowsN_ok ok hg k (by omega)
      have e3 : blowsN k A 3 = A 3 := blowsN_ne (by omega) k (by omega)
      have eW : windA (blowsN k A) = windA A := by unfold windA; rw [e3, blowsN_ne (by omega) k (by omega)]
      have hgb : blowsN k A 3 < 16 := by rw [e3]; exact hg
      have hwb := wind_b ok hg
      have ek : blowsN k A (35 + 6 * k + 0) = A (35 + 6 * k + 0) := blowsN_hi k (Nat.le_refl _) 0 (by decide)
      obtain ⟨c0, c1, c2, -, b4, -⟩ := okb.2.2.2.1 k hk
      have hdb := drift_b okb hgb hk
      have next : ∀ σ2 : Sg, rCd σ2 n (blowsN (k + 1) A) sc → dC n σ σ2 → ∃ σ', f_X1_drift_l25 n (nI (windA A / 4)) (nI (windA A % 4)) fu (nI k + nI 1) σ2 = some σ' ∧ rCd σ' n (gustA A) sc ∧ dC n σ σ' := fun σ2 h2 s2 => by
        rw [nI_add]
        obtain ⟨σ', p1, p2, p3⟩ := c_drift_l hn ok hg d (k + 1) fu σ2 (by omega) (by omega) (hs.mono (fun p a b => s2 p (by omega) (by omega))) h2
        exact ⟨σ', p1, p2, s2.tr p3⟩
      rw [c_aloft hr okb hk]
      by_cases ha : blowsN k A (35 + 6 * k + 4) = 1
      · rw [if_pos (decide_eq_true ha), rd_nI hk (by decide), bnd_some, (hs.2.2.2.1 k hk).1, if_neg (nI_in (by omega) (by decide)), nI_clamp (by omega), hr.1, lt_ap, e3, c_drift (by omega) (by omega) hg, rd_nI hk (by decide), bnd_some, rd_nI hk (by decide), bnd_some, (hr.2.2.2.2 k hk).1, (hr.2.2.2.2 k hk).2, lt_ap]
        have eD : nI (driftN (A (35 + 6 * k + 0)) (windA A / 4) (A 3)) = nI (driftA (blowsN k A) k) := by unfold driftA; rw [ek, eW, e3]
        have emin : min32 (nI (driftA (blowsN k A) k)) (nI (blowsN k A (35 + 6 * k + 2))) = nI (min (driftA (blowsN k A) k) (blowsN k A (35 + 6 * k + 2))) := by
          unfold min32
          by_cases q : blowsN k A (35 + 6 * k + 2) < driftA (blowsN k A) k
          · rw [if_pos (nI_lt q (by omega)), Nat.min_eq_right (by omega)]
          · rw [if_neg (nI_nlt (by omega) (by omega)), Nat.min_eq_left (by omega)]
        rw [eD, emin, c_room (by omega) (Nat.mod_lt _ (by decide)) (by omega), bnd_some, c_moved (by omega) (Nat.mod_lt _ (by decide)) (by omega), wr_nI hk (by decide), bnd_some, rd_nI hk (by decide), bnd_some, upS_ne (by omega), (hr.2.2.2.2 k hk).2, pk_sub (by have := room_le (blowsN k A (35 + 6 * k + 1)) (windA A % 4) (min (driftA (blowsN k A) k) (blowsN k A (35 + 6 * k + 2))); omega), wr_nI hk (by decide), bnd_some]
        refine next _ ?_ (fun p a b => by rw [upS_ne b, upS_ne a])
        have est : blowsN (k + 1) A = up1 (up1 (blowsN k A) (35 + 6 * k + 1) (movedN (blowsN k A (35 + 6 * k + 1)) (windA A % 4) (roomN (blowsN k A (35 + 6 * k + 1)) (windA A % 4) (min (driftA (blowsN k A) k) (blowsN k A (35 + 6 * k + 2)))))) (35 + 6 * k + 2) (blowsN k A (35 + 6 * k + 2) - roomN (blowsN k A (35 + 6 * k + 1)) (windA A % 4) (min (driftA (blowsN k A) k) (blowsN k A (35 + 6 * k + 2)))) := by
          show stepK (blowsN k A) k = _
          unfold stepK byA
          rw [if_pos ha, eW]
        rw [est]
        exact hr.step hk _ _
      · rw [if_neg (fun z => ha (of_decide_eq_true z))]
        refine next σ ?_ (fun _ _ _ => rfl)
        show rCd σ n (stepK (blowsN k A) k) sc
        unfold stepK
        rw [if_neg ha]
        exact hr
theorem c_driftS {n : Nat} (hn : isSky n) {σ : Sg} {A : Nat → Nat} {sc : Int32} (hs : rCs σ A) (hd : rCd σ n A sc) (ok : okA A) (hg : A 3 < 16) : ∃ σ', f_X1_drift n σ = some σ' ∧ rCd σ' n (gustA A) sc ∧ dC n σ σ' := by
  have hw := wind_b ok hg
  have hm := ok.1.1
  unfold f_X1_drift
  rw [hd.1, c_windOf hs hg, bnd_some, lt_ap, bnd_some, lt_ap]
  simp only [lit]
  unfold rem32
  show ∃ σ', f_X1_drift_l25 n (nI (windA A) / nI 4) (nI (windA A) - nI (windA A) / nI 4 * nI 4) 400 (nI 0) σ = some σ' ∧ _
  rw [pk_rem (by omega) (by decide) (by decide), pk_div (by omega) (by decide) (by decide)]
  exact c_drift_l hn ok hg (A 0) 0 400 σ (by omega) (by omega) hs hd
/-- the kite that is told in the rest: -1, or its number -/
theorem c_first_l {n : Nat} {σ : Sg} {A : Nat → Nat} {sc : Int32} (hs : rCs σ A) (hd : rCd σ n A sc) (ok : okA A) : ∀ (d k fu : Nat), k + d = A 0 → d < fu → f_X1_firstInReach_l2 n σ fu (nI k) = some (if chosenN A d k = 0 then -1 else nI (chosenN A d k - 1))
  | d, k, 0, _, hf => absurd hf (by omega)
  | d, k, fu + 1, hk0, hf => by
    have hm := ok.1.1
    show f_X1_firstInReach_b2 (f_X1_firstInReach_l2 n σ fu) n σ (nI k) = _
    unfold f_X1_firstInReach_b2
    rw [hs.1]
    cases d with
    | zero => rw [if_pos (nI_le (by omega) (by omega))]; rfl
    | succ d =>
      have hk : k < 6 := by omega
      have ih := c_first_l hs hd ok d (k + 1) fu (by omega) (by omega)
      obtain ⟨-, -, -, h3, -, -⟩ := ok.2.2.2.1 k hk
      have h4 := (ok.2.2.1 _ (show A (35 + 6 * k + 3) < 6 by omega)).2
      have hfb := far_b ok hk
      rw [if_neg (nI_ge (by omega) (by omega)), c_aloft hd ok hk, show (1 : Int32) = nI 1 from rfl, nI_add]
      unfold chosenN
      by_cases ha : A (35 + 6 * k + 4) = 1
      · rw [if_pos (decide_eq_true ha), c_farOf hs hd ok hk, bnd_some, rd_nI hk (by decide), bnd_some, (hs.2.2.2.1 k hk).2, rd_nI (by omega) (by decide), bnd_some, (hs.2.2.2.2.2.1 _ (by omega)).2]
        by_cases hc : farA A k ≤ A (23 + 2 * A (35 + 6 * k + 3) + 1)
        · rw [if_neg (nI_nlt hc (by omega)), if_pos ⟨ha, hc⟩, if_neg (by omega)]
          rfl
        · rw [if_pos (nI_lt (by omega) (by omega)), if_neg (fun q => hc q.2)]
          exact ih
      · rw [if_neg (fun z => ha (of_decide_eq_true z)), if_neg (fun q => ha q.1)]
        exact ih
/-- the rules that the class holds at place 34 are W -/
def rulC (σ : Sg) (W : WT) : Prop := ∀ σ' : Sg, (∀ p, 34 ≤ p → p < 40 → σ' p = σ p) → ∀ kd g st fa nm k, kd < 6 → g ≤ 16 → st ≤ 9 → fa ≤ 14 → nm ≤ 5 → k < 6 → σ' 40 0 = nI g → σ' 40 1 = nI st → σ' 40 2 = nI fa → σ' 40 3 = nI nm → σ' 40 4 = nI k → f_X9_doFor (nI kd) σ' = some (nI (W kd g st fa nm k))
theorem rulC.mono {σ σ' : Sg} {W : WT} (h : rulC σ W) (e : ∀ p, 34 ≤ p → p < 40 → σ' p = σ p) : rulC σ' W := fun σ2 s2 => h σ2 (fun p a b => (s2 p a b).trans (e p a b))
/-- facts laid, and the rules asked: what the told kite does -/
theorem c_facts {n : Nat} (hn : isSky n) {σ : Sg} {A : Nat → Nat} {sc : Int32} {W : WT} (hs : rCs σ A) (hd : rCd σ n A sc) (ok : okA A) (hW : rulC σ W) {k : Nat} (hk : k < 6) : ∃ σ', f_X1_layFacts n (nI k) (nI (farA A k)) σ = some σ' ∧ (∀ p, p ≠ 40 → σ' p = σ p) ∧ f_X9_doFor (nI (A (35 + 6 * k + 0))) σ' = some (nI (willA W A k)) := by
  have hb := sky_b hn
  obtain ⟨c0, c1, c2, c3, -⟩ := ok.2.2.2.1 k hk
  have hfb := far_b ok hk
  unfold f_X1_layFacts
  rw [lt_ap, upS_ne (by omega), rd_nI hk (by decide), bnd_some, lt_ap, lt_ap, upS_ne (by omega), upS_ne (by omega), upS_ne (by omega), rd_nI hk (by decide), bnd_some, lt_ap, lt_ap, (hd.2.2.2.2 k hk).2, (hs.2.2.2.1 k hk).2, hd.1]
  refine ⟨_, rfl, fun p hp => by rw [upS_ne hp, upS_ne hp, upS_ne hp, upS_ne hp, upS_ne hp], ?_⟩
  refine hW _ (fun p a b => by rw [upS_ne (by omega), upS_ne (by omega), upS_ne (by omega), upS_ne (by omega), upS_ne (by omega)]) _ _ _ _ _ _ (by omega) ok.1.2.2.2.1 (by omega) hfb (by omega) hk ?_ ?_ ?_ ?_ ?_
  · rw [upS_nj (by omega), upS_nj (by omega), upS_nj (by omega), upS_nj (by omega), upS_at]
  · rw [upS_nj (by omega), upS_nj (by omega), upS_nj (by omega), upS_at]
  · rw [upS_nj (by omega), upS_nj (by omega), upS_at]
  · rw [upS_nj (by omega), upS_at]
  · rw [upS_at]
/-- only the sky at n and the facts have changed -/
def fC (n : Nat) (σ σ' : Sg) : Prop := ∀ p, p ≠ n → p ≠ n + 1 → p ≠ n + 2 → p ≠ 40 → σ' p = σ p
theorem fC.tr {n : Nat} {a b c : Sg} (h : fC n a b) (g : fC n b c) : fC n a c := fun p h1 h2 h3 h4 => (g p h1 h2 h3 h4).trans (h p h1 h2 h3 h4)
theorem fC.rf (n : Nat) (σ : Sg) : fC n σ σ := fun _ _ _ _ _ => rfl
theorem rCd.facts {σ σ' : Sg} {n : Nat} (hn : isSky n) {A : Nat → Nat} {sc : Int32} (h : rCd σ n A sc) (e : ∀ p, p ≠ 40 → σ' p = σ p) : rCd σ' n A sc := by
  have hb := sky_b hn
  exact h.mono (e _ (by omega)) (e _ (by omega)) (e _ (by omega))
