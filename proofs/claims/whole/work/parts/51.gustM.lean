/-! the moor as natural numbers, laid out as the reference has it; the reference's gusts over it -/
def up1 (A : Nat → Nat) (i v : Nat) : Nat → Nat := fun j => if j = i then v else A j
theorem up1_at (A : Nat → Nat) (i v : Nat) : up1 A i v i = v := if_pos rfl
theorem up1_ne {A : Nat → Nat} {i v j : Nat} (h : j ≠ i) : up1 A i v j = A j := if_neg h
def okA (A : Nat → Nat) : Prop := (A 0 ≤ 6 ∧ 1 ≤ A 2 ∧ A 2 ≤ 16 ∧ A 3 ≤ 16 ∧ A 5 ≤ 6) ∧ (∀ g, g < 16 → A (7 + g) ≤ 15) ∧ (∀ f, f < 6 → A (23 + 2 * f) ≤ 63 ∧ A (23 + 2 * f + 1) ≤ 14) ∧
  (∀ k, k < 6 → A (35 + 6 * k + 0) ≤ 5 ∧ A (35 + 6 * k + 1) ≤ 63 ∧ A (35 + 6 * k + 2) ≤ 9 ∧ A (35 + 6 * k + 3) ≤ 5 ∧ A (35 + 6 * k + 4) ≤ 1 ∧ A (35 + 6 * k + 5) ≤ 1) ∧
  (∀ r, r < 6 → A (71 + 4 * r) ≤ 15 ∧ A (71 + 4 * r + 1) ≤ 1 ∧ A (71 + 4 * r + 2) ≤ 7 ∧ A (71 + 4 * r + 3) ≤ 7) ∧
  (∀ k, A 0 ≤ k → k < 6 → A (35 + 6 * k + 4) = 0 ∧ A (35 + 6 * k + 5) = 0)
def rM (σ : Sg) (A : Nat → Nat) : Prop := ∀ i, i < 95 → i ≠ 1 → i ≠ 4 → i ≠ 6 → σ 1 i = nI (A i)
/-- only the moor's own cells and the stack have changed -/
def sameM (σ σ' : Sg) : Prop := (∀ p, p ≠ 1 → p ≠ 4 → σ' p = σ p) ∧ (∀ i, i = 1 ∨ i = 6 ∨ 95 ≤ i → σ' 1 i = σ 1 i)
theorem sameM.rf (σ : Sg) : sameM σ σ := ⟨fun _ _ _ => rfl, fun _ _ => rfl⟩
theorem sameM.tr {a b c : Sg} (h : sameM a b) (g : sameM b c) : sameM a c := ⟨fun p h1 h2 => (g.1 p h1 h2).trans (h.1 p h1 h2), fun i hi => (g.2 i hi).trans (h.2 i hi)⟩
theorem sameM.up {σ : Sg} {i : Nat} {v : Int32} (h1 : i ≠ 1) (h6 : i ≠ 6) (h : i < 95) : sameM σ (upS σ 1 i v) :=
  ⟨fun p hp _ => upS_ne hp, fun j hj => upS_nj (by omega)⟩
theorem sameM.stk {σ σ' : Sg} (h : ∀ p, p ≠ 4 → σ' p = σ p) : sameM σ σ' := ⟨fun p _ h4 => h p h4, fun i _ => by rw [h 1 (by decide)]⟩
/-- only the kites' cells and the stack have changed -/
def kM (σ σ' : Sg) : Prop := (∀ p, p ≠ 1 → p ≠ 4 → σ' p = σ p) ∧ (∀ i, i < 35 ∨ 71 ≤ i → σ' 1 i = σ 1 i)
theorem kM.rf (σ : Sg) : kM σ σ := ⟨fun _ _ _ => rfl, fun _ _ => rfl⟩
theorem kM.tr {a b c : Sg} (h : kM a b) (g : kM b c) : kM a c := ⟨fun p h1 h2 => (g.1 p h1 h2).trans (h.1 p h1 h2), fun i hi => (g.2 i hi).trans (h.2 i hi)⟩
theorem kM.up {σ : Sg} {i : Nat} {v : Int32} (h1 : 35 ≤ i) (h : i < 71) : kM σ (upS σ 1 i v) :=
  ⟨fun p hp _ => upS_ne hp, fun j hj => upS_nj (by omega)⟩
theorem kM.stk {σ σ' : Sg} (h : ∀ p, p ≠ 4 → σ' p = σ p) : kM σ σ' := ⟨fun p _ h4 => h p h4, fun i _ => by rw [h 1 (by decide)]⟩
theorem kM.s {σ σ' : Sg} (h : kM σ σ') : sameM σ σ' := ⟨h.1, fun i hi => h.2 i (by omega)⟩
theorem rM.stk {σ σ' : Sg} {A : Nat → Nat} (h : ∀ p, p ≠ 4 → σ' p = σ p) (hr : rM σ A) : rM σ' A := fun i a b c d => by rw [h 1 (by decide)]; exact hr i a b c d
theorem rM.up {σ : Sg} {A : Nat → Nat} {i v : Nat} (h : rM σ A) : rM (upS σ 1 i (nI v)) (up1 A i v) := fun j a b c d => by
  rw [upS_ap]
  by_cases e : j = i
  · subst e; simp [up1]
  · rw [if_neg (by omega), up1_ne e]; exact h j a b c d
theorem m_at (k w : Nat) (σ : Sg) : f_X12_at (nI k) (nI w) σ = nI (35 + 6 * k + w) := by
  unfold f_X12_at
  simp only [lit, pk_mul, nI_add]
theorem m_its {σ : Sg} {A : Nat → Nat} (h : rM σ A) {k w : Nat} (hk : k < 6) (hw : w < 6) : f_X12_its (nI k) (nI w) σ = some (nI (A (35 + 6 * k + w))) := by
  unfold f_X12_its
  rw [m_at, rd_nI (by omega) (by decide), h _ (by omega) (by omega) (by omega) (by omega)]
  rfl
def farA (A : Nat → Nat) (k : Nat) : Nat := farN (A (35 + 6 * k + 1)) (A (23 + 2 * A (35 + 6 * k + 3)))
theorem m_farOf {σ : Sg} {A : Nat → Nat} (h : rM σ A) (ok : okA A) {k : Nat} (hk : k < 6) : f_X12_farOf (nI k) σ = some (nI (farA A k)) := by
  obtain ⟨-, -, hf, hkk, -⟩ := ok
  obtain ⟨-, h1, -, h3, -⟩ := hkk k hk
  have h4 := (hf _ (show A (35 + 6 * k + 3) < 6 by omega)).1
  unfold f_X12_farOf
  simp only [lit]
  rw [m_its h hk (by decide), bnd_some, m_its h hk (by decide), bnd_some, pk_mul, nI_add, rd_nI (by omega) (by decide), h _ (by omega) (by omega) (by omega) (by omega), bnd_some, m_far (by omega) (by omega)]
  rfl
def reachA (A : Nat → Nat) (k : Nat) : Prop := farA A k ≤ A (23 + 2 * A (35 + 6 * k + 3) + 1)
theorem far_b {A : Nat → Nat} (ok : okA A) {k : Nat} (hk : k < 6) : farA A k ≤ 14 := by
  obtain ⟨-, -, hf, hkk, -⟩ := ok
  obtain ⟨-, h1, -, h3, -⟩ := hkk k hk
  have h4 := (hf _ (show A (35 + 6 * k + 3) < 6 by omega)).1
  exact far_lt _ (by omega) _ (by omega)
theorem m_isReached {σ : Sg} {A : Nat → Nat} (h : rM σ A) (ok : okA A) {k : Nat} (hk : k < 6) : ∃ b, f_X12_isReached (nI k) σ = some b ∧ (b = true ↔ reachA A k) := by
  have hfb := far_b ok hk
  obtain ⟨-, -, hf, hkk, -⟩ := id ok
  obtain ⟨-, h1, -, h3, -⟩ := hkk k hk
  have h4 := (hf _ (show A (35 + 6 * k + 3) < 6 by omega)).2
  unfold f_X12_isReached
  simp only [lit]
  rw [m_farOf h ok hk, bnd_some, m_its h hk (by decide), bnd_some, pk_mul, nI_add, nI_add, rd_nI (by omega) (by decide), h _ (by omega) (by omega) (by omega) (by omega), bnd_some]
  by_cases hc : reachA A k
  · rw [if_neg (nI_nlt hc (by omega))]
    exact ⟨true, rfl, by simp [hc]⟩
  · have hc' : A (23 + 2 * A (35 + 6 * k + 3) + 1) < farA A k := Nat.not_le.mp hc
    rw [if_pos (nI_lt hc' (by omega))]
    exact ⟨false, rfl, by simp [hc]⟩
theorem m_windNow {σ : Sg} {A : Nat → Nat} (h : rM σ A) (ok : okA A) : f_X12_windNow σ = some (nI (if A 3 < 16 then A (7 + A 3) else 0)) := by
  obtain ⟨⟨-, -, -, h3, -⟩, -⟩ := ok
  unfold f_X12_windNow
  simp only [lit]
  rw [h 3 (by decide) (by decide) (by decide) (by decide)]
  by_cases hg : A 3 < 16
  · rw [if_neg (nI_ge hg (by decide)), if_pos hg, nI_add, rd_nI (by omega) (by decide), h _ (by omega) (by omega) (by omega) (by omega)]
    rfl
  · rw [if_pos (nI_le (by omega) (by omega)), if_neg hg]
def windA (A : Nat → Nat) : Nat := A (7 + A 3)
theorem wind_b {A : Nat → Nat} (ok : okA A) (hg : A 3 < 16) : windA A ≤ 15 := ok.2.1 _ hg
def driftA (A : Nat → Nat) (k : Nat) : Nat := driftN (A (35 + 6 * k + 0)) (windA A / 4) (A 3)
theorem drift_b {A : Nat → Nat} (ok : okA A) (hg : A 3 < 16) {k : Nat} (hk : k < 6) : driftA A k ≤ 6 := by
  have := wind_b ok hg
  have := (ok.2.2.2.1 k hk).1
  exact drift_le _ (by omega) _ (by omega) _ hg
theorem m_drifts {σ : Sg} {A : Nat → Nat} (h : rM σ A) (ok : okA A) (hg : A 3 < 16) {k : Nat} (hk : k < 6) : f_X12_drifts (nI k) σ = some (nI (driftA A k)) := by
  have hw := wind_b ok hg
  have hk0 := (ok.2.2.2.1 k hk).1
  unfold f_X12_drifts
  rw [m_windNow h ok, if_pos hg]
  simp only [lit]
  rw [h 3 (by decide) (by decide) (by decide) (by decide), if_neg (nI_ge hg (by decide)), m_its h hk (by decide), bnd_some, bnd_some]
  show some (f_X12_driftOf _ (nI (windA A) / nI 4) _ _) = _
  rw [pk_div (by omega) (by decide) (by decide), m_drift (by omega) (by omega) hg]
  rfl
def byA (A : Nat → Nat) (k : Nat) : Nat := roomN (A (35 + 6 * k + 1)) (windA A % 4) (min (driftA A k) (A (35 + 6 * k + 2)))
def stepK (A : Nat → Nat) (k : Nat) : Nat → Nat := if A (35 + 6 * k + 4) = 1 then up1 (up1 A (35 + 6 * k + 1) (movedN (A (35 + 6 * k + 1)) (windA A % 4) (byA A k))) (35 + 6 * k + 2) (A (35 + 6 * k + 2) - byA A k) else A
def blowsN : Nat → (Nat → Nat) → (Nat → Nat)
  | 0, A => A
  | n + 1, A => stepK (blowsN n A) n
theorem stepK_ne {A : Nat → Nat} {k j : Nat} (h1 : j ≠ 35 + 6 * k + 1) (h2 : j ≠ 35 + 6 * k + 2) : stepK A k j = A j := by
  unfold stepK
  split
  · rw [up1_ne h2, up1_ne h1]
  · rfl
theorem stepK_ok {A : Nat → Nat} (ok : okA A) (hg : A 3 < 16) {k : Nat} (hk : k < 6) : okA (stepK A k) := by
  obtain ⟨⟨a0, a2, a2', a3, a5⟩, hwd, hf, hkk, hr, hz⟩ := id ok
  have e : ∀ j, j < 35 ∨ 71 ≤ j → stepK A k j = A j := fun j hj => stepK_ne (by omega) (by omega)
  refine ⟨?_, fun g hg => by rw [e _ (by omega)]; exact hwd g hg, fun f hf' => by rw [e _ (by omega), e _ (by omega)]; exact hf f hf', fun j hj => ?_, fun r hr' => ?_, fun j h1 h2 => ?_⟩
  · rw [e _ (by omega), e _ (by omega), e _ (by omega), e _ (by omega)]; exact ⟨a0, a2, a2', a3, a5⟩
  · rw [stepK_ne (j := 35 + 6 * j + 0) (by omega) (by omega), stepK_ne (j := 35 + 6 * j + 3) (by omega) (by omega), stepK_ne (j := 35 + 6 * j + 4) (by omega) (by omega), stepK_ne (j := 35 + 6 * j + 5) (by omega) (by omega)]
    obtain ⟨b0, b1, b2, b3, b4, b5⟩ := hkk j hj
    refine ⟨b0, ?_, ?_, b3, b4, b5⟩
    · by_cases ej : j = k
      · subst ej
        unfold stepK
        split
        · rw [up1_ne (by omega), up1_at]
          have := moved_lt _ (show A (35 + 6 * j + 1) < 64 by omega) _ (Nat.mod_lt (windA A) (by decide)) (min (driftA A j) (A (35 + 6 * j + 2))) (by omega)
          unfold byA
          omega
        · exact b1
      · rw [stepK_ne (by omega) (by omega)]; exact b1
    · by_cases ej : j = k
      · subst ej
        unfold stepK
        split
        · rw [up1_at]; omega
        · exact b2
      · rw [stepK_ne (by omega) (by omega)]; exact b2
  · rw [e _ (by omega), e _ (by omega), e _ (by omega), e _ (by omega)]; exact hr r hr'
  · rw [e 0 (by omega)] at h1
    rw [stepK_ne (by omega) (by omega), stepK_ne (by omega) (by omega)]
    exact hz j h1 h2
theorem blowsN_ne {A : Nat → Nat} {j : Nat} (h : j < 35 ∨ 71 ≤ j ∨ ((j - 35) % 6 ≠ 1 ∧ (j - 35) % 6 ≠ 2)) : ∀ n, n ≤ 6 → blowsN n A j = A j
  | 0, _ => rfl
  | n + 1, hn => (stepK_ne (A := blowsN n A) (k := n) (by omega) (by omega)).trans (blowsN_ne h n (by omega))
theorem blowsN_hi {A : Nat → Nat} {k : Nat} : ∀ n, n ≤ k → ∀ w, w < 6 → blowsN n A (35 + 6 * k + w) = A (35 + 6 * k + w)
  | 0, _, _, _ => rfl
  | n + 1, hn, w, hw => (stepK_ne (A := blowsN n A) (k := n) (by omega) (by omega)).trans (blowsN_hi n (by omega) w hw)
theorem blowsN_ok {A : Nat → Nat} (ok : okA A) (hg : A 3 < 16) : ∀ n, n ≤ 6 → okA (blowsN n A)
  | 0, _ => ok
  | n + 1, hn => stepK_ok (blowsN_ok ok hg n (by omega)) (by rw [blowsN_ne (by omega) n (by omega)]; exact hg) (by omega)
/-- the loop of blows() -/
theorem m_blows_l {A : Nat → Nat} (ok : okA A) (hg : A 3 < 16) : ∀ (d k n : Nat) (σ : Sg), k + d = A 0 → d < n → rM σ (blowsN k A) → ∃ σ', f_X12_blows_l19 (nI (windA A % 4)) n (nI k) σ = some σ' ∧ rM σ' (blowsN (A 0) A) ∧ kM σ σ'
  | d, k, 0, σ, _, h, _ => absurd h (by omega)
  | d, k, n + 1, σ, hd, hn, hr => by
    have hm := ok.1.1
    have h0 : σ 1 0 = nI (A 0) := by rw [hr 0 (by decide) (by decide) (by decide) (by decide), blowsN_ne (by omega) k (by omega)]
    show ∃ σ', f_X12_blows_b19 (f_X12_blows_l19 (nI (windA A % 4)) n) (nI (windA A % 4)) (nI k) σ = some σ' ∧ _
    unfold f_X12_blows_b19
    rw [h0]
    cases d with
    | zero =>
      rw [if_pos (nI_le (by omega) (by omega))]
      exact ⟨σ, rfl, by rw [← hd]; exact hr, kM.rf σ⟩
    | succ d =>
      have hk : k < 6 := by omega
      rw [if_neg (nI_ge (by omega) (by omega))]
      simp only [lit]
      have okb := blowsN_ok ok hg k (by omega)
      have eA : ∀ w, w < 6 → blowsN k A (35 + 6 * k + w) = A (35 + 6 * k + w) := blowsN_hi k (Nat.le_refl _)
      have e3 : blowsN k A 3 = A 3 := blowsN_ne (by omega) k (by omega)
      have eW : windA (blowsN k A) = windA A := by unfold windA; rw [e3, blowsN_ne (by omega) k (by omega)]
      have hgb : blowsN k A 3 < 16 := by rw [e3]; exact hg
      have b4 := (okb.2.2.2.1 k hk).2.2.2.2.1
      rw [m_its hr hk (by decide), bnd_some]
      have next : ∀ σ2 : Sg, rM σ2 (blowsN (k + 1) A) → kM σ σ2 → ∃ σ', f_X12_blows_l19 (nI (windA A % 4)) n (nI k + nI 1) σ2 = some σ' ∧ rM σ' (blowsN (A 0) A) ∧ kM σ σ' := fun σ2 h2 s2 => by
        rw [nI_add]
        obtain ⟨σ', p1, p2, p3⟩ := m_blows_l ok hg d (k + 1) n σ2 (by omega) (by omega) h2
        exact ⟨σ', p1, p2, s2.tr p3⟩
      by_cases ha : blowsN k A (35 + 6 * k + 4) = 1
      · rw [ha, if_neg (by decide), m_drifts hr okb hgb hk, bnd_some, m_its hr hk (by decide), bnd_some]
        have b67 : ∀ t, t = min (driftA (blowsN k A) k) (blowsN k A (35 + 6 * k + 2)) → ∃ σ', f_X12_blows_b67 (f_X12_blows_l19 (nI (windA A % 4)) n) (nI (windA A % 4)) (nI k) (nI t) σ = some σ' ∧ rM σ' (blowsN (A 0) A) ∧ kM σ σ' := by
          intro t ht
          have hdb := drift_b okb hgb hk
          obtain ⟨c0, c1, c2, -⟩ := okb.2.2.2.1 k hk
          unfold f_X12_blows_b67
          simp only [lit]
          rw [m_its hr hk (by decide), bnd_some, lt_ap, m_room (by omega) (Nat.mod_lt _ (by decide)) (by omega), bnd_some, m_moved (by omega) (Nat.mod_lt _ (by decide)) (by omega), m_at, wr_nI (by omega) (by decide), bnd_some, m_at, rd_nI (by omega) (by decide), bnd_some]
          rw [upS_nj (by omega), hr _ (by omega) (by omega) (by omega) (by omega), pk_sub (by have := room_le (blowsN k A (35 + 6 * k + 1)) (windA A % 4) t; omega), wr_nI (by omega) (by decide), bnd_some]
          have est : blowsN (k + 1) A = up1 (up1 (blowsN k A) (35 + 6 * k + 1) (movedN (blowsN k A (35 + 6 * k + 1)) (windA A % 4) (roomN (blowsN k A (35 + 6 * k + 1)) (windA A % 4) t))) (35 + 6 * k + 2) (blowsN k A (35 + 6 * k + 2) - roomN (blowsN k A (35 + 6 * k + 1)) (windA A % 4) t) := by
            show stepK (blowsN k A) k = _
            unfold stepK byA
            rw [if_pos ha, eW, ← ht]
          refine next _ ?_ ((kM.up (by omega) (by omega)).tr (kM.up (by omega) (by omega)))
          rw [est]
          exact rM.up (rM.up hr)
        by_cases hc : driftA (blowsN k A) k < blowsN k A (35 + 6 * k + 2)
        · rw [if_neg (nI_ge hc (by have := (okb.2.2.2.1 k hk).2.2.1; omega)), bnd_some]
          exact b67 _ (by omega)
        · rw [if_pos (nI_le (by omega) (by have := drift_b okb hgb hk; omega)), bnd_some]
          exact b67 _ (by omega)
      · have ha0 : blowsN k A (35 + 6 * k + 4) = 0 := by omega
        rw [ha0, if_pos (by decide)]
        refine next σ ?_ (kM.rf σ)
        show rM σ (stepK (blowsN k A) k)
        unfold stepK
        rw [if_neg ha]
        exact hr
theorem m_blows {σ : Sg} {A : Nat → Nat} (h : rM σ A) (ok : okA A) (hg : A 3 < 16) : ∃ σ', f_X12_blows σ = some σ' ∧ rM σ' (blowsN (A 0) A) ∧ kM σ σ' := by
  have hw := wind_b ok hg
  have hm := ok.1.1
  unfold f_X12_blows
  simp only [lit]
  rw [h 3 (by decide) (by decide) (by decide) (by decide), nI_add, rd_nI (by omega) (by decide), h _ (by omega) (by omega) (by omega) (by omega), bnd_some, lt_ap]
  show ∃ σ', f_X12_blows_l19 (rem32 (nI (windA A)) (nI 4)) 400 (nI 0) σ = some σ' ∧ _
  unfold rem32
  rw [pk_rem (by omega) (by decide) (by decide)]
  exact m_blows_l ok hg (A 0) 0 400 σ (by omega) (by omega) h

/-! telling -/
def gustA (A : Nat → Nat) : Nat → Nat := blowsN (A 0) A
/-- the least kite aloft within reach, from k on: its number and 1 more -/
def chosenN (A : Nat → Nat) : Nat → Nat → Nat
  | 0, _ => 0
  | d + 1, k => if A (35 + 6 * k + 4) = 1 ∧ farA A k ≤ A (23 + 2 * A (35 + 6 * k + 3) + 1) then k + 1 else chosenN A d (k + 1)
def chosenA (A : Nat → Nat) : Nat := chosenN A (A 0) 0
theorem chosen_le (A : Nat → Nat) : ∀ d k, chosenN A d k = 0 ∨ (k < chosenN A d k ∧ chosenN A d k ≤ k + d)
  | 0, k => Or.inl rfl
  | d + 1, k => by
    unfold chosenN
    split
    · omega
    · have := chosen_le A d (k + 1)
      omega
theorem m_chosen_l {σ : Sg} {A : Nat → Nat} (h : rM σ A) (ok : okA A) : ∀ (d k n : Nat), k + d = A 0 → d < n → f_X12_chosen_l2 σ n (nI k) = some (nI (chosenN A d k))
  | d, k, 0, _, hn => absurd hn (by omega)
  | d, k, n + 1, hd, hn => by
    have hm := ok.1.1
    show f_X12_chosen_b2 (f_X12_chosen_l2 σ n) σ (nI k) = _
    unfold f_X12_chosen_b2
    rw [h 0 (by decide) (by decide) (by decide) (by decide)]
    simp only [lit]
    cases d with
    | zero => rw [if_pos (nI_le (by omega) (by omega))]; rfl
    | succ d =>
      have hk : k < 6 := by omega
      have ih := m_chosen_l h ok d (k + 1) n (by omega) (by omega)
      have b4 := (ok.2.2.2.1 k hk).2.2.2.2.1
      rw [if_neg (nI_ge (by omega) (by omega)), m_its h hk (by decide), bnd_some, nI_add]
      unfold chosenN
      by_cases ha : A (35 + 6 * k + 4) = 1
      · rw [ha, if_neg (by decide)]
        obtain ⟨b, e1, e2⟩ := m_isReached h ok hk
        rw [e1, bnd_some]
        by_cases hc : farA A k ≤ A (23 + 2 * A (35 + 6 * k + 3) + 1)
        · rw [if_pos (e2.mpr hc), if_pos ⟨rfl, hc⟩]
        · rw [if_neg (fun q => hc (e2.mp q)), if_neg (fun q => hc q.2)]
          exact ih
      · have ha0 : A (35 + 6 * k + 4) = 0 := by omega
        rw [ha0, if_pos (by decide), if_neg (by omega)]
        exact ih
theorem m_chosen {σ : Sg} {A : Nat → Nat} (h : rM σ A) (ok : okA A) : f_X12_chosen σ = some (nI (chosenA A)) := by
  have hm := ok.1.1
  unfold f_X12_chosen
  simp only [lit]
  exact m_chosen_l h ok (A 0) 0 400 (by omega) (by omega)
theorem m_fee {σ : Sg} {A : Nat → Nat} (h : rM σ A) (ok : okA A) {k : Nat} (hk : k < 6) : f_X12_fee (nI k) σ = some (nI (feeN (A (35 + 6 * k + 0)) k)) := by
  have hk0 := (ok.2.2.2.1 k hk).1
  unfold f_X12_fee
  simp only [lit]
  rw [m_its h hk (by decide), bnd_some]
  generalize A (35 + 6 * k + 0) = c at hk0
  have key : ∀ c, c < 6 → ∀ k, k < 6 → (if nI c = nI 1 then some (nI 6) else if nI c = nI 2 then some (nI 4 + nI k) else if nI c = nI 3 then some (nI 8 + nI 2 * nI k) else if nI c = nI 4 then some (nI 3) else if nI c = nI 5 then some (nI 1) else some (nI 4)) = some (nI (feeN c k)) := by decide +kernel
  exact key c (by omega) k hk
abbrev WT : Type := Nat → Nat → Nat → Nat → Nat → Nat → Nat
def willA (W : WT) (A : Nat → Nat) (k : Nat) : Nat := W (A (35 + 6 * k + 0)) (A 3) (A (35 + 6 * k + 2)) (farA A k) (A (35 + 6 * k + 3)) k
def okW (W : WT) : Prop := ∀ a b c d e k, W a b c d e k ≤ 2
/-- two states hold the same rules -/
def eqM (σ σ' : Sg) : Prop := ∀ i, (i = 1 ∨ 95 ≤ i) → i < 319 → σ' 1 i = σ 1 i
theorem eqM.tr {a b c : Sg} (h : eqM a b) (g : eqM b c) : eqM a c := fun i hi hl => (g i hi hl).trans (h i hi hl)
theorem sameM.e {σ σ' : Sg} (h : sameM σ σ') : eqM σ σ' := fun i hi _ => h.2 i (by omega)
/-- the rules that the reference holds are W -/
def rulM (σ : Sg) (W : WT) : Prop := ∀ σ', eqM σ σ' → ∀ A, rM σ' A → okA A → ∀ k, k < 6 → ∃ σ2, f_X12_will (nI k) σ' = some (nI (willA W A k), σ2) ∧ ∀ p, p ≠ 4 → σ2 p = σ' p
theorem rulM.eq {σ σ' : Sg} {W : WT} (h : rulM σ W) (e : eqM σ σ') : rulM σ' W := fun σ2 s2 => h σ2 (e.tr s2)
theorem rulM.mono {σ σ' : Sg} {W : WT} (h : rulM σ W) (s : sameM σ σ') : rulM σ' W := h.eq s.e
/-- kite k, aloft, is told: what that is worth, and the moor then -/
def toldA (W : WT) (A : Nat → Nat) (k : Nat) : Nat × (Nat → Nat) :=
  let B := up1 A (35 + 6 * k + 4) (if willA W A k = 1 then 1 else 0)
  if willA W A k = 0 ∧ farA A k ≤ A (23 + 2 * A (35 + 6 * k + 3) + 1) then (feeN (A (35 + 6 * k + 0)) k + (9 - farA A k), up1 B (35 + 6 * k + 5) 1) else (if willA W A k = 2 then 1 else 0, B)
theorem told_a {W : WT} {A : Nat → Nat} {k : Nat} (q : willA W A k = 0) (hc : farA A k ≤ A (23 + 2 * A (35 + 6 * k + 3) + 1)) : toldA W A k = (feeN (A (35 + 6 * k + 0)) k + (9 - farA A k), up1 (up1 A (35 + 6 * k + 4) 0) (35 + 6 * k + 5) 1) := by
  unfold toldA
  dsimp only
  rw [if_pos (show willA W A k = 0 ∧ farA A k ≤ A (23 + 2 * A (35 + 6 * k + 3) + 1) from ⟨q, hc⟩), if_neg (show ¬ willA W A k = 1 from by omega)]
theorem told_b {W : WT} {A : Nat → Nat} {k : Nat} (q : ¬ (willA W A k = 0 ∧ farA A k ≤ A (23 + 2 * A (35 + 6 * k + 3) + 1))) : toldA W A k = (if willA W A k = 2 then 1 else 0, up1 A (35 + 6 * k + 4) (if willA W A k = 1 then 1 else 0)) := by
  unfold toldA
  dsimp only
  rw [if_neg q]
theorem farA_up {A : Nat → Nat} {i v k : Nat} (h1 : i ≠ 35 + 6 * k + 1) (h3 : i ≠ 35 + 6 * k + 3) (h : 35 ≤ i) (ok : okA A) (hk : k < 6) : farA (up1 A i v) k = farA A k := by
  have := (ok.2.2.2.1 k hk).2.2.2.1
  unfold farA
  rw [up1_ne (Ne.symm h1), up1_ne (Ne.symm h3), up1_ne (by omega)]
theorem okA_al {A : Nat → Nat} (ok : okA A) {k v : Nat} (hk : k < A 0) (hv : v ≤ 1) : okA (up1 A (35 + 6 * k + 4) v) := by
  obtain ⟨⟨a0, a2, a2', a3, a5⟩, hwd, hf, hkk, hr, hz⟩ := id ok
  have e : ∀ j, j < 35 ∨ 71 ≤ j → up1 A (35 + 6 * k + 4) v j = A j := fun j hj => up1_ne (by omega)
  refine ⟨?_, fun g hg => by rw [e _ (by omega)]; exact hwd g hg, fun f hf' => by rw [e _ (by omega), e _ (by omega)]; exact hf f hf', fun j hj => ?_, fun r hr' => ?_, fun j h1 h2 => ?_⟩
  · rw [e _ (by omega), e _ (by omega), e _ (by omega), e _ (by omega)]; exact ⟨a0, a2, a2', a3, a5⟩
  · obtain ⟨b0, b1, b2, b3, b4, b5⟩ := hkk j hj
    rw [up1_ne (j := 35 + 6 * j + 0) (by omega), up1_ne (j := 35 + 6 * j + 1) (by omega), up1_ne (j := 35 + 6 * j + 2) (by omega), up1_ne (j := 35 + 6 * j + 3) (by omega), up1_ne (j := 35 + 6 * j + 5) (by omega)]
    refine ⟨b0, b1, b2, b3, ?_, b5⟩
    unfold up1
    split
    · exact hv
    · exact b4
  · rw [e _ (by omega), e _ (by omega), e _ (by omega), e _ (by omega)]; exact hr r hr'
  · rw [e 0 (by omega)] at h1
    rw [up1_ne (by omega), up1_ne (by omega)]
    exact hz j h1 h2
theorem okA_sv {A : Nat → Nat} (ok : okA A) {k v : Nat} (hk : k < A 0) (hv : v ≤ 1) : okA (up1 A (35 + 6 * k + 5) v) := by
  obtain ⟨⟨a0, a2, a2', a3, a5⟩, hwd, hf, hkk, hr, hz⟩ := id ok
  have e : ∀ j, j < 35 ∨ 71 ≤ j → up1 A (35 + 6 * k + 5) v j = A j := fun j hj => up1_ne (by omega)
  refine ⟨?_, fun g hg => by rw [e _ (by omega)]; exact hwd g hg, fun f hf' => by rw [e _ (by omega), e _ (by omega)]; exact hf f hf', fun j hj => ?_, fun r hr' => ?_, fun j h1 h2 => ?_⟩
  · rw [e _ (by omega), e _ (by omega), e _ (by omega), e _ (by omega)]; exact ⟨a0, a2, a2', a3, a5⟩
  · obtain ⟨b0, b1, b2, b3, b4, b5⟩ := hkk j hj
    rw [up1_ne (j := 35 + 6 * j + 0) (by omega), up1_ne (j := 35 + 6 * j + 1) (by omega), up1_ne (j := 35 + 6 * j + 2) (by omega), up1_ne (j := 35 + 6 * j + 3) (by omega), up1_ne (j := 35 + 6 * j + 4) (by omega)]
    refine ⟨b0, b1, b2, b3, b4, ?_⟩
    unfold up1
    split
    · exact hv
    · exact b5
  · rw [e _ (by omega), e _ (by omega), e _ (by omega), e _ (by omega)]; exact hr r hr'
  · rw [e 0 (by omega)] at h1
    rw [up1_ne (by omega), up1_ne (by omega)]
    exact hz j h1 h2

theorem m_isTold {σ : Sg} {A : Nat → Nat} {W : WT} (h : rM σ A) (ok : okA A) (hw : okW W) (hW : rulM σ W) {k : Nat} (hk : k < A 0) : ∃ σ', f_X12_isTold (nI k) σ = some (nI (toldA W A k).1, σ') ∧ rM σ' (toldA W A k).2 ∧ okA (toldA W A k).2 ∧ kM σ σ' := by
  have hm := ok.1.1
  have hk6 : k < 6 := by omega
  obtain ⟨σ2, e1, e2⟩ := hW σ (sameM.rf σ).e A h ok k hk6
  have hwb : willA W A k ≤ 2 := hw _ _ _ _ _ _
  have h2 : rM σ2 A := h.stk e2
  have s2 : kM σ σ2 := kM.stk e2
  have hfb := far_b ok hk6
  have hfe := fee_le _ (show A (35 + 6 * k + 0) < 6 by have := (ok.2.2.2.1 k hk6).1; omega) _ hk6
  unfold f_X12_isTold
  simp only [lit]
  rw [e1, bd2_some, m_at]
  have b38 : ∀ σ3 : Sg, f_X12_isTold_b38 (nI (willA W A k)) σ3 = some (nI (if willA W A k = 2 then 1 else 0), σ3) := fun σ3 => by
    unfold f_X12_isTold_b38
    simp only [lit]
    by_cases q : willA W A k = 2
    · rw [q, if_neg (by decide), if_pos rfl]
    · rw [if_pos (fun z => q ((nI_eq (by omega) (by decide)).mp z)), if_neg q]
  have b25 : ∀ v, v ≤ 1 → v = (if willA W A k = 1 then 1 else 0) → ∃ σ', f_X12_isTold_b25 (nI k) (nI (willA W A k)) (nI (35 + 6 * k + 4)) (nI v) σ2 = some (nI (toldA W A k).1, σ') ∧ rM σ' (toldA W A k).2 ∧ okA (toldA W A k).2 ∧ kM σ σ' := by
    intro v hv ev
    unfold f_X12_isTold_b25
    simp only [lit]
    rw [wr_nI (by omega) (by decide), bnd_some, b38]
    have h3 : rM (upS σ2 1 (35 + 6 * k + 4) (nI v)) (up1 A (35 + 6 * k + 4) v) := rM.up h2
    have ok3 : okA (up1 A (35 + 6 * k + 4) v) := okA_al ok hk hv
    have s3 : kM σ (upS σ2 1 (35 + 6 * k + 4) (nI v)) := s2.tr (kM.up (by omega) (by omega))
    have ef : farA (up1 A (35 + 6 * k + 4) v) k = farA A k := farA_up (by omega) (by omega) (by omega) ok hk6
    have er : up1 A (35 + 6 * k + 4) v (23 + 2 * up1 A (35 + 6 * k + 4) v (35 + 6 * k + 3) + 1) = A (23 + 2 * A (35 + 6 * k + 3) + 1) := by
      have := (ok.2.2.2.1 k hk6).2.2.2.1
      rw [up1_ne (j := 35 + 6 * k + 3) (by omega), up1_ne (by omega)]
    have ek : up1 A (35 + 6 * k + 4) v (35 + 6 * k + 0) = A (35 + 6 * k + 0) := up1_ne (by omega)
    by_cases q : willA W A k = 0
    · rw [q, if_neg (by decide)]
      have ev0 : v = 0 := by rw [ev, if_neg (by omega)]
      subst ev0
      obtain ⟨b, r1, r2⟩ := m_isReached h3 ok3 hk6
      rw [r1, bnd_some]
      unfold reachA at r2
      rw [ef, er] at r2
      by_cases hc : farA A k ≤ A (23 + 2 * A (35 + 6 * k + 3) + 1)
      · rw [if_pos (r2.mpr hc), told_a q hc, m_at, wr_nI (by omega) (by decide), bnd_some]
        have h5 : rM (upS (upS σ2 1 (35 + 6 * k + 4) (nI 0)) 1 (35 + 6 * k + 5) (nI 1)) (up1 (up1 A (35 + 6 * k + 4) 0) (35 + 6 * k + 5) 1) := rM.up h3
        have ok5 : okA (up1 (up1 A (35 + 6 * k + 4) 0) (35 + 6 * k + 5) 1) := okA_sv ok3 (by rw [up1_ne (by omega)]; exact hk) (by decide)
        have ef5 : farA (up1 (up1 A (35 + 6 * k + 4) 0) (35 + 6 * k + 5) 1) k = farA A k := (farA_up (by omega) (by omega) (by omega) ok3 hk6).trans ef
        have ek5 : up1 (up1 A (35 + 6 * k + 4) 0) (35 + 6 * k + 5) 1 (35 + 6 * k + 0) = A (35 + 6 * k + 0) := (up1_ne (by omega)).trans ek
        rw [m_fee h5 ok5 hk6, bnd_some, m_farOf h5 ok5 hk6, bnd_some, ef5, ek5]
        refine ⟨_, ?_, h5, ok5, s3.tr (kM.up (by omega) (by omega))⟩
        by_cases h9 : 9 ≤ farA A k
        · rw [if_pos (nI_le h9 (by omega)), nI_add, show 9 - farA A k = 0 by omega]
        · rw [if_neg (nI_ge (by omega) (by omega)), bnd_some, pk_sub (by omega), nI_add]
      · rw [if_neg (fun z => hc (r2.mp z)), told_b (fun z => hc z.2), ← ev, q]
        exact ⟨_, rfl, h3, ok3, s3⟩
    · rw [if_pos (fun z => q ((nI_eq (by omega) (by decide)).mp z)), told_b (fun z => q z.1), ← ev]
      exact ⟨_, rfl, h3, ok3, s3⟩
  by_cases q : willA W A k = 1
  · rw [if_neg (by rw [q]; decide)]
    exact b25 1 (by decide) (by rw [if_pos q])
  · rw [if_pos (fun z => q ((nI_eq (by omega) (by decide)).mp z))]
    exact b25 0 (by decide) (by rw [if_neg q])
/-- a gust goes by, with this act (0: none): what it is worth, and the moor then -/
def goesA (W : WT) (A : Nat → Nat) (act : Nat) : Nat × (Nat → Nat) :=
  let B := gustA A
  let T := if act = 0 then (0, B) else if B (35 + 6 * (act - 1) + 4) = 1 then toldA W B (act - 1) else (0, B)
  (T.1, up1 T.2 3 (A 3 + 1))
theorem goes_0 (W : WT) (A : Nat → Nat) : goesA W A 0 = (0, up1 (gustA A) 3 (A 3 + 1)) := rfl
theorem goes_a {W : WT} {A : Nat → Nat} {act : Nat} (h0 : ¬ act = 0) (h : gustA A (35 + 6 * (act - 1) + 4) = 1) : goesA W A act = ((toldA W (gustA A) (act - 1)).1, up1 (toldA W (gustA A) (act - 1)).2 3 (A 3 + 1)) := by
  unfold goesA
  dsimp only
  rw [if_neg h0, if_pos h]
theorem goes_b {W : WT} {A : Nat → Nat} {act : Nat} (h0 : ¬ act = 0) (h : ¬ gustA A (35 + 6 * (act - 1) + 4) = 1) : goesA W A act = (0, up1 (gustA A) 3 (A 3 + 1)) := by
  unfold goesA
  dsimp only
  rw [if_neg h0, if_neg h]
def restA (W : WT) (A : Nat → Nat) : Nat × (Nat → Nat) := goesA W A (chosenA (gustA A))
theorem gust_ok {A : Nat → Nat} (ok : okA A) (hg : A 3 < 16) : okA (gustA A) := blowsN_ok ok hg _ ok.1.1
theorem gust_ne {A : Nat → Nat} (ok : okA A) {j : Nat} (h : j < 35 ∨ 71 ≤ j ∨ ((j - 35) % 6 ≠ 1 ∧ (j - 35) % 6 ≠ 2)) : gustA A j = A j := blowsN_ne h _ ok.1.1
theorem okA_g {A : Nat → Nat} (ok : okA A) {g : Nat} (hg : g ≤ 16) : okA (up1 A 3 g) := by
  obtain ⟨⟨a0, a2, a2', a3, a5⟩, hwd, hf, hkk, hr, hz⟩ := id ok
  have e : ∀ j, j ≠ 3 → up1 A 3 g j = A j := fun j hj => up1_ne hj
  refine ⟨?_, fun g hg => by rw [e _ (by omega)]; exact hwd g hg, fun f hf' => by rw [e _ (by omega), e _ (by omega)]; exact hf f hf', fun j hj => ?_, fun r hr' => ?_, fun j h1 h2 => ?_⟩
  · rw [e 0 (by omega), e 2 (by omega), e 5 (by omega), up1_at]; exact ⟨a0, a2, a2', hg, a5⟩
  · rw [e _ (by omega), e _ (by omega), e _ (by omega), e _ (by omega), e _ (by omega), e _ (by omega)]; exact hkk j hj
  · rw [e _ (by omega), e _ (by omega), e _ (by omega), e _ (by omega)]; exact hr r hr'
  · rw [e 0 (by omega)] at h1
    rw [e _ (by omega), e _ (by omega)]
    exact hz j h1 h2
theorem told_ne {W : WT} {A : Nat → Nat} {k j : Nat} (h : j < 35 ∨ 71 ≤ j ∨ ((j - 35) % 6 ≠ 4 ∧ (j - 35) % 6 ≠ 5)) (hk : k < 6) : (toldA W A k).2 j = A j := by
  unfold toldA
  dsimp only
  split
  · show up1 _ _ _ j = _
    rw [up1_ne (by omega), up1_ne (by omega)]
  · show up1 _ _ _ j = _
    rw [up1_ne (by omega)]
theorem goes_ne {W : WT} {A : Nat → Nat} (ok : okA A) {act j : Nat} (ha : act ≤ A 0) (h : (j < 35 ∧ j ≠ 3) ∨ 71 ≤ j ∨ (35 ≤ j ∧ ((j - 35) % 6 = 0 ∨ (j - 35) % 6 = 3))) : (goesA W A act).2 j = A j := by
  have hm := ok.1.1
  by_cases h0 : act = 0
  · subst h0
    rw [goes_0]
    exact (up1_ne (by omega)).trans (gust_ne ok (by omega))
  · by_cases h4 : gustA A (35 + 6 * (act - 1) + 4) = 1
    · rw [goes_a h0 h4]
      exact (up1_ne (by omega)).trans ((told_ne (by omega) (by omega)).trans (gust_ne ok (by omega)))
    · rw [goes_b h0 h4]
      exact (up1_ne (by omega)).trans (gust_ne ok (by omega))
theorem goes_3 (W : WT) (A : Nat → Nat) (act : Nat) : (goesA W A act).2 3 = A 3 + 1 := by
  unfold goesA
  dsimp only
  exact up1_at _ _ _
theorem m_goes_t {σ σ1 : Sg} {A : Nat → Nat} {W : WT} (ok : okA A) (hg : A 3 < 16) (hw : okW W) (hW : rulM σ W) (h : rM σ1 (gustA A)) (s1 : kM σ σ1) {act : Nat} (ha : act ≤ A 0) :
    ∃ σ', f_X12_goes_b17 (nI act) σ1 = some (nI (goesA W A act).1, σ') ∧ rM σ' (goesA W A act).2 ∧ okA (goesA W A act).2 ∧ sameM σ σ' ∧ σ' 1 4 = σ 1 4 + nI (goesA W A act).1 := by
  have hm := ok.1.1
  have okB := gust_ok ok hg
  have e3 : gustA A 3 = A 3 := gust_ne ok (by omega)
  have e0 : gustA A 0 = A 0 := gust_ne ok (by omega)
  have last : ∀ (w : Nat) (σ5 : Sg) (B : Nat → Nat), rM σ5 B → okA B → B 3 = A 3 → kM σ σ5 → ∃ σ', f_X12_goes_b45 (nI w) σ5 = some (nI w, σ') ∧ rM σ' (up1 B 3 (A 3 + 1)) ∧ okA (up1 B 3 (A 3 + 1)) ∧ sameM σ σ' ∧ σ' 1 4 = σ 1 4 + nI w := by
    intro w σ5 B h5 ok5 e5 s5
    unfold f_X12_goes_b45
    rw [lt_ap, lt_ap, upS_nj (by omega), h5 3 (by decide) (by decide) (by decide) (by decide), e5]
    simp only [lit, nI_add]
    refine ⟨_, rfl, ?_, okA_g ok5 (by omega), s5.s.tr ((sameM.up (by decide) (by decide) (by decide)).tr (sameM.up (by decide) (by decide) (by decide))), ?_⟩
    · refine rM.up (fun i a b c d => ?_)
      rw [upS_nj (by omega)]
      exact h5 i a b c d
    · rw [upS_nj (by omega), upS_at, s5.2 4 (by decide)]
  unfold f_X12_goes_b17
  simp only [lit]
  by_cases h0 : act = 0
  · subst h0
    rw [if_pos (by decide), goes_0]
    exact last 0 σ1 _ h okB e3 s1
  · have e1 : nI act - nI 1 = nI (act - 1) := pk_sub (by omega)
    have b4 := (okB.2.2.2.1 (act - 1) (by omega)).2.2.2.2.1
    rw [if_neg (nI_ge (a := 0) (by omega) (by omega)), e1, m_its h (by omega) (by decide), bnd_some]
    by_cases ha4 : gustA A (35 + 6 * (act - 1) + 4) = 1
    · rw [goes_a h0 ha4, ha4, if_neg (by decide)]
      obtain ⟨σ5, r1, r2, r3, r4⟩ := m_isTold h okB hw (hW.mono s1.s) (k := act - 1) (by omega)
      rw [r1, bd2_some]
      exact last _ σ5 _ r2 r3 (by rw [told_ne (by omega) (by omega)]; exact e3) (s1.tr r4)
    · have ha0 : gustA A (35 + 6 * (act - 1) + 4) = 0 := by omega
      rw [goes_b h0 ha4, ha0, if_pos (by decide)]
      exact last 0 σ1 _ h okB e3 s1
theorem m_goes {σ : Sg} {A : Nat → Nat} {W : WT} (h : rM σ A) (ok : okA A) (hg : A 3 < 16) (hw : okW W) (hW : rulM σ W) {act : Nat} (ha : act ≤ A 0) :
    ∃ σ', f_X12_goes (nI act) σ = some (nI (goesA W A act).1, σ') ∧ rM σ' (goesA W A act).2 ∧ okA (goesA W A act).2 ∧ sameM σ σ' ∧ σ' 1 4 = σ 1 4 + nI (goesA W A act).1 := by
  have hm := ok.1.1
  obtain ⟨σ1, p1, p2, p3⟩ := m_blows h ok hg
  unfold f_X12_goes
  rw [p1, bnd_some]
  have hne : ¬ nI act = -1 := fun z => by
    have := congrArg Int32.toInt z
    rw [nI_toInt (by omega)] at this
    exact absurd this (by have : (-1 : Int32).toInt = -1 := rfl; omega)
  rw [if_pos hne]
  exact m_goes_t ok hg hw hW p2 p3 ha
theorem chosen_b {A : Nat → Nat} (ok : okA A) : chosenA (gustA A) ≤ A 0 := by
  have e0 : gustA A 0 = A 0 := gust_ne ok (by omega)
  have := chosen_le (gustA A) (gustA A 0) 0
  unfold chosenA
  omega
theorem m_goesR {σ : Sg} {A : Nat → Nat} {W : WT} (h : rM σ A) (ok : okA A) (hg : A 3 < 16) (hw : okW W) (hW : rulM σ W) :
    ∃ σ', f_X12_goes (-1) σ = some (nI (restA W A).1, σ') ∧ rM σ' (restA W A).2 ∧ okA (restA W A).2 ∧ sameM σ σ' ∧ σ' 1 4 = σ 1 4 + nI (restA W A).1 := by
  obtain ⟨σ1, p1, p2, p3⟩ := m_blows h ok hg
  unfold f_X12_goes
  rw [p1, bnd_some, if_neg (by decide)]
  have e := m_chosen (σ := σ1) (A := gustA A) p2 (gust_ok ok hg)
  rw [e, bnd_some]
  exact m_goes_t ok hg hw hW p2 p3 (chosen_b ok)
