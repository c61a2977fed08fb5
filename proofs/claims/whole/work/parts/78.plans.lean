/-! plans: laid by and taken back, and the tree -/
theorem m_its0 {σ : Sg} {k w : Nat} (hk : k < 6) (hw : w < 6) : f_X12_its (nI k) (nI w) σ = some (σ 1 (35 + 6 * k + w)) := by
  unfold f_X12_its
  rw [m_at, rd_nI (by omega) (by decide)]
  rfl
/-- what the reference has laid by at a depth -/
def svd (d n : Nat) (σ σ' : Sg) : Prop := ∀ k, k < n → σ' 5 (26 * d + k) = σ 1 (35 + 6 * k + 1) ∧ σ' 5 (26 * d + 6 + k) = σ 1 (35 + 6 * k + 2) ∧ σ' 5 (26 * d + 12 + k) = σ 1 (35 + 6 * k + 4) ∧ σ' 5 (26 * d + 18 + k) = σ 1 (35 + 6 * k + 5)
theorem m_saves_l {d : Nat} (hd4 : d < 4) : ∀ (j k n : Nat) (σ0 σ : Sg), k + j = 6 → j < n → (∀ p, p ≠ 5 → σ p = σ0 p) → svd d k σ0 σ → (∀ i, i < 26 * d → σ 5 i = σ0 5 i) →
    ∃ σ', f_X12_saves_l2 (nI d) n (nI k) σ = some σ' ∧ (∀ p, p ≠ 5 → σ' p = σ0 p) ∧ svd d 6 σ0 σ' ∧ σ' 5 (26 * d + 24) = σ0 1 3 ∧ σ' 5 (26 * d + 25) = σ0 1 4 ∧ ∀ i, i < 26 * d → σ' 5 i = σ0 5 i
  | j, k, 0, σ0, σ, _, h, _, _, _ => absurd h (by omega)
  | j, k, n + 1, σ0, σ, hj, hn, hp, hs, hl => by
    show ∃ σ', f_X12_saves_b2 (f_X12_saves_l2 (nI d) n) (nI d) (nI k) σ = some σ' ∧ _
    unfold f_X12_saves_b2
    simp only [lit]
    cases j with
    | zero =>
      have ek : k = 6 := by omega
      subst ek
      rw [if_pos (nI_le (by omega) (by omega)), pk_mul, nI_add, wr_nI (by omega) (by decide), bnd_some, nI_add, wr_nI (by omega) (by decide), bnd_some, upS_ne (q := 1) (by decide), hp 1 (by decide)]
      refine ⟨_, rfl, fun p h => by rw [upS_ne h, upS_ne h]; exact hp p h, fun i hi => ?_, by rw [upS_nj (by omega), upS_at], by rw [upS_at], fun i hi => by rw [upS_nj (by omega), upS_nj (by omega)]; exact hl i hi⟩
      obtain ⟨s1, s2, s3, s4⟩ := hs i hi
      rw [upS_nj (by omega), upS_nj (by omega), upS_nj (by omega), upS_nj (by omega), upS_nj (by omega), upS_nj (by omega), upS_nj (by omega), upS_nj (by omega)]
      exact ⟨s1, s2, s3, s4⟩
    | succ j =>
      have hk : k < 6 := by omega
      rw [if_neg (nI_ge (by omega) (by omega)), m_its0 hk (by decide), bnd_some, pk_mul, nI_add, wr_nI (by omega) (by decide), bnd_some, m_its0 hk (by decide), bnd_some, nI_add, nI_add, wr_nI (by omega) (by decide), bnd_some, m_its0 hk (by decide), bnd_some, nI_add, nI_add, wr_nI (by omega) (by decide), bnd_some, m_its0 hk (by decide), bnd_some, nI_add, nI_add, wr_nI (by omega) (by decide), bnd_some, nI_add]
      refine m_saves_l hd4 j (k + 1) n σ0 _ (by omega) (by omega) (fun p h => by rw [upS_ne h, upS_ne h, upS_ne h, upS_ne h]; exact hp p h) (fun i hi => ?_) (fun i hi => by rw [upS_nj (by omega), upS_nj (by omega), upS_nj (by omega), upS_nj (by omega)]; exact hl i hi)
      have h15 : ∀ (τ : Sg) (i : Nat) (v : Int32), upS τ 5 i v 1 = τ 1 := fun _ _ _ => upS_ne (by decide)
      simp only [h15, hp 1 (by decide)]
      by_cases e : i = k
      · subst e
        refine ⟨?_, ?_, ?_, ?_⟩
        · rw [upS_nj (by omega), upS_nj (by omega), upS_nj (by omega), upS_at]
        · rw [upS_nj (by omega), upS_nj (by omega), upS_at]
        · rw [upS_nj (by omega), upS_at]
        · rw [upS_at]
      · obtain ⟨s1, s2, s3, s4⟩ := hs i (by omega)
        refine ⟨?_, ?_, ?_, ?_⟩
        · rw [upS_nj (by omega), upS_nj (by omega), upS_nj (by omega), upS_nj (by omega)]; exact s1
        · rw [upS_nj (by omega), upS_nj (by omega), upS_nj (by omega), upS_nj (by omega)]; exact s2
        · rw [upS_nj (by omega), upS_nj (by omega), upS_nj (by omega), upS_nj (by omega)]; exact s3
        · rw [upS_nj (by omega), upS_nj (by omega), upS_nj (by omega), upS_nj (by omega)]; exact s4
theorem m_saves {d : Nat} (hd4 : d < 4) (σ : Sg) : ∃ σ', f_X12_saves (nI d) σ = some σ' ∧ (∀ p, p ≠ 5 → σ' p = σ p) ∧ svd d 6 σ σ' ∧ σ' 5 (26 * d + 24) = σ 1 3 ∧ σ' 5 (26 * d + 25) = σ 1 4 ∧ ∀ i, i < 26 * d → σ' 5 i = σ 5 i := by
  unfold f_X12_saves
  exact m_saves_l hd4 6 0 400 σ σ (by omega) (by omega) (fun _ _ => rfl) (fun k hk => absurd hk (by omega)) (fun _ _ => rfl)
/-- is it one of the cells that are laid by? -/
def mvb (i : Nat) : Prop := 35 ≤ i ∧ i < 71 ∧ ((i - 35) % 6 = 1 ∨ (i - 35) % 6 = 2 ∨ (i - 35) % 6 = 4 ∨ (i - 35) % 6 = 5)
theorem m_take_l {d : Nat} (hd4 : d < 4) : ∀ (j k n : Nat) (σ0 σ : Sg), k + j = 6 → j < n → (∀ p, p ≠ 1 → σ p = σ0 p) → svd d k σ σ0 → (∀ i, ¬ (mvb i ∧ i < 35 + 6 * k) → σ 1 i = σ0 1 i) →
    ∃ σ', f_X12_takesBack_l2 (nI d) n (nI k) σ = some σ' ∧ (∀ p, p ≠ 1 → σ' p = σ0 p) ∧ svd d 6 σ' σ0 ∧ σ' 1 3 = σ0 5 (26 * d + 24) ∧ σ' 1 4 = σ0 5 (26 * d + 25) ∧ ∀ i, ¬ mvb i → i ≠ 3 → i ≠ 4 → σ' 1 i = σ0 1 i
  | j, k, 0, σ0, σ, _, h, _, _, _ => absurd h (by omega)
  | j, k, n + 1, σ0, σ, hj, hn, hp, hs, hl => by
    show ∃ σ', f_X12_takesBack_b2 (f_X12_takesBack_l2 (nI d) n) (nI d) (nI k) σ = some σ' ∧ _
    unfold f_X12_takesBack_b2
    simp only [lit]
    cases j with
    | zero =>
      have ek : k = 6 := by omega
      subst ek
      rw [if_pos (nI_le (by omega) (by omega)), pk_mul, nI_add, rd_nI (by omega) (by decide), bnd_some, lt_ap, nI_add, rd_nI (by omega) (by decide), bnd_some, lt_ap, upS_ne (q := 5) (by decide), hp 5 (by decide)]
      refine ⟨_, rfl, fun p h => by rw [upS_ne h, upS_ne h]; exact hp p h, fun i hi => ?_, by rw [upS_nj (by omega), upS_at], by rw [upS_at], fun i h1 h2 h3 => by rw [upS_nj (by omega), upS_nj (by omega)]; exact hl i (fun z => h1 z.1)⟩
      obtain ⟨s1, s2, s3, s4⟩ := hs i hi
      rw [upS_nj (by omega), upS_nj (by omega), upS_nj (by omega), upS_nj (by omega), upS_nj (by omega), upS_nj (by omega), upS_nj (by omega), upS_nj (by omega)]
      exact ⟨s1, s2, s3, s4⟩
    | succ j =>
      have hk : k < 6 := by omega
      rw [if_neg (nI_ge (by omega) (by omega)), pk_mul, nI_add, rd_nI (by omega) (by decide), bnd_some, m_at, wr_nI (by omega) (by decide), bnd_some, nI_add, nI_add, rd_nI (by omega) (by decide), bnd_some, m_at, wr_nI (by omega) (by decide), bnd_some, nI_add, nI_add, rd_nI (by omega) (by decide), bnd_some, m_at, wr_nI (by omega) (by decide), bnd_some, nI_add, nI_add, rd_nI (by omega) (by decide), bnd_some, m_at, wr_nI (by omega) (by decide), bnd_some, nI_add]
      refine m_take_l hd4 j (k + 1) n σ0 _ (by omega) (by omega) (fun p h => by rw [upS_ne h, upS_ne h, upS_ne h, upS_ne h]; exact hp p h) (fun i hi => ?_) (fun i hi => ?_)
      · have h51 : ∀ (τ : Sg) (i : Nat) (v : Int32), upS τ 1 i v 5 = τ 5 := fun _ _ _ => upS_ne (by decide)
        simp only [h51, hp 5 (by decide)]
        by_cases e : i = k
        · subst e
          refine ⟨?_, ?_, ?_, ?_⟩
          · rw [upS_nj (by omega), upS_nj (by omega), upS_nj (by omega), upS_at]
          · rw [upS_nj (by omega), upS_nj (by omega), upS_at]
          · rw [upS_nj (by omega), upS_at]
          · rw [upS_at]
        · obtain ⟨s1, s2, s3, s4⟩ := hs i (by omega)
          refine ⟨?_, ?_, ?_, ?_⟩
          · rw [upS_nj (by omega), upS_nj (by omega), upS_nj (by omega), upS_nj (by omega)]; exact s1
          · rw [upS_nj (by omega), upS_nj (by omega), upS_nj (by omega), upS_nj (by omega)]; exact s2
          · rw [upS_nj (by omega), upS_nj (by omega), upS_nj (by omega), upS_nj (by omega)]; exact s3
          · rw [upS_nj (by omega), upS_nj (by omega), upS_nj (by omega), upS_nj (by omega)]; exact s4
      · unfold mvb at hi hl
        rw [upS_nj (by omega), upS_nj (by omega), upS_nj (by omega), upS_nj (by omega)]
        exact hl i (by omega)
theorem m_takesBack {d : Nat} (hd4 : d < 4) (σ : Sg) : ∃ σ', f_X12_takesBack (nI d) σ = some σ' ∧ (∀ p, p ≠ 1 → σ' p = σ p) ∧ svd d 6 σ' σ ∧ σ' 1 3 = σ 5 (26 * d + 24) ∧ σ' 1 4 = σ 5 (26 * d + 25) ∧ ∀ i, ¬ mvb i → i ≠ 3 → i ≠ 4 → σ' 1 i = σ 1 i := by
  unfold f_X12_takesBack
  exact m_take_l hd4 6 0 400 σ σ (by omega) (by omega) (fun _ _ => rfl) (fun k hk => absurd hk (by omega)) (fun _ _ => rfl)
/-- what may have changed behind a node -/
def FM (d : Nat) (σ σ' : Sg) : Prop := (∀ i, i < 319 → σ' 1 i = σ 1 i) ∧ (∀ p, p = 2 ∨ p = 3 ∨ 8 ≤ p → σ' p = σ p) ∧ (∀ i, i < 8 ∨ 15 ≤ i → σ' 0 i = σ 0 i) ∧ (∀ k, k < d → σ' 6 k = σ 6 k) ∧ ∀ i, i < 26 * d → σ' 5 i = σ 5 i
theorem FM.rf (d : Nat) (σ : Sg) : FM d σ σ := ⟨fun _ _ => rfl, fun _ _ => rfl, fun _ _ => rfl, fun _ _ => rfl, fun _ _ => rfl⟩
theorem FM.tr {d : Nat} {a b c : Sg} (h : FM d a b) (g : FM d b c) : FM d a c := ⟨fun i hi => (g.1 i hi).trans (h.1 i hi), fun p hp => (g.2.1 p hp).trans (h.2.1 p hp), fun i hi => (g.2.2.1 i hi).trans (h.2.2.1 i hi), fun i hi => (g.2.2.2.1 i hi).trans (h.2.2.2.1 i hi), fun i hi => (g.2.2.2.2 i hi).trans (h.2.2.2.2 i hi)⟩
def FC (d : Nat) (σ σ' : Sg) : Prop := (∀ p, p < 85 + 3 * d → p ≠ 40 → p ≠ 78 → p ≠ 80 → p ≠ 81 → σ' p = σ p) ∧ ∀ k, k < d → σ' 80 k = σ 80 k
theorem FC.rf (d : Nat) (σ : Sg) : FC d σ σ := ⟨fun _ _ _ _ _ _ => rfl, fun _ _ => rfl⟩
theorem FC.tr {d : Nat} {a b c : Sg} (h : FC d a b) (g : FC d b c) : FC d a c := ⟨fun p h1 h2 h3 h4 h5 => (g.1 p h1 h2 h3 h4 h5).trans (h.1 p h1 h2 h3 h4 h5), fun i hi => (g.2 i hi).trans (h.2 i hi)⟩
theorem FM.m {d : Nat} {σ σ' : Sg} {A : Nat → Nat} (h : FM d σ σ') (g : rM σ A) : rM σ' A := fun i a b c e => (h.1 i (by omega)).trans (g i a b c e)
theorem FM.w {d : Nat} {σ σ' : Sg} {W : WT} (h : FM d σ σ') (g : rulM σ W) : rulM σ' W := g.eq (fun i _ hl => h.1 i hl)
theorem FC.s {d : Nat} {σ σ' : Sg} {A : Nat → Nat} (h : FC d σ σ') (g : rCs σ A) : rCs σ' A := g.mono (fun p a b => h.1 p (by omega) (by omega) (by omega) (by omega) (by omega))
theorem FC.w {d : Nat} {σ σ' : Sg} {W : WT} (h : FC d σ σ') (g : rulC σ W) : rulC σ' W := g.mono (fun p a b => h.1 p (by omega) (by omega) (by omega) (by omega) (by omega))
theorem FC.d {d : Nat} {σ σ' : Sg} {A : Nat → Nat} {sc : Int32} (h : FC d σ σ') (g : rCd σ (82 + 3 * d) A sc) : rCd σ' (82 + 3 * d) A sc := g.mono (h.1 _ (by omega) (by omega) (by omega) (by omega) (by omega)) (h.1 _ (by omega) (by omega) (by omega) (by omega) (by omega)) (h.1 _ (by omega) (by omega) (by omega) (by omega) (by omega))
/-- one step of the reference down and back: what lies behind -/
theorem m_backs {W : WT} {σ σ1 σ2 σ3 σ4 σ5 : Sg} {A : Nat → Nat} {d act : Nat} (h : rM σ A) (ok : okA A) (ha : act ≤ A 0) (s1 : ∀ p, p ≠ 5 → σ1 p = σ p) (s2 : svd d 6 σ σ1) (s3 : σ1 5 (26 * d + 24) = σ 1 3) (s4 : σ1 5 (26 * d + 25) = σ 1 4) (s5 : ∀ i, i < 26 * d → σ1 5 i = σ 5 i)
    (l1 : ∀ p, p ≠ 6 → σ2 p = σ1 p) (l2 : ∀ k, k < d → σ2 6 k = σ1 6 k) (g1 : sameM σ2 σ3) (g2 : rM σ3 (goesA W A act).2) (r : FM (d + 1) σ3 σ4)
    (t1 : ∀ p, p ≠ 1 → σ5 p = σ4 p) (t2 : svd d 6 σ5 σ4) (t3 : σ5 1 3 = σ4 5 (26 * d + 24)) (t4 : σ5 1 4 = σ4 5 (26 * d + 25)) (t5 : ∀ i, ¬ mvb i → i ≠ 3 → i ≠ 4 → σ5 1 i = σ4 1 i) : FM d σ σ5 := by
  have e5 : ∀ i, i < 26 * d + 26 → σ4 5 i = σ1 5 i := fun i hi => by rw [r.2.2.2.2 i (by omega), g1.1 5 (by decide) (by decide), l1 5 (by decide)]
  refine ⟨fun i hi => ?_, fun p hp => ?_, fun i hi => ?_, fun k hk => ?_, fun i hi => ?_⟩
  · by_cases i3 : i = 3
    · subst i3; rw [t3, e5 _ (by omega), s3]
    by_cases i4 : i = 4
    · subst i4; rw [t4, e5 _ (by omega), s4]
    by_cases im : mvb i
    · have im' := im
      unfold mvb at im
      obtain ⟨k, hk, w, hw⟩ : ∃ k, k < 6 ∧ ∃ w, (w = 1 ∨ w = 2 ∨ w = 4 ∨ w = 5) ∧ i = 35 + 6 * k + w := ⟨(i - 35) / 6, by omega, (i - 35) % 6, by omega, by omega⟩
      obtain ⟨a1, a2, a3, a4⟩ := t2 k hk
      obtain ⟨b1, b2, b3, b4⟩ := s2 k hk
      rcases hw with ⟨hw | hw | hw | hw, rfl⟩ <;> subst hw
      · rw [← a1, e5 _ (by omega), b1]
      · rw [← a2, e5 _ (by omega), b2]
      · rw [← a3, e5 _ (by omega), b3]
      · rw [← a4, e5 _ (by omega), b4]
    · rw [t5 i im i3 i4, r.1 i hi]
      unfold mvb at im
      by_cases i0 : i = 1 ∨ i = 6 ∨ 95 ≤ i
      · rw [g1.2 i i0, l1 1 (by decide), s1 1 (by decide)]
      · rw [g2 i (by omega) (by omega) (by omega) (by omega), h i (by omega) (by omega) (by omega) (by omega), goes_ne ok ha (by omega)]
  · rw [t1 p (by omega), r.2.1 p hp, g1.1 p (by omega) (by omega), l1 p (by omega), s1 p (by omega)]
  · rw [t1 0 (by decide), r.2.2.1 i hi, g1.1 0 (by decide) (by decide), l1 0 (by decide), s1 0 (by decide)]
  · rw [t1 6 (by decide), r.2.2.2.1 k (by omega), g1.1 6 (by decide) (by decide), l2 k hk, s1 6 (by decide)]
  · rw [t1 5 (by decide), e5 i (by omega), s5 i hi]
/-- both sides at a node of the tree -/
def Node (W : WT) (A0 : Nat → Nat) (u v d : Nat) (P A : Nat → Nat) (sc : Int32) (σM σC : Sg) : Prop := (rM σM A ∧ rulM σM W) ∧ (rCs σC A ∧ rCd σC (82 + 3 * d) A sc ∧ rulC σC W) ∧ (∀ k, k < d → P k ≤ A0 0 ∧ σM 6 k = nI (P k) ∧ σC 80 k = nI (P k)) ∧ PlR A0 u v σM σC
theorem Node.go {W : WT} {A0 : Nat → Nat} {u v d : Nat} {P A : Nat → Nat} {sc : Int32} {σM σC σM' σC' : Sg} (h : Node W A0 u v d P A sc σM σC) (q : FM d σM σM') (k : FC d σC σC') (p : PlR A0 u v σM' σC') : Node W A0 u v d P A sc σM' σC' :=
  ⟨⟨q.m h.1.1, q.w h.1.2⟩, ⟨k.s h.2.1.1, k.d h.2.1.2.1, k.w h.2.1.2.2⟩, fun j hj => ⟨(h.2.2.1 j hj).1, by rw [q.2.2.2.1 j hj]; exact (h.2.2.1 j hj).2.1, by rw [k.2 j hj]; exact (h.2.2.1 j hj).2.2⟩, p⟩
def NodeS (A0 : Nat → Nat) (d w t N : Nat) (P A : Nat → Nat) : Prop := okA A ∧ A 0 = A0 0 ∧ A 3 = A0 3 + d ∧ w ≤ 27 * d ∧ t = cntF P d 0 ∧ d ≤ N ∧ N ≤ 4
def PlanIH (W : WT) (A0 : Nat → Nat) (u v d N : Nat) (RM : Int32 → Int32 → Int32 → Sg → Option Sg) (RC : Int32 → Int32 → Int32 → Int32 → Sg → Option Sg) : Prop :=
  ∀ w t P A sc σM σC, NodeS A0 d w t N P A → Node W A0 u v d P A sc σM σC → ∃ σM' σC', RM (nI d) (nI N) (nI w) σM = some σM' ∧ RC (nI d) (nI N) (nI w) (nI t) σC = some σC' ∧ PlR A0 u v σM' σC' ∧ ¬ σM' 0 8 = -1 ∧ FM d σM σM' ∧ FC d σC σC'
theorem PlR.of {A : Nat → Nat} {u v : Nat} {σM σC σM' σC' : Sg} (h : PlR A u v σM σC) (q0 : σM' 0 = σM 0) (q7 : σM' 7 = σM 7) (k : σC' 78 = σC 78) (k1 : σC' 81 = σC 81) : PlR A u v σM' σC' := by
  unfold PlR
  rw [q0, q7, k, k1]
  exact h
theorem plans_l {W : WT} (hw : okW W) {A0 : Nat → Nat} {u v d N : Nat} {RM : Int32 → Int32 → Int32 → Sg → Option Sg} {RC : Int32 → Int32 → Int32 → Int32 → Sg → Option Sg} (ih : PlanIH W A0 u v (d + 1) N RM RC) {w t : Nat} {P A : Nat → Nat} {sc : Int32} (hS : NodeS A0 d w t N P A) (hdN : d < N) (hov : ¬ A 2 ≤ A 3) :
    ∀ (j k n1 n2 : Nat) (σM σC : Sg), k + j = A 0 + 1 → j < n1 → j < n2 → Node W A0 u v d P A sc σM σC → (k = 0 ∨ ¬ σM 0 8 = -1) →
      ∃ σM' σC', f_X12_plans_l22 RM (nI d) (nI N) (nI w) n1 (nI k) σM = some σM' ∧ f_X6_extend_l52 RC (nI d) (nI N) (nI w) (nI t) (82 + 3 * d) (82 + 3 * (d + 1)) n2 (nI k) σC = some σC' ∧ PlR A0 u v σM' σC' ∧ ¬ σM' 0 8 = -1 ∧ FM d σM σM' ∧ FC d σC σC'
  | j, k, 0, n2, σM, σC, _, h, _, _, _ => absurd h (by omega)
  | j, k, n1 + 1, 0, σM, σC, _, _, h, _, _ => absurd h (by omega)
  | j, k, n1 + 1, n2 + 1, σM, σC, hj, hn1, hn2, nd, hk0 => by
    obtain ⟨ok, e0, e3, hw1, ht, -, hN4⟩ := id hS
    obtain ⟨⟨hr, hrW⟩, ⟨hs, hd, hcW⟩, hP, hR⟩ := id nd
    have hm := ok.1.1
    have h16 := ok.1.2.2.1
    show ∃ σM' σC', f_X12_plans_b22 RM (f_X12_plans_l22 RM (nI d) (nI N) (nI w) n1) (nI d) (nI N) (nI w) (nI k) σM = some σM' ∧ f_X6_extend_b52 RC (f_X6_extend_l52 RC (nI d) (nI N) (nI w) (nI t) (82 + 3 * d) (82 + 3 * (d + 1)) n2) (nI d) (nI N) (nI w) (nI t) (82 + 3 * d) (82 + 3 * (d + 1)) (nI k) σC = some σC' ∧ _
    unfold f_X12_plans_b22 f_X6_extend_b52
    rw [hr 0 (by decide) (by decide) (by decide) (by decide), hs.1]
    cases j with
    | zero =>
      rw [if_pos (nI_lt (by omega) (by omega)), if_pos (nI_lt (by omega) (by omega))]
      exact ⟨σM, σC, rfl, rfl, hR, hk0.resolve_left (by omega), FM.rf d σM, FC.rf d σC⟩
    | succ j =>
      have hk : k ≤ A 0 := by omega
      rw [if_neg (nI_nlt (by omega) (by omega)), if_neg (nI_nlt (by omega) (by omega))]
      obtain ⟨σ1, a1, a2, a3, a4, a5, a6⟩ := m_saves (d := d) (by omega) σM
      have r1 : rM (upS σ1 6 d (nI k)) A := fun i a b c e => by rw [upS_ne (by decide), a2 1 (by decide)]; exact hr i a b c e
      have w1 : rulM (upS σ1 6 d (nI k)) W := hrW.eq (fun i _ _ => by rw [upS_ne (by decide), a2 1 (by decide)])
      obtain ⟨σ2, b1, b2, b3, b4, -⟩ := m_goes r1 ok (by omega) hw w1 hk
      obtain ⟨c1, c2⟩ := c_copy (n := 82 + 3 * (d + 1)) (m := 82 + 3 * d) (by omega) hd
      have d1 : rCd (upS (f_X10_copy (82 + 3 * (d + 1)) (82 + 3 * d) σC) 80 d (nI k)) (82 + 3 * (d + 1)) A sc := c1.mono (upS_ne (by omega)) (upS_ne (by omega)) (upS_ne (by omega))
      have s1 : rCs (upS (f_X10_copy (82 + 3 * (d + 1)) (82 + 3 * d) σC) 80 d (nI k)) A := hs.mono (fun p a b => by rw [upS_ne (by omega), c2 p (by omega) (by omega) (by omega)])
      have x1 : rulC (upS (f_X10_copy (82 + 3 * (d + 1)) (82 + 3 * d) σC) 80 d (nI k)) W := hcW.mono (fun p a b => by rw [upS_ne (by omega), c2 p (by omega) (by omega) (by omega)])
      have hsky : isSky (82 + 3 * (d + 1)) := by unfold isSky; omega
      obtain ⟨σ3, g1, g2, g3, g4⟩ := c_goAct hsky s1 d1 ok (by omega) hw x1 hk
      have hgw := goes_w (W := W) ok (by omega) hk
      have ec : ∀ p, p ≠ 82 + 3 * (d + 1) → p ≠ 82 + 3 * (d + 1) + 1 → p ≠ 82 + 3 * (d + 1) + 2 → p ≠ 40 → p ≠ 80 → σ3 p = σC p := fun p h1 h2 h3 h4 h5 => by rw [g4 p h1 h2 h3 h4, upS_ne h5, c2 p h1 h2 h3]
      have nd2 : Node W A0 u v (d + 1) (up1 P d k) (goesA W A k).2 (sc + nI (goesA W A k).1) σ2 σ3 := by
        refine ⟨⟨b2, w1.mono b4⟩, ⟨g3, g2, g4.r hsky x1⟩, fun i hi => ?_, hR.of (by rw [b4.1 0 (by decide) (by decide), upS_ne (by decide), a2 0 (by decide)]) (by rw [b4.1 7 (by decide) (by decide), upS_ne (by decide), a2 7 (by decide)]) (ec 78 (by omega) (by omega) (by omega) (by decide) (by decide)) (ec 81 (by omega) (by omega) (by omega) (by decide) (by decide))⟩
        have e80 : σ3 80 = upS (f_X10_copy (82 + 3 * (d + 1)) (82 + 3 * d) σC) 80 d (nI k) 80 := g4 80 (by omega) (by omega) (by omega) (by decide)
        rw [b4.1 6 (by decide) (by decide), e80, upS_ap, upS_ap]
        by_cases e : i = d
        · subst e
          rw [up1_at, if_pos ⟨rfl, rfl⟩, if_pos ⟨rfl, rfl⟩]
          exact ⟨by omega, rfl, rfl⟩
        · rw [up1_ne e, if_neg (fun z => e z.2), if_neg (fun z => e z.2), a2 6 (by decide), c2 80 (by omega) (by omega) (by omega)]
          exact hP i (by omega)
      have hS2 : NodeS A0 (d + 1) (w + (goesA W A k).1) (cntF (up1 P d k) (d + 1) 0) N (up1 P d k) (goesA W A k).2 := ⟨b3, by rw [goes_ne ok hk (by omega)]; exact e0, by rw [goes_3]; omega, by omega, rfl, by omega, hN4⟩
      have ht2 : cntF (up1 P d k) (d + 1) 0 = t + (if k = 0 then 0 else 1) := by
        rw [cnt_s, Nat.zero_add, up1_at, ht]
        exact congrArg (· + _) (cnt_eq d 0 (fun i hi => up1_ne (by omega)))
      obtain ⟨σ4, σ5, i1, i2, i3, i4, i5, i6⟩ := ih _ _ _ _ _ _ _ hS2 nd2
      obtain ⟨σ6, j1, j2, j3, j4, j5, j6⟩ := m_takesBack (d := d) (by omega) σ4
      have fm : FM d σM σ6 := m_backs hr ok hk a2 a3 a4 a5 a6 (fun p hp => upS_ne hp) (fun i hi => upS_nj (by omega)) b4 b2 i5 j2 j3 j4 j5 j6
      have fc : FC d σC σ5 := by
        refine ⟨fun p h1 h2 h3 h4 h5 => by rw [i6.1 p (by omega) h2 h3 h4 h5, ec p (by omega) (by omega) (by omega) h2 h4], fun i hi => ?_⟩
        rw [i6.2 i (by omega), g4 80 (by omega) (by omega) (by omega) (by decide), upS_nj (by omega), c2 80 (by omega) (by omega) (by omega)]
      have pr : PlR A0 u v σ6 σ5 := i3.of (j2 0 (by decide)) (j2 7 (by decide)) rfl rfl
      have top6 : ¬ σ6 0 8 = -1 := by rw [j2 0 (by decide)]; exact i4
      obtain ⟨σ7, σ8, y1, y2, y3, y4, y5, y6⟩ := plans_l hw ih hS hdN hov j (k + 1) n1 n2 σ6 σ5 (by omega) (by omega) (by omega) (nd.go fm fc pr) (Or.inr top6)
      refine ⟨σ7, σ8, ?_, ?_, y3, y4, fm.tr y5, fc.tr y6⟩
      · rw [a1, bnd_some, wr_nI (by omega) (by decide), bnd_some, b1, bd2_some, nI_1, nI_add, i1, bnd_some, j1, bnd_some, nI_1]
        exact y1
      · rw [lt_ap, wr_nI (by omega) (by decide), bnd_some, g1, bd2_some, nI_1, nI_add]
        by_cases q : k = 0
        · subst q
          rw [if_neg (show ¬ ¬ nI 0 = (0 : Int32) from fun z => z rfl)]
          rw [ht2, if_pos rfl] at i2
          have i2' : RC (nI (d + 1)) (nI N) (nI (w + (goesA W A 0).1)) (nI t) σ3 = some σ5 := i2
          rw [i2', bnd_some, nI_1]
          exact y2
        · rw [if_pos (nI_ne0 (by omega) (by omega)), nI_1]
          rw [ht2, if_neg q] at i2
          rw [i2, bnd_some, nI_1]
          exact y2
theorem eq_plans {W : WT} (hw : okW W) {A0 : Nat → Nat} {u v N : Nat} : ∀ r d n1 n2, d + r = N → r < n1 → r < n2 → PlanIH W A0 u v d N (f_X12_plans n1) (f_X6_extend n2)
  | r, d, 0, n2, _, h, _ => absurd h (by omega)
  | r, d, n1 + 1, 0, _, _, h => absurd h (by omega)
  | r, d, n1 + 1, n2 + 1, hr, hn1, hn2 => by
    intro w t P A sc σM σC hS nd
    obtain ⟨ok, e0, e3, hw1, ht, hdN, hN4⟩ := id hS
    obtain ⟨⟨hrM, hrW⟩, ⟨hs, hd, hcW⟩, hP, hR⟩ := id nd
    have hm := ok.1.1
    have h16 := ok.1.2.2.2.1
    have hsky : isSky (82 + 3 * d) := by unfold isSky; omega
    obtain ⟨σ1, σ2, l1, l2, l3, l4, ⟨l5, l6⟩, l7⟩ := eq_leaf (A0 := A0) hrM ok hd (d := d) (w := w) (by omega) (by omega) (by omega) (by omega) hP hR
    have leaf : ∃ σM' σC', f_X12_ended (nI d) (nI w) σM = some σM' ∧ f_X6_weigh (nI d) (nI w) (nI t) σC = some σC' ∧ PlR A0 u v σM' σC' ∧ ¬ σM' 0 8 = -1 ∧ FM d σM σM' ∧ FC d σC σC' :=
      ⟨σ1, σ2, l1, by rw [ht]; exact l2, l3, l4, ⟨fun i _ => by rw [l6 1 (by decide) (by decide)], fun p hp => l6 p (by omega) (by omega), fun i hi => l5 i (by omega), fun k _ => by rw [l6 6 (by decide) (by decide)], fun i _ => by rw [l6 5 (by decide) (by decide)]⟩, ⟨fun p h1 h2 h3 h4 h5 => l7 p h3 h5, fun k _ => by rw [l7 80 (by decide) (by decide)]⟩⟩
    obtain ⟨σ3, σ4, f1, f2, f3, f4, f5, f6⟩ := leaf
    show ∃ σM' σC', f_X12_plans_s (f_X12_plans n1) (nI d) (nI N) (nI w) σM = some σM' ∧ f_X6_extend_s (f_X6_extend n2) (nI d) (nI N) (nI w) (nI t) σC = some σC' ∧ _
    unfold f_X12_plans_s f_X6_extend_s
    rw [if_neg (show ¬ (nI d < 0 ∨ 5 ≤ (nI d).toNatClampNeg) from nI_in (by omega) (by decide)), m_over hrM ok, nI_clamp (by omega), c_over hs hd ok, f1, bnd_some, f2, bnd_some]
    by_cases q : d = N
    · subst q
      rw [if_pos rfl, if_pos (nI_le (Nat.le_refl _) (by omega))]
      exact ⟨σ3, σ4, rfl, rfl, f3, f4, f5, f6⟩
    · rw [if_neg (fun z => q ((nI_eq (by omega) (by omega)).mp z)), if_neg (nI_ge (by omega) (by omega)), if_neg (show ¬ (4 : Int32) ≤ nI d from nI_ge (b := 4) (by omega) (by decide))]
      by_cases q2 : A 2 ≤ A 3
      · rw [if_pos (decide_eq_true q2), if_pos (decide_eq_true q2)]
        exact ⟨σ3, σ4, rfl, rfl, f3, f4, f5, f6⟩
      · have ih := eq_plans hw (A0 := A0) (u := u) (v := v) (N := N) (r - 1) (d + 1) n1 n2 (by omega) (by omega) (by omega)
        rw [if_neg (fun z => q2 (of_decide_eq_true z)), if_neg (fun z => q2 (of_decide_eq_true z)), nI_1, if_neg (show ¬ (nI (d + 1) < 0 ∨ 5 ≤ (nI (d + 1)).toNatClampNeg) from nI_in (by omega) (by decide)), nI_clamp (by omega)]
        exact plans_l hw ih hS (by omega) q2 (A 0 + 1) 0 400 400 σM σC (by omega) (by omega) (by omega) nd (Or.inl rfl)
