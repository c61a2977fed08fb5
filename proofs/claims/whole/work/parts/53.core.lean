/-! what is the same on both sides: the moor, what is kept, rows, tape, sheets, shelves, bodies -/
theorem m_inN {x : Int32} {σ : Sg} (lo hi : Nat) (a b : Int64) (ha : a = (nI lo).toInt64) (hb : b = (nI hi).toInt64) : f_X12_in x.toInt64 a b σ = rng x (nI lo) (nI hi) := by
  rw [ha, hb]; exact m_in _ _ _ _
theorem kite_iff {x : Int32} {m : Nat} (hm : m < 2 ^ 30) : rng x (nI 0) (nI m - nI 1) = true ↔ ∃ k, k < m ∧ x = nI k := by
  cases m with
  | zero =>
    constructor
    · intro h
      unfold rng at h
      rw [Bool.and_eq_true, decide_eq_true_eq, decide_eq_true_eq] at h
      have a := Int32.le_iff_toInt_le.mp h.1
      have b := Int32.le_iff_toInt_le.mp h.2
      have e : (nI 0 - nI 1).toInt = -1 := rfl
      have e0 : (nI 0).toInt = 0 := rfl
      rw [e] at b
      rw [e0] at a
      omega
    · rintro ⟨k, h, -⟩
      exact absurd h (by omega)
  | succ m =>
    rw [pk_sub (by omega), Nat.add_sub_cancel, rng_nI (by omega) (by omega)]
    constructor
    · rintro ⟨k, -, h, e⟩
      exact ⟨k, by omega, e⟩
    · rintro ⟨k, h, e⟩
      exact ⟨k, by omega, by omega, e⟩
theorem m_isKite {σ : Sg} {A : Nat → Nat} (h : rM σ A) (x : Int32) : f_X12_isKite x σ = rng x (nI 0) (nI (A 0) - nI 1) := by
  unfold f_X12_isKite
  rw [h 0 (by decide) (by decide) (by decide) (by decide)]
  exact m_in x (nI 0) _ σ
theorem c_isKite {σ : Sg} {A : Nat → Nat} (h : rCs σ A) (x : Int32) : f_X11_isKite x σ = rng x (nI 0) (nI (A 0) - nI 1) := by
  unfold f_X11_isKite
  rw [h.1]
  exact c_in _ _ _ _
/-- what a call may see of the reference's side, the moor aside -/
def oM (σ σ' : Sg) : Prop := (∀ p, (p = 2 ∨ 8 ≤ p) → σ' p = σ p) ∧ (∀ i, i = 3 ∨ i = 19 ∨ i = 21 ∨ i = 35 → σ' 0 i = σ 0 i)
theorem oM.rf (σ : Sg) : oM σ σ := ⟨fun _ _ => rfl, fun _ _ => rfl⟩
theorem oM.tr {a b c : Sg} (h : oM a b) (g : oM b c) : oM a c := ⟨fun p hp => (g.1 p hp).trans (h.1 p hp), fun i hi => (g.2 i hi).trans (h.2 i hi)⟩
theorem sameM.o {σ σ' : Sg} (h : sameM σ σ') : oM σ σ' := ⟨fun p hp => h.1 p (by omega) (by omega), fun i hi => by rw [h.1 0 (by decide) (by decide)]⟩
theorem oM.up {σ : Sg} {i : Nat} {v : Int32} : oM σ (upS σ 1 i v) := ⟨fun p hp => upS_ne (by omega), fun i hi => by rw [upS_ne (by decide)]⟩
def eqQ (σ σ' : Sg) : Prop := (∀ i, i < 319 → σ' 1 i = σ 1 i) ∧ oM σ σ'
theorem eqQ.rf (σ : Sg) : eqQ σ σ := ⟨fun _ _ => rfl, oM.rf σ⟩
theorem eqQ.tr {a b c : Sg} (h : eqQ a b) (g : eqQ b c) : eqQ a c := ⟨fun i hi => (g.1 i hi).trans (h.1 i hi), h.2.tr g.2⟩
/-- and of the class's -/
def sH (σ σ' : Sg) : Prop := ∀ p, 24 ≤ p → p < 44 → p ≠ 40 → σ' p = σ p
def oC (σ σ' : Sg) : Prop := (∀ p, (p < 3 ∨ (9 ≤ p ∧ p < 24) ∨ (44 ≤ p ∧ p < 64) ∨ p = 68) → p ≠ 60 → σ' p = σ p) ∧ σ' 67 0 = σ 67 0
theorem oC.rf (σ : Sg) : oC σ σ := ⟨fun _ _ _ => rfl, rfl⟩
theorem oC.tr {a b c : Sg} (h : oC a b) (g : oC b c) : oC a c := ⟨fun p h1 h2 => (g.1 p h1 h2).trans (h.1 p h1 h2), g.2.trans h.2⟩
theorem oC.of {a b : Sg} (h : ∀ p, (p < 24 ∨ (44 ≤ p ∧ p < 64) ∨ p = 67 ∨ p = 68) → b p = a p) : oC a b := ⟨fun p h1 h2 => h p (by omega), by rw [h 67 (by omega)]⟩
theorem oC.up {σ : Sg} {p i : Nat} {v : Int32} (h : 24 ≤ p) (h2 : p < 44) : oC σ (upS σ p i v) := oC.of (fun q hq => upS_ne (by omega))
def eqK (σ σ' : Sg) : Prop := sH σ σ' ∧ oC σ σ'
theorem eqK.rf (σ : Sg) : eqK σ σ := ⟨fun _ _ _ _ => rfl, oC.rf σ⟩
theorem eqK.tr {a b c : Sg} (h : eqK a b) (g : eqK b c) : eqK a c := ⟨fun p h1 h2 h3 => (g.1 p h1 h2 h3).trans (h.1 p h1 h2 h3), h.2.tr g.2⟩
theorem eqK.of {a b : Sg} (h : ∀ p, p < 64 ∨ p = 67 ∨ p = 68 → p ≠ 40 → b p = a p) : eqK a b := ⟨fun p h1 h2 h3 => h p (by omega) h3, oC.of (fun p hp => h p (by omega) (by omega))⟩
def Hold (σM σC : Sg) (A : Nat → Nat) (W : WT) : Prop := (okA A) ∧ (okW W) ∧ (rM σM A) ∧ (rCs σC A) ∧ (rCd σC 41 A (σM 1 4)) ∧ (rulM σM W) ∧ (rulC σC W) ∧ (σC 24 3 = σM 1 6) ∧ (σC 34 0 = σM 1 1)
theorem Hold.ok {σM σC : Sg} {A : Nat → Nat} {W : WT} (h : Hold σM σC A W) : okA A := h.1
theorem Hold.okw {σM σC : Sg} {A : Nat → Nat} {W : WT} (h : Hold σM σC A W) : okW W := h.2.1
theorem Hold.m {σM σC : Sg} {A : Nat → Nat} {W : WT} (h : Hold σM σC A W) : rM σM A := h.2.2.1
theorem Hold.c {σM σC : Sg} {A : Nat → Nat} {W : WT} (h : Hold σM σC A W) : rCs σC A := h.2.2.2.1
theorem Hold.d {σM σC : Sg} {A : Nat → Nat} {W : WT} (h : Hold σM σC A W) : rCd σC 41 A (σM 1 4) := h.2.2.2.2.1
theorem Hold.rm {σM σC : Sg} {A : Nat → Nat} {W : WT} (h : Hold σM σC A W) : rulM σM W := h.2.2.2.2.2.1
theorem Hold.rc {σM σC : Sg} {A : Nat → Nat} {W : WT} (h : Hold σM σC A W) : rulC σC W := h.2.2.2.2.2.2.1
theorem Hold.z {σM σC : Sg} {A : Nat → Nat} {W : WT} (h : Hold σM σC A W) : σC 24 3 = σM 1 6 := h.2.2.2.2.2.2.2.1
theorem Hold.n {σM σC : Sg} {A : Nat → Nat} {W : WT} (h : Hold σM σC A W) : σC 34 0 = σM 1 1 := h.2.2.2.2.2.2.2.2
theorem Hold.fr {σM σC σM' σC' : Sg} {A : Nat → Nat} {W : WT} (h : Hold σM σC A W) (q : ∀ i, i < 319 → σM' 1 i = σM 1 i) (k : sH σC σC') : Hold σM' σC' A W :=
  ⟨h.ok, h.okw, fun i a b c d => (q i (by omega)).trans (h.m i a b c d), h.c.mono (fun p a b => k p (by omega) (by omega) (by omega)),
    (by rw [q 4 (by decide)]; exact h.d.mono (k 41 (by omega) (by omega) (by omega)) (k 42 (by omega) (by omega) (by omega)) (k 43 (by omega) (by omega) (by omega))),
    h.rm.eq (fun i _ hl => q i hl), h.rc.mono (fun p a b => k p (by omega) (by omega) (by omega)), (by rw [k 24 (by omega) (by omega) (by omega), q 6 (by decide)]; exact h.z),
    (by rw [k 34 (by omega) (by omega) (by omega), q 1 (by decide)]; exact h.n)⟩
/-- what the class keeps, where it would be used -/
def shf (σ : Sg) : Sg := fun p => if 24 ≤ p ∧ p < 44 then σ (p + 20) else σ p
theorem shf_in {σ : Sg} {p : Nat} (h : 24 ≤ p ∧ p < 44) : shf σ p = σ (p + 20) := if_pos h
theorem shf_out {σ : Sg} {p : Nat} (h : ¬ (24 ≤ p ∧ p < 44)) : shf σ p = σ p := if_neg h
def shM (σ : Sg) : Sg := upR σ 1 (σ 2)
def Kept (σM σC : Sg) : Prop := σC 0 14 = σM 0 3 ∧ (σM 0 3 = 0 ∨ ∃ A W, Hold (shM σM) (shf σC) A W)
theorem Kept.go {σM σC σM' σC' : Sg} (h : Kept σM σC) (q : oM σM σM') (k : oC σC σC') : Kept σM' σC' := by
  unfold Kept
  rw [k.1 0 (by omega) (by omega), q.2 3 (by omega)]
  refine ⟨h.1, h.2.elim Or.inl (fun ⟨A, W, g⟩ => Or.inr ⟨A, W, g.fr (fun i _ => by show σM' 2 i = σM 2 i; rw [q.1 2 (by omega)]) (fun p h1 h2 h3 => by
    rw [shf_in (by omega), shf_in (by omega), k.1 (p + 20) (by omega) (by omega)])⟩)⟩
def sx8 (v : Int32) : Int32 := v.toInt8.toInt32
def Rest (σM σC : Sg) : Prop := (∃ n, n ≤ 4 ∧ σM 0 19 = nI n ∧ σC 0 15 = nI n) ∧ (∀ k, k < 4 → ∀ w, w < 3 → σC (15 + k) w = σM 8 (3 * k + w)) ∧ (∃ n, n ≤ 200 ∧ σM 0 21 = nI n ∧ σC 67 0 = nI n) ∧ (∀ i, i < 200 → ∃ b, b < 256 ∧ σM 9 i = nI b ∧ σC 68 i = sx8 (nI b)) ∧ (∀ k, k < 4 → σC 9 k = σM 10 k ∧ σC 10 k = σM 11 k ∧ (σM 10 k = -1 ∨ ∃ t, t ≤ 4 ∧ σM 10 k = nI t) ∧ (∃ n, n ≤ 40 ∧ σM 11 k = nI n) ∧ ∀ i, i < 40 → σC (20 + k) i = σM 12 (40 * k + i)) ∧ (∀ k, k < 4 → (σM 13 k = nI 0 ∧ σC 11 k = nI 2) ∨ (σM 13 k = nI 1 ∧ σC 11 k = nI 0 ∧ σC 12 k = σM 14 k) ∨ (σM 13 k = nI 2 ∧ σC 11 k = nI 1 ∧ σC 12 k = σM 15 k ∧ σC 13 k = σM 14 k)) ∧ (∃ n, n ≤ 400 ∧ σM 0 35 = nI n ∧ σC 0 16 = nI (min n 30) ∧ ∀ i, i < n → i < 30 → σC 1 i = σM 16 i)
theorem Rest.rn {σM σC : Sg} (h : Rest σM σC) : ∃ n, n ≤ 4 ∧ σM 0 19 = nI n ∧ σC 0 15 = nI n := h.1
theorem Rest.rows {σM σC : Sg} (h : Rest σM σC) : ∀ k, k < 4 → ∀ w, w < 3 → σC (15 + k) w = σM 8 (3 * k + w) := h.2.1
theorem Rest.tn {σM σC : Sg} (h : Rest σM σC) : ∃ n, n ≤ 200 ∧ σM 0 21 = nI n ∧ σC 67 0 = nI n := h.2.2.1
theorem Rest.tape {σM σC : Sg} (h : Rest σM σC) : ∀ i, i < 200 → ∃ b, b < 256 ∧ σM 9 i = nI b ∧ σC 68 i = sx8 (nI b) := h.2.2.2.1
theorem Rest.sheet {σM σC : Sg} (h : Rest σM σC) : ∀ k, k < 4 → σC 9 k = σM 10 k ∧ σC 10 k = σM 11 k ∧ (σM 10 k = -1 ∨ ∃ t, t ≤ 4 ∧ σM 10 k = nI t) ∧ (∃ n, n ≤ 40 ∧ σM 11 k = nI n) ∧ ∀ i, i < 40 → σC (20 + k) i = σM 12 (40 * k + i) := h.2.2.2.2.1
theorem Rest.shelf {σM σC : Sg} (h : Rest σM σC) : ∀ k, k < 4 → (σM 13 k = nI 0 ∧ σC 11 k = nI 2) ∨ (σM 13 k = nI 1 ∧ σC 11 k = nI 0 ∧ σC 12 k = σM 14 k) ∨ (σM 13 k = nI 2 ∧ σC 11 k = nI 1 ∧ σC 12 k = σM 15 k ∧ σC 13 k = σM 14 k) := h.2.2.2.2.2.1
theorem Rest.trn {σM σC : Sg} (h : Rest σM σC) : ∃ n, n ≤ 400 ∧ σM 0 35 = nI n ∧ σC 0 16 = nI (min n 30) ∧ ∀ i, i < n → i < 30 → σC 1 i = σM 16 i := h.2.2.2.2.2.2
theorem Rest.go {σM σC σM' σC' : Sg} (h : Rest σM σC) (q : oM σM σM') (k : oC σC σC') : Rest σM' σC' := ⟨(by rw [k.1 0 (by omega) (by omega), q.2 19 (by omega)]; exact h.rn), fun j hj w hw => by rw [k.1 (15 + j) (by omega) (by omega), q.1 8 (by omega)]; exact h.rows j hj w hw, (by rw [k.2, q.2 21 (by omega)]; exact h.tn), (by rw [k.1 68 (by omega) (by omega), q.1 9 (by omega)]; exact h.tape), fun j hj => by rw [k.1 9 (by omega) (by omega), k.1 10 (by omega) (by omega), k.1 (20 + j) (by omega) (by omega), q.1 10 (by omega), q.1 11 (by omega), q.1 12 (by omega)]; exact h.sheet j hj, (by rw [k.1 11 (by omega) (by omega), k.1 12 (by omega) (by omega), k.1 13 (by omega) (by omega), q.1 13 (by omega), q.1 14 (by omega), q.1 15 (by omega)]; exact h.shelf), (by rw [k.1 0 (by omega) (by omega), k.1 1 (by omega) (by omega), q.2 35 (by omega), q.1 16 (by omega)]; exact h.trn)⟩
def Rel (σM σC : Sg) : Prop := (∃ A W, Hold σM σC A W) ∧ (Kept σM σC) ∧ (Rest σM σC)
theorem Rel.hold {σM σC : Sg} (h : Rel σM σC) : ∃ A W, Hold σM σC A W := h.1
theorem Rel.kept {σM σC : Sg} (h : Rel σM σC) : Kept σM σC := h.2.1
theorem Rel.rest {σM σC : Sg} (h : Rel σM σC) : Rest σM σC := h.2.2
theorem Rel.fr {σM σC σM' σC' : Sg} (h : Rel σM σC) (q : eqQ σM σM') (k : eqK σC σC') : Rel σM' σC' :=
  ⟨h.hold.elim fun A g => g.elim fun W g => ⟨A, W, g.fr q.1 k.1⟩, h.kept.go q.2 k.2, h.rest.go q.2 k.2⟩
/-! laid by, and back -/
theorem m_puts_l : ∀ (d k n : Nat) (σ : Sg), k + d = 319 → d < n → ∃ σ', f_X12_puts_l2 n (nI k) σ = some σ' ∧ (∀ i, k ≤ i → i < 319 → σ' 3 i = σ 1 i) ∧ (∀ i, i < k → σ' 3 i = σ 3 i) ∧ ∀ p, p ≠ 3 → σ' p = σ p
  | d, k, 0, σ, _, h => absurd h (by omega)
  | d, k, n + 1, σ, hd, hn => by
    show ∃ σ', f_X12_puts_b2 (f_X12_puts_l2 n) (nI k) σ = some σ' ∧ _
    unfold f_X12_puts_b2
    simp only [lit]
    cases d with
    | zero =>
      rw [if_pos (nI_le (by omega) (by omega))]
      exact ⟨σ, rfl, fun i a b => absurd b (by omega), fun _ _ => rfl, fun _ _ => rfl⟩
    | succ d =>
      rw [if_neg (nI_ge (by omega) (by omega)), rd_nI (by omega) (by decide), bnd_some, wr_nI (by omega) (by decide), bnd_some, nI_add]
      obtain ⟨σ', p1, p2, p3, p4⟩ := m_puts_l d (k + 1) n (upS σ 3 k (σ 1 k)) (by omega) (by omega)
      refine ⟨σ', p1, fun i a b => ?_, fun i a => ?_, fun p hp => by rw [p4 p hp, upS_ne hp]⟩
      · by_cases e : i = k
        · subst e
          rw [p3 i (by omega), upS_at]
        · rw [p2 i (by omega) b, upS_ne (by decide)]
      · rw [p3 i (by omega), upS_nj (by omega)]
theorem m_puts (σ : Sg) : ∃ σ', f_X12_puts σ = some σ' ∧ (∀ i, i < 319 → σ' 3 i = σ 1 i) ∧ ∀ p, p ≠ 3 → σ' p = σ p := by
  unfold f_X12_puts
  simp only [lit]
  obtain ⟨σ', p1, p2, -, p4⟩ := m_puts_l 319 0 400 σ (by omega) (by omega)
  exact ⟨σ', p1, fun i hi => p2 i (by omega) hi, p4⟩
theorem m_back_l : ∀ (d k n : Nat) (σ : Sg), k + d = 319 → d < n → ∃ σ', f_X12_putsBack_l2 n (nI k) σ = some σ' ∧ (∀ i, k ≤ i → i < 319 → σ' 1 i = σ 3 i) ∧ (∀ i, i < k → σ' 1 i = σ 1 i) ∧ ∀ p, p ≠ 1 → σ' p = σ p
  | d, k, 0, σ, _, h => absurd h (by omega)
  | d, k, n + 1, σ, hd, hn => by
    show ∃ σ', f_X12_putsBack_b2 (f_X12_putsBack_l2 n) (nI k) σ = some σ' ∧ _
    unfold f_X12_putsBack_b2
    simp only [lit]
    cases d with
    | zero =>
      rw [if_pos (nI_le (by omega) (by omega))]
      exact ⟨σ, rfl, fun i a b => absurd b (by omega), fun _ _ => rfl, fun _ _ => rfl⟩
    | succ d =>
      rw [if_neg (nI_ge (by omega) (by omega)), rd_nI (by omega) (by decide), bnd_some, wr_nI (by omega) (by decide), bnd_some, nI_add]
      obtain ⟨σ', p1, p2, p3, p4⟩ := m_back_l d (k + 1) n (upS σ 1 k (σ 3 k)) (by omega) (by omega)
      refine ⟨σ', p1, fun i a b => ?_, fun i a => ?_, fun p hp => by rw [p4 p hp, upS_ne hp]⟩
      · by_cases e : i = k
        · subst e
          rw [p3 i (by omega), upS_at]
        · rw [p2 i (by omega) b, upS_ne (by decide)]
      · rw [p3 i (by omega), upS_nj (by omega)]
/-- what is tried is taken back: s is as it was when it was laid by -/
theorem m_back (σ : Sg) : ∃ σ', f_X12_putsBack σ = some σ' ∧ (∀ i, i < 319 → σ' 1 i = σ 3 i) ∧ ∀ p, p ≠ 1 → σ' p = σ p := by
  unfold f_X12_putsBack
  simp only [lit]
  obtain ⟨σ', p1, p2, -, p4⟩ := m_back_l 319 0 400 σ (by omega) (by omega)
  exact ⟨σ', p1, fun i hi => p2 i (by omega) hi, p4⟩
/-- the trial of the reference, from laid by to back -/
theorem tried {σ σ1 σ2 σ3 : Sg} (h1 : ∀ i, i < 319 → σ1 3 i = σ 1 i) (h2 : ∀ p, p ≠ 3 → σ1 p = σ p) (h3 : sameM σ1 σ2) (h4 : ∀ i, i < 319 → σ3 1 i = σ2 3 i) (h5 : ∀ p, p ≠ 1 → σ3 p = σ2 p) : eqQ σ σ3 := by
  refine ⟨fun i hi => ?_, fun p hp => ?_, fun i hi => ?_⟩
  · rw [h4 i hi, h3.1 3 (by decide) (by decide), h1 i hi]
  · rw [h5 p (by omega), h3.1 p (by omega) (by omega), h2 p (by omega)]
  · rw [h5 0 (by decide), h3.1 0 (by decide) (by decide), h2 0 (by decide)]
/-! the rest -/
theorem told_ok {W : WT} {A : Nat → Nat} (ok : okA A) {k : Nat} (hk : k < A 0) : okA (toldA W A k).2 := by
  by_cases h : willA W A k = 0 ∧ farA A k ≤ A (23 + 2 * A (35 + 6 * k + 3) + 1)
  · rw [told_a h.1 h.2]
    exact okA_sv (okA_al ok hk (by decide)) (by rw [up1_ne (by omega)]; exact hk) (by decide)
  · rw [told_b h]
    exact okA_al ok hk (by split <;> decide)
theorem goes_ok {W : WT} {A : Nat → Nat} (ok : okA A) (hg : A 3 < 16) {act : Nat} (ha : act ≤ A 0) : okA (goesA W A act).2 := by
  have okB := gust_ok ok hg
  have e0 : gustA A 0 = A 0 := gust_ne ok (by omega)
  by_cases h0 : act = 0
  · subst h0
    rw [goes_0]
    exact okA_g okB (by omega)
  · by_cases h4 : gustA A (35 + 6 * (act - 1) + 4) = 1
    · rw [goes_a h0 h4]
      exact okA_g (told_ok okB (by omega)) (by omega)
    · rw [goes_b h0 h4]
      exact okA_g okB (by omega)
theorem rest_ok {W : WT} {A : Nat → Nat} (ok : okA A) (hg : A 3 < 16) : okA (restA W A).2 := goes_ok ok hg (chosen_b ok)
def restN (W : WT) : Nat → (Nat → Nat) → Nat × (Nat → Nat)
  | 0, A => (0, A)
  | n + 1, A => if A 2 ≤ A 3 then (0, A) else ((restA W A).1 + (restN W n (restA W A).2).1, (restN W n (restA W A).2).2)
theorem restN_o {W : WT} {n : Nat} {A : Nat → Nat} (h : A 2 ≤ A 3) : restN W (n + 1) A = (0, A) := if_pos h
theorem restN_s {W : WT} {n : Nat} {A : Nat → Nat} (h : ¬ A 2 ≤ A 3) : restN W (n + 1) A = ((restA W A).1 + (restN W n (restA W A).2).1, (restN W n (restA W A).2).2) := if_neg h
theorem m_over {σ : Sg} {A : Nat → Nat} (h : rM σ A) (ok : okA A) : f_X12_isOver σ = decide (A 2 ≤ A 3) := by
  obtain ⟨⟨-, -, h2, h3, -⟩, -⟩ := ok
  unfold f_X12_isOver
  rw [h 3 (by decide) (by decide) (by decide) (by decide), h 2 (by decide) (by decide) (by decide) (by decide)]
  by_cases q : A 2 ≤ A 3
  · rw [if_neg (nI_nlt q (by omega)), decide_eq_true q]
  · rw [if_pos (nI_lt (by omega) (by omega)), decide_eq_false q]
theorem c_over {n : Nat} {σ : Sg} {A : Nat → Nat} {sc : Int32} (hs : rCs σ A) (hd : rCd σ n A sc) (ok : okA A) : f_X1_isOver n σ = decide (A 2 ≤ A 3) := by
  obtain ⟨⟨-, -, h2, h3, -⟩, -⟩ := ok
  unfold f_X1_isOver
  rw [hd.1, hs.2.1]
  by_cases q : A 2 ≤ A 3
  · rw [if_neg (nI_nlt q (by omega)), decide_eq_true q]
  · rw [if_pos (nI_lt (by omega) (by omega)), decide_eq_false q]
theorem m_rest_l {W : WT} (hw : okW W) {N : Nat} (hN : N < 100) : ∀ (d k n acc : Nat) (σ : Sg) (A : Nat → Nat), k + d = N → d < n → rM σ A → okA A → rulM σ W → ∃ σ', f_X12_rest_l4 (nI N) n (nI acc) (nI k) σ = some (nI (acc + (restN W d A).1), σ') ∧ rM σ' (restN W d A).2 ∧ okA (restN W d A).2 ∧ sameM σ σ'
  | d, k, 0, acc, σ, A, _, h, _, _, _ => absurd h (by omega)
  | d, k, n + 1, acc, σ, A, hd, hn, hr, ok, hW => by
    show ∃ σ', f_X12_rest_b4 (f_X12_rest_l4 (nI N) n) (nI N) (nI acc) (nI k) σ = some (_, σ') ∧ _
    unfold f_X12_rest_b4
    cases d with
    | zero =>
      rw [if_pos (nI_le (by omega) (by omega))]
      exact ⟨σ, rfl, hr, ok, sameM.rf σ⟩
    | succ d =>
      rw [if_neg (nI_ge (by omega) (by omega)), m_over hr ok]
      by_cases q : A 2 ≤ A 3
      · rw [if_pos (decide_eq_true q), restN_o q]
        exact ⟨σ, rfl, hr, ok, sameM.rf σ⟩
      · have h16 := ok.1.2.2.1
        obtain ⟨σ1, p1, p2, p3, p4, -⟩ := m_goesR hr ok (by omega) hw hW
        rw [if_neg (fun z => q (of_decide_eq_true z)), p1, bd2_some, lt_ap, nI_add, nI_1, restN_s q]
        obtain ⟨σ', r1, r2, r3, r4⟩ := m_rest_l hw hN d (k + 1) n (acc + (restA W A).1) σ1 (restA W A).2 (by omega) (by omega) p2 p3 (hW.mono p4)
        exact ⟨σ', by rw [r1, Nat.add_assoc], r2, r3, p4.tr r4⟩
theorem m_restTried {σ : Sg} {A : Nat → Nat} {W : WT} (h : rM σ A) (ok : okA A) (hw : okW W) (hW : rulM σ W) {n : Nat} (hn : n < 100) : ∃ σ', f_X12_restTried (nI n) σ = some (nI (restN W n A).1, σ') ∧ eqQ σ σ' := by
  obtain ⟨σ1, p1, p2, p3⟩ := m_puts σ
  have h1 : rM σ1 A := fun i a b c d => by rw [p3 1 (by decide)]; exact h i a b c d
  have hW1 : rulM σ1 W := hW.eq (fun i _ _ => by rw [p3 1 (by decide)])
  obtain ⟨σ2, r1, -, -, r4⟩ := m_rest_l hw hn n 0 400 0 σ1 A (by omega) (by omega) h1 ok hW1
  obtain ⟨σ3, b1, b2, b3⟩ := m_back σ2
  unfold f_X12_restTried f_X12_rest
  simp only [lit]
  rw [p1, bnd_some, r1, bd2_some, b1, bnd_some, Nat.zero_add]
  exact ⟨σ3, rfl, tried p2 p3 r4 b2 b3⟩
theorem cpy_at {σ : Sg} {a b n k : Nat} (h : k < n) : cpy σ a b n b k = σ a k := by unfold cpy upR; rw [if_pos rfl, if_pos h]
theorem cpy_ne {σ : Sg} {a b n p : Nat} (h : p ≠ b) : cpy σ a b n p = σ p := by unfold cpy upR; rw [if_neg h]
theorem c_copy {n m : Nat} (h : n + 2 < m ∨ m + 2 < n) {σ : Sg} {A : Nat → Nat} {sc : Int32} (hd : rCd σ m A sc) : rCd (f_X10_copy n m σ) n A sc ∧ ∀ p, p ≠ n → p ≠ n + 1 → p ≠ n + 2 → f_X10_copy n m σ p = σ p := by
  obtain ⟨h0, h1, h2, h3, h4⟩ := hd
  unfold f_X10_copy
  simp only [lt_ap]
  refine ⟨⟨?_, ?_, ?_, ?_, fun k hk => ⟨?_, ?_⟩⟩, fun p a b c => ?_⟩
  · rw [cpy_ne (by omega), cpy_ne (by omega), upS_nj (by omega), upS_nj (by omega), upS_nj (by omega), upS_at, h0]
  · rw [cpy_ne (by omega), cpy_ne (by omega), upS_nj (by omega), upS_nj (by omega), upS_at, upS_nj (by omega), h1]
  · rw [cpy_ne (by omega), cpy_ne (by omega), upS_nj (by omega), upS_at, upS_nj (by omega), upS_nj (by omega), h2]
  · rw [cpy_ne (by omega), cpy_ne (by omega), upS_at, upS_nj (by omega), upS_nj (by omega), upS_nj (by omega), h3]
  · rw [cpy_ne (by omega), cpy_at hk, upS_ne (by omega), upS_ne (by omega), upS_ne (by omega), upS_ne (by omega)]; exact (h4 k hk).1
  · rw [cpy_at hk, cpy_ne (by omega), upS_ne (by omega), upS_ne (by omega), upS_ne (by omega), upS_ne (by omega)]; exact (h4 k hk).2
  · rw [cpy_ne c, cpy_ne b, upS_ne a, upS_ne a, upS_ne a, upS_ne a]
theorem sky64 : isSky 64 := by unfold isSky; omega
theorem sky41 : isSky 41 := by unfold isSky; omega
theorem fC.k {σ σ' : Sg} (h : fC 64 σ σ') : eqK σ σ' := eqK.of (fun p a b => h p (by omega) (by omega) (by omega) b)
theorem c_rest_l {W : WT} (hw : okW W) {N : Nat} (hN : N < 100) : ∀ (d k n acc : Nat) (σ : Sg) (A : Nat → Nat) (sc : Int32), k + d = N → d < n → rCs σ A → rCd σ 64 A sc → okA A → rulC σ W → ∃ σ', f_X11_worthOnTrial_l4 (nI N) n (nI acc) (nI k) σ = some (nI (acc + (restN W d A).1), σ') ∧ fC 64 σ σ'
  | d, k, 0, acc, σ, A, sc, _, h, _, _, _, _ => absurd h (by omega)
  | d, k, n + 1, acc, σ, A, sc, hd, hn, hs, hr, ok, hW => by
    show ∃ σ', f_X11_worthOnTrial_b4 (f_X11_worthOnTrial_l4 (nI N) n) (nI N) (nI acc) (nI k) σ = some (_, σ') ∧ _
    unfold f_X11_worthOnTrial_b4
    cases d with
    | zero =>
      rw [if_pos (nI_le (by omega) (by omega))]
      exact ⟨σ, rfl, fC.rf _ σ⟩
    | succ d =>
      rw [if_neg (nI_ge (by omega) (by omega)), c_over hs hr ok]
      by_cases q : A 2 ≤ A 3
      · rw [if_pos (decide_eq_true q), restN_o q]
        exact ⟨σ, rfl, fC.rf _ σ⟩
      · have h16 := ok.1.2.2.1
        obtain ⟨σ1, p1, p2, p3, p4⟩ := c_goRest sky64 hs hr ok (by omega) hw hW
        have ok1 := rest_ok (W := W) ok (by omega)
        rw [if_neg (fun z => q (of_decide_eq_true z)), p1, bd2_some, lt_ap, nI_add, nI_1, restN_s q]
        obtain ⟨σ', r1, r2⟩ := c_rest_l hw hN d (k + 1) n (acc + (restA W A).1) σ1 (restA W A).2 _ (by omega) (by omega) p3 p2 ok1 (p4.r sky64 hW)
        exact ⟨σ', by rw [r1, Nat.add_assoc], p4.tr r2⟩
theorem c_rest {W : WT} (hw : okW W) {σ : Sg} {A : Nat → Nat} {sc : Int32} (hs : rCs σ A) (hd : rCd σ 64 A sc) (ok : okA A) (hW : rulC σ W) {n : Nat} (hn : n < 100) : ∃ σ', f_X11_worthOnTrial (nI n) σ = some (nI (restN W n A).1, σ') ∧ fC 64 σ σ' := by
  unfold f_X11_worthOnTrial
  simp only [lit]
  obtain ⟨σ', r1, r2⟩ := c_rest_l hw hn n 0 400 0 σ A sc (by omega) (by omega) hs hd ok hW
  exact ⟨σ', by rw [r1, Nat.zero_add], r2⟩
theorem c_trial {σ : Sg} {A : Nat → Nat} {sc : Int32} {W : WT} (hs : rCs σ A) (hd : rCd σ 41 A sc) (hW : rulC σ W) : rCs (f_X10_copy 64 41 σ) A ∧ rCd (f_X10_copy 64 41 σ) 64 A sc ∧ rulC (f_X10_copy 64 41 σ) W ∧ fC 64 σ (f_X10_copy 64 41 σ) := by
  obtain ⟨h1, h2⟩ := c_copy (n := 64) (m := 41) (by omega) hd
  exact ⟨hs.mono (fun p a b => h2 p (by omega) (by omega) (by omega)), h1, hW.mono (fun p a b => h2 p (by omega) (by omega) (by omega)), fun p a b c _ => h2 p a b c⟩
theorem c_worthOfRest {σ : Sg} {A : Nat → Nat} {sc : Int32} {W : WT} (hw : okW W) (hs : rCs σ A) (hd : rCd σ 41 A sc) (ok : okA A) (hW : rulC σ W) {n : Nat} (hn : n < 100) : ∃ σ', f_X11_worthOfRest (nI n) σ = some (nI (restN W n A).1, σ') ∧ fC 64 σ σ' := by
  obtain ⟨t1, t2, t3, t4⟩ := c_trial hs hd hW
  obtain ⟨σ', r1, r2⟩ := c_rest hw t1 t2 ok t3 hn
  unfold f_X11_worthOfRest
  rw [lt_ap, r1, bd2_some]
  exact ⟨σ', rfl, t4.tr r2⟩
theorem fC.o {σ σ' : Sg} (h : fC 41 σ σ') : oC σ σ' := oC.of (fun p hp => h p (by omega) (by omega) (by omega) (by omega))
