/-! numbers: an int that is a small natural number, as nI n; the leaves of both sides -/
theorem lit (n : Nat) : (OfNat.ofNat n : Int32) = nI n := Int32.toInt_inj.mp rfl
theorem nI_back {x : Int32} (h : 0 ≤ x.toInt) : x = nI x.toInt.toNat := by
  apply Int32.toInt_inj.mp
  have h2 := x.toInt_lt
  rw [nI_toInt (by omega)]
  omega
theorem nI_rng {x : Int32} {lo hi : Nat} (hh : hi < 2 ^ 31) (hl : lo < 2 ^ 31) (h1 : nI lo ≤ x) (h2 : x ≤ nI hi) : ∃ k, lo ≤ k ∧ k ≤ hi ∧ x = nI k := by
  have a := Int32.le_iff_toInt_le.mp h1
  have b := Int32.le_iff_toInt_le.mp h2
  rw [nI_toInt hl] at a
  rw [nI_toInt hh] at b
  exact ⟨x.toInt.toNat, by omega, by omega, nI_back (by omega)⟩
/-- x is from lo to hi -/
def rng (x lo hi : Int32) : Bool := decide (lo ≤ x) && decide (x ≤ hi)
theorem rng_nI {x : Int32} {lo hi : Nat} (hh : hi < 2 ^ 31) (hl : lo < 2 ^ 31) : rng x (nI lo) (nI hi) = true ↔ ∃ k, lo ≤ k ∧ k ≤ hi ∧ x = nI k := by
  unfold rng
  rw [Bool.and_eq_true, decide_eq_true_eq, decide_eq_true_eq]
  constructor
  · rintro ⟨h1, h2⟩
    exact nI_rng hh hl h1 h2
  · rintro ⟨k, h1, h2, rfl⟩
    exact ⟨nI_le h1 (by omega), nI_le h2 hh⟩
theorem m_in (x y z : Int32) (σ : Sg) : f_X12_in x.toInt64 y.toInt64 z.toInt64 σ = rng x y z := by
  have e1 : (lg_cmp x.toInt64 y.toInt64 < 0) ↔ x < y := by
    unfold lg_cmp
    by_cases h : x.toInt64 > y.toInt64
    · rw [if_pos h]
      have := Int32.toInt64_lt.mp h
      constructor
      · intro q; exact absurd q (by decide)
      · intro q; exact absurd (Int32.lt_iff_toInt_lt.mp this) (by have := Int32.lt_iff_toInt_lt.mp q; omega)
    · rw [if_neg h]
      by_cases h2 : x.toInt64 = y.toInt64
      · rw [if_pos h2]
        have h3 : x = y := by have := congrArg Int64.toInt32 h2; simpa using this
        subst h3
        constructor
        · intro q; exact absurd q (by decide)
        · intro q; have := Int32.lt_iff_toInt_lt.mp q; omega
      · rw [if_neg h2]
        constructor
        · intro _
          have h3 : ¬ y < x := fun q => h (Int32.toInt64_lt.mpr q)
          have h4 : x ≠ y := fun q => h2 (by rw [q])
          rw [Int32.lt_iff_toInt_lt] at h3 ⊢
          have h5 : x.toInt ≠ y.toInt := fun q => h4 (Int32.toInt_inj.mp q)
          omega
        · intro _; decide
  have e2 : (0 < lg_cmp x.toInt64 z.toInt64) ↔ z < x := by
    unfold lg_cmp
    by_cases h : x.toInt64 > z.toInt64
    · rw [if_pos h]
      exact ⟨fun _ => Int32.toInt64_lt.mp h, fun _ => by decide⟩
    · rw [if_neg h]
      have h3 : ¬ z < x := fun q => h (Int32.toInt64_lt.mpr q)
      by_cases h2 : x.toInt64 = z.toInt64
      · rw [if_pos h2]
        exact ⟨fun q => absurd q (by decide), fun q => absurd q h3⟩
      · rw [if_neg h2]
        exact ⟨fun q => absurd q (by decide), fun q => absurd q h3⟩
  unfold f_X12_in rng
  by_cases h1 : x < y
  · rw [if_pos (e1.mpr h1)]
    have : ¬ y ≤ x := by rw [Int32.lt_iff_toInt_lt] at h1; rw [Int32.le_iff_toInt_le]; omega
    simp [this]
  · rw [if_neg (fun q => h1 (e1.mp q))]
    have a : y ≤ x := by rw [Int32.lt_iff_toInt_lt] at h1; rw [Int32.le_iff_toInt_le]; omega
    by_cases h2 : z < x
    · rw [if_pos (e2.mpr h2)]
      have : ¬ x ≤ z := by rw [Int32.lt_iff_toInt_lt] at h2; rw [Int32.le_iff_toInt_le]; omega
      simp [this]
    · rw [if_neg (fun q => h2 (e2.mp q))]
      have b : x ≤ z := by rw [Int32.lt_iff_toInt_lt] at h2; rw [Int32.le_iff_toInt_le]; omega
      simp [a, b]
theorem c_in (x y z : Int32) (σ : Sg) : f_X11_within x y z σ = rng x y z := by
  unfold f_X11_within rng
  by_cases h1 : x < y
  · rw [if_pos h1]
    have : ¬ y ≤ x := by rw [Int32.lt_iff_toInt_lt] at h1; rw [Int32.le_iff_toInt_le]; omega
    simp [this]
  · rw [if_neg h1]
    have a : y ≤ x := by rw [Int32.lt_iff_toInt_lt] at h1; rw [Int32.le_iff_toInt_le]; omega
    by_cases h2 : z < x
    · rw [if_pos h2]
      have : ¬ x ≤ z := by rw [Int32.lt_iff_toInt_lt] at h2; rw [Int32.le_iff_toInt_le]; omega
      simp [this]
    · rw [if_neg h2]
      have b : x ≤ z := by rw [Int32.lt_iff_toInt_lt] at h2; rw [Int32.le_iff_toInt_le]; omega
      simp [a, b]
theorem rd_nI {σ : Sg} {p n i : Nat} (h : i < n) (hn : n < 2 ^ 31) : rd σ p n (nI i) = some (σ p i) := by
  unfold rd
  rw [if_neg (nI_in h hn), nI_clamp (by omega)]
theorem wr_nI {σ : Sg} {p n i : Nat} {x : Int32} (h : i < n) (hn : n < 2 ^ 31) : wr σ p n (nI i) x = some (upS σ p i x) := by
  unfold wr
  rw [if_neg (nI_in h hn), nI_clamp (by omega)]
theorem upS_ap (σ : Sg) (p i : Nat) (v : Int32) (q j : Nat) : upS σ p i v q j = if q = p ∧ j = i then v else σ q j := by
  unfold upS upR upd
  by_cases h : q = p
  · subst h
    by_cases h2 : j = i <;> simp [h2]
  · simp [h]
theorem upS_ne {σ : Sg} {p i q : Nat} {v : Int32} (h : q ≠ p) : upS σ p i v q = σ q := by unfold upS upR; rw [if_neg h]
theorem upS_at {σ : Sg} {p i : Nat} {v : Int32} : upS σ p i v p i = v := by rw [upS_ap]; simp
theorem upS_nj {σ : Sg} {p i q j : Nat} {v : Int32} (h : ¬ (q = p ∧ j = i)) : upS σ p i v q j = σ q j := by rw [upS_ap, if_neg h]
theorem bnd_some {α β : Type} (x : α) (k : α → Option β) : Option.bind (some x) k = k x := rfl
theorem bd2_some {α β γ : Type} (x : α) (y : β) (k : α → β → Option γ) : bd2 (some (x, y)) k = k x y := rfl
theorem lt_ap {α β : Sort _} (v : α) (k : α → β) : lt v k = k v := rfl
theorem lt2_ap {α β γ : Type} (x : α) (y : β) (k : α → β → γ) : lt2 (x, y) k = k x y := rfl
theorem fuel_s {α : Type} (z : α) (f : α → α) (n : Nat) : fuel z f (n + 1) = f (fuel z f n) := rfl
/-! the leaves -/
def farN (a b : Nat) : Nat := (if a % 8 ≤ b % 8 then b % 8 - a % 8 else a % 8 - b % 8) + (if a / 8 ≤ b / 8 then b / 8 - a / 8 else a / 8 - b / 8)
def driftN (k f g : Nat) : Nat := if k = 1 then 2 * f else if k = 2 then f - 1 else if k = 3 then (f - 1) + (if g % 2 = 0 then 1 else 0) else if k = 4 then min f 1 else if k = 5 then (if g % 2 = 0 then min f 1 else 0) else f
def feeN (k n : Nat) : Nat := if k = 1 then 6 else if k = 2 then 4 + n else if k = 3 then 8 + 2 * n else if k = 4 then 3 else if k = 5 then 1 else 4
def roomN (c w most : Nat) : Nat := min most (if w = 0 then 7 - c % 8 else if w = 1 then 7 - c / 8 else if w = 2 then c % 8 else c / 8)
def movedN (c w b : Nat) : Nat := if w = 0 then c + b else if w = 1 then c + 8 * b else if w = 2 then c - b else c - 8 * b
def underN (k o : Nat) : Bool := decide (o = 0 ∨ k = o ∨ (k = 3 ∧ o = 2) ∨ (k = 5 ∧ o = 4))
def z0 : Sg := fun _ _ => 0
theorem far_lt : ∀ a, a < 64 → ∀ b, b < 64 → farN a b ≤ 14 := by decide +kernel
theorem m_far0 : ∀ a, a < 64 → ∀ b, b < 64 → f_X12_far (nI a) (nI b) z0 = nI (farN a b) := by decide +kernel
theorem m_far {a b : Nat} (ha : a < 64) (hb : b < 64) (σ : Sg) : f_X12_far (nI a) (nI b) σ = nI (farN a b) := m_far0 a ha b hb
theorem c_far0 : ∀ a, a < 64 → ∀ b, b < 64 → f_X11_far (nI a) (nI b) z0 = nI (farN a b) := by decide +kernel
theorem c_far {a b : Nat} (ha : a < 64) (hb : b < 64) (σ : Sg) : f_X11_far (nI a) (nI b) σ = nI (farN a b) := c_far0 a ha b hb
theorem m_drift0 : ∀ k, k < 6 → ∀ f, f < 4 → ∀ g, g < 16 → f_X12_driftOf (nI k) (nI f) (nI g) z0 = nI (driftN k f g) := by decide +kernel
theorem m_drift {k f g : Nat} (hk : k < 6) (hf : f < 4) (hg : g < 16) (σ : Sg) : f_X12_driftOf (nI k) (nI f) (nI g) σ = nI (driftN k f g) := m_drift0 k hk f hf g hg
theorem c_drift0 : ∀ k, k < 6 → ∀ f, f < 4 → ∀ g, g < 16 → cv_drifts k (nI f) (nI g) z0 = nI (driftN k f g) := by decide +kernel
theorem c_drift {k f g : Nat} (hk : k < 6) (hf : f < 4) (hg : g < 16) (σ : Sg) : cv_drifts k (nI f) (nI g) σ = nI (driftN k f g) := by
  rw [← c_drift0 k hk f hf g hg]
  match k, hk with
  | 0, _ | 1, _ | 2, _ | 3, _ | 4, _ | 5, _ => rfl
  | k + 6, h => exact absurd h (by omega)
theorem drift_le : ∀ k, k < 6 → ∀ f, f < 4 → ∀ g, g < 16 → driftN k f g ≤ 6 := by decide +kernel
theorem c_fee0 : ∀ k, k < 6 → ∀ n, n < 6 → cv_fee k (nI n) z0 = nI (feeN k n) := by decide +kernel
theorem c_fee {k n : Nat} (hk : k < 6) (hn : n < 6) (σ : Sg) : cv_fee k (nI n) σ = nI (feeN k n) := by
  rw [← c_fee0 k hk n hn]
  match k, hk with
  | 0, _ | 1, _ | 2, _ | 3, _ | 4, _ | 5, _ => rfl
  | k + 6, h => exact absurd h (by omega)
theorem fee_le : ∀ k, k < 6 → ∀ n, n < 6 → feeN k n ≤ 18 := by decide +kernel
theorem m_room0 : ∀ c, c < 64 → ∀ w, w < 4 → ∀ b, b < 10 → f_X12_room (nI c) (nI w) (nI b) z0 = nI (roomN c w b) := by decide +kernel
theorem m_room {c w b : Nat} (hc : c < 64) (hw : w < 4) (hb : b < 10) (σ : Sg) : f_X12_room (nI c) (nI w) (nI b) σ = nI (roomN c w b) := m_room0 c hc w hw b hb
theorem m_moved0 : ∀ c, c < 64 → ∀ w, w < 4 → ∀ b, b < 10 → f_X12_moved (nI c) (nI w) (nI (roomN c w b)) z0 = nI (movedN c w (roomN c w b)) := by decide +kernel
theorem m_moved {c w b : Nat} (hc : c < 64) (hw : w < 4) (hb : b < 10) (σ : Sg) : f_X12_moved (nI c) (nI w) (nI (roomN c w b)) σ = nI (movedN c w (roomN c w b)) := m_moved0 c hc w hw b hb
theorem c_room0 : ∀ c, c < 64 → ∀ w, w < 4 → ∀ b, b < 10 → min32 (nI b) (f_X11_room (nI c) (nI w) z0) = nI (roomN c w b) := by decide +kernel
theorem c_room {c w b : Nat} (hc : c < 64) (hw : w < 4) (hb : b < 10) (σ : Sg) : min32 (nI b) (f_X11_room (nI c) (nI w) σ) = nI (roomN c w b) := c_room0 c hc w hw b hb
theorem c_moved0 : ∀ c, c < 64 → ∀ w, w < 4 → ∀ b, b < 10 → nI c + (nI (roomN c w b)) * f_X11_step (nI w) z0 = nI (movedN c w (roomN c w b)) := by decide +kernel
theorem c_moved {c w b : Nat} (hc : c < 64) (hw : w < 4) (hb : b < 10) (σ : Sg) : nI c + (nI (roomN c w b)) * f_X11_step (nI w) σ = nI (movedN c w (roomN c w b)) := c_moved0 c hc w hw b hb
theorem moved_lt : ∀ c, c < 64 → ∀ w, w < 4 → ∀ b, b < 10 → movedN c w (roomN c w b) < 64 := by decide +kernel
theorem room_le (c w b : Nat) : roomN c w b ≤ b := Nat.min_le_left _ _
theorem m_under0 : ∀ k, k < 6 → ∀ o, o < 6 → f_X12_isUnder (nI k) (nI o) z0 = underN k o := by decide +kernel
theorem m_under {k o : Nat} (hk : k < 6) (ho : o < 6) (σ : Sg) : f_X12_isUnder (nI k) (nI o) σ = underN k o := m_under0 k hk o ho
theorem c_under0 : ∀ k, k < 6 → ∀ o, o < 6 → f_X11_isOrUnder (nI k) (nI o) z0 = underN k o := by decide +kernel
theorem c_under {k o : Nat} (hk : k < 6) (ho : o < 6) (σ : Sg) : f_X11_isOrUnder (nI k) (nI o) σ = underN k o := c_under0 k hk o ho
/-! sets -/
theorem c_isIn0 : ∀ s, s < 64 → ∀ k, k < 6 → f_X11_isIn (nI s) (nI k) z0 = decide (s / 2 ^ k % 2 = 1) := by decide +kernel
theorem c_isIn {s k : Nat} (hs : s < 64) (hk : k < 6) (σ : Sg) : f_X11_isIn (nI s) (nI k) σ = decide (s / 2 ^ k % 2 = 1) := c_isIn0 s hs k hk
def bitN (s k v : Nat) : Nat := s - s / 2 ^ k % 2 * 2 ^ k + v * 2 ^ k
theorem c_withBit0 : ∀ s, s < 64 → ∀ k, k < 6 → ∀ v, v < 2 → f_X11_withBit (nI s) (nI k) (nI v) z0 = nI (bitN s k v) := by decide +kernel
theorem c_withBit {s k v : Nat} (hs : s < 64) (hk : k < 6) (hv : v < 2) (σ : Sg) : f_X11_withBit (nI s) (nI k) (nI v) σ = nI (bitN s k v) := c_withBit0 s hs k hk v hv
