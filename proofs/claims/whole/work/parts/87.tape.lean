/-! the tape: bytes, rows, starts -/
def isL (b : Nat) : Bool := decide (97 ≤ b ∧ b ≤ 122)
def isD (b : Nat) : Bool := decide (48 ≤ b ∧ b ≤ 57)
def tpM (B : Nat → Nat) (n : Nat) (σ : Sg) : Prop := n ≤ 200 ∧ (∀ i, i < 200 → B i < 256 ∧ σ 9 i = nI (B i)) ∧ σ 0 21 = nI n
def tpC (B : Nat → Nat) (n : Nat) (σ : Sg) : Prop := n ≤ 200 ∧ (∀ i, i < 200 → B i < 256 ∧ σ 68 i = sx8 (nI (B i))) ∧ σ 67 0 = nI n
theorem m_isL0 : ∀ b, b < 256 → f_X12_isLetter (nI b) z0 = isL b := by decide +kernel
theorem m_isL {b : Nat} (h : b < 256) (σ : Sg) : f_X12_isLetter (nI b) σ = isL b := m_isL0 b h
theorem m_isD0 : ∀ b, b < 256 → f_X12_isDigit (nI b) z0 = isD b := by decide +kernel
theorem m_isD {b : Nat} (h : b < 256) (σ : Sg) : f_X12_isDigit (nI b) σ = isD b := m_isD0 b h
theorem m_isLn (σ : Sg) : f_X12_isLetter (-1) σ = false := (by decide +kernel : f_X12_isLetter (-1) z0 = false)
theorem m_isDn (σ : Sg) : f_X12_isDigit (-1) σ = false := (by decide +kernel : f_X12_isDigit (-1) z0 = false)
theorem c_isL0 : ∀ b, b < 256 → f_X11_within (sx8 (nI b)) 97 122 z0 = isL b := by decide +kernel
theorem c_isD0 : ∀ b, b < 256 → f_X11_within (sx8 (nI b)) 48 57 z0 = isD b := by decide +kernel
theorem c_isL {B : Nat → Nat} {n : Nat} {σ : Sg} (h : tpC B n σ) {i : Nat} (hi : i < 200) : f_X8_isLetter (nI i) σ = some (isL (B i)) := by
  obtain ⟨b1, b2⟩ := h.2.1 i hi
  unfold f_X8_isLetter
  rw [rd_nI hi (by decide), bnd_some, b2]
  exact congrArg some (c_isL0 (B i) b1)
theorem c_isD {B : Nat → Nat} {n : Nat} {σ : Sg} (h : tpC B n σ) {i : Nat} (hi : i < 200) : f_X8_isDigit (nI i) σ = some (isD (B i)) := by
  obtain ⟨b1, b2⟩ := h.2.1 i hi
  unfold f_X8_isDigit
  rw [rd_nI hi (by decide), bnd_some, b2]
  exact congrArg some (c_isD0 (B i) b1)
def oneR (B : Nat → Nat) (i j : Nat) : Bool := if isL (B i) = true ∧ isL (B j) = true then true else if isD (B i) = true ∧ isD (B j) = true then true else false
theorem oneR_iff {B : Nat → Nat} {i j : Nat} : oneR B i j = true ↔ (isL (B i) = true ∧ isL (B j) = true) ∨ (isD (B i) = true ∧ isD (B j) = true) := by
  unfold oneR
  by_cases h1 : isL (B i) = true ∧ isL (B j) = true
  · rw [if_pos h1]; exact ⟨fun _ => Or.inl h1, fun _ => rfl⟩
  · rw [if_neg h1]
    by_cases h2 : isD (B i) = true ∧ isD (B j) = true
    · rw [if_pos h2]; exact ⟨fun _ => Or.inr h2, fun _ => rfl⟩
    · rw [if_neg h2]
      exact ⟨fun z => (by cases z), fun z => z.elim (fun y => absurd y h1) (fun y => absurd y h2)⟩
theorem c_oneR {B : Nat → Nat} {n : Nat} {σ : Sg} (h : tpC B n σ) {i j : Nat} (hi : i < 200) (hj : j < 200) : f_X8_isOneRow (nI i) (nI j) σ = some (oneR B i j) := by
  unfold f_X8_isOneRow f_X8_isOneRow_b16
  rw [c_isL h hi, c_isL h hj, c_isD h hi, c_isD h hj]
  simp only [bnd_some]
  unfold oneR
  generalize isL (B i) = a
  generalize isL (B j) = b
  generalize isD (B i) = c
  generalize isD (B j) = d
  cases a <;> cases b <;> cases c <;> cases d <;> rfl
theorem L_n32 {b : Nat} (h : isL b = true) : ¬ b = 32 := fun e => by subst e; exact absurd h (by decide)
theorem D_n32 {b : Nat} (h : isD b = true) : ¬ b = 32 := fun e => by subst e; exact absurd h (by decide)
theorem one_n32 {B : Nat → Nat} {i j : Nat} (h : oneR B i j = true) : ¬ B i = 32 ∧ ¬ B j = 32 := by
  rcases oneR_iff.mp h with ⟨a, b⟩ | ⟨a, b⟩
  · exact ⟨L_n32 a, L_n32 b⟩
  · exact ⟨D_n32 a, D_n32 b⟩
def endN (B : Nat → Nat) : Nat → Nat → Nat
  | 0, e => e
  | d + 1, e => if oneR B (e - 1) e = true then endN B d (e + 1) else e
theorem endN_t {B : Nat → Nat} {d e : Nat} (h : oneR B (e - 1) e = true) : endN B (d + 1) e = endN B d (e + 1) := if_pos h
theorem endN_f {B : Nat → Nat} {d e : Nat} (h : ¬ oneR B (e - 1) e = true) : endN B (d + 1) e = e := if_neg h
theorem endN_p {B : Nat → Nat} : ∀ d e, e ≤ endN B d e ∧ endN B d e ≤ e + d ∧ (∀ j, e ≤ j → j < endN B d e → oneR B (j - 1) j = true) ∧ (endN B d e < e + d → ¬ oneR B (endN B d e - 1) (endN B d e) = true)
  | 0, e => ⟨Nat.le_refl _, Nat.le_refl _, fun j h1 h2 => absurd h2 (by show ¬ j < e; omega), fun h => absurd h (by show ¬ e < e + 0; omega)⟩
  | d + 1, e => by
    by_cases q : oneR B (e - 1) e = true
    · obtain ⟨h1, h2, h3, h4⟩ := endN_p d (e + 1) (B := B)
      rw [endN_t q]
      refine ⟨by omega, by omega, fun j j1 j2 => ?_, fun h => h4 (by omega)⟩
      by_cases e2 : j = e
      · subst e2; exact q
      · exact h3 j (by omega) j2
    · rw [endN_f q]
      exact ⟨Nat.le_refl _, by omega, fun j h1 h2 => absurd h2 (by omega), fun _ => q⟩
def endR (B : Nat → Nat) (n s : Nat) : Nat := if s < n then endN B (n - (s + 1)) (s + 1) else n
theorem endR_p {B : Nat → Nat} {n s : Nat} (h : s < n) : s < endR B n s ∧ endR B n s ≤ n ∧ (∀ j, s < j → j < endR B n s → oneR B (j - 1) j = true) ∧ (endR B n s < n → ¬ oneR B (endR B n s - 1) (endR B n s) = true) := by
  unfold endR
  rw [if_pos h]
  obtain ⟨h1, h2, h3, h4⟩ := endN_p (n - (s + 1)) (s + 1) (B := B)
  exact ⟨by omega, by omega, fun j a b => h3 j (by omega) b, fun a => h4 (by omega)⟩
theorem endR_n {B : Nat → Nat} {n s : Nat} (h : ¬ s < n) : endR B n s = n := if_neg h
theorem endR_le (B : Nat → Nat) (n s : Nat) : endR B n s ≤ n := by
  by_cases h : s < n
  · exact (endR_p h).2.1
  · rw [endR_n h]; exact Nat.le_refl _
theorem c_end_l {B : Nat → Nat} {n : Nat} {σ : Sg} (h : tpC B n σ) : ∀ d e m, e + d = n → d < m → 0 < e → f_X8_endOfRow_l4 σ m (nI e) = some (nI (endN B d e))
  | d, e, 0, _, hm, _ => absurd hm (by omega)
  | d, e, m + 1, hd, hm, he => by
    have hn := h.1
    show f_X8_endOfRow_b4 (f_X8_endOfRow_l4 σ m) σ (nI e) = _
    unfold f_X8_endOfRow_b4
    rw [h.2.2]
    cases d with
    | zero =>
      rw [if_pos (nI_le (by omega) (by omega))]
      show some (nI n) = some (nI e)
      rw [show n = e by omega]
    | succ d =>
      rw [if_neg (nI_ge (by omega) (by omega)), show nI e - 1 = nI (e - 1) from pk_sub (b := 1) (by omega), c_oneR h (by omega) (by omega), bnd_some]
      by_cases q : oneR B (e - 1) e = true
      · rw [if_pos q, endN_t q, nI_1]
        exact c_end_l h d (e + 1) m (by omega) (by omega) (by omega)
      · rw [if_neg q, endN_f q]
theorem c_endR {B : Nat → Nat} {n : Nat} {σ : Sg} (h : tpC B n σ) {s : Nat} (hs : s < n) : f_X8_endOfRow (nI s) σ = some (nI (endR B n s)) := by
  have hn := h.1
  unfold f_X8_endOfRow endR
  rw [lt_ap, nI_1, if_pos hs]
  exact c_end_l h (n - (s + 1)) (s + 1) 400 (by omega) (by omega) (by omega)
def nxN (B : Nat → Nat) : Nat → Nat → Nat
  | 0, p => p
  | d + 1, p => if B p = 32 then nxN B d (p + 1) else p
theorem nxN_t {B : Nat → Nat} {d p : Nat} (h : B p = 32) : nxN B (d + 1) p = nxN B d (p + 1) := if_pos h
theorem nxN_f {B : Nat → Nat} {d p : Nat} (h : ¬ B p = 32) : nxN B (d + 1) p = p := if_neg h
theorem nxN_p {B : Nat → Nat} : ∀ d p, p ≤ nxN B d p ∧ nxN B d p ≤ p + d ∧ (∀ j, p ≤ j → j < nxN B d p → B j = 32) ∧ (nxN B d p < p + d → ¬ B (nxN B d p) = 32)
  | 0, p => ⟨Nat.le_refl _, Nat.le_refl _, fun j h1 h2 => absurd h2 (by show ¬ j < p; omega), fun h => absurd h (by show ¬ p < p + 0; omega)⟩
  | d + 1, p => by
    by_cases q : B p = 32
    · obtain ⟨h1, h2, h3, h4⟩ := nxN_p d (p + 1) (B := B)
      rw [nxN_t q]
      refine ⟨by omega, by omega, fun j j1 j2 => ?_, fun h => h4 (by omega)⟩
      by_cases e2 : j = p
      · subst e2; exact q
      · exact h3 j (by omega) j2
    · rw [nxN_f q]
      exact ⟨Nat.le_refl _, by omega, fun j h1 h2 => absurd h2 (by omega), fun _ => q⟩
def nextS (B : Nat → Nat) (n p : Nat) : Nat := nxN B (n - p) p
theorem nextS_p {B : Nat → Nat} {n p : Nat} (h : p ≤ n) : p ≤ nextS B n p ∧ nextS B n p ≤ n ∧ (∀ j, p ≤ j → j < nextS B n p → B j = 32) ∧ (nextS B n p < n → ¬ B (nextS B n p) = 32) := by
  obtain ⟨h1, h2, h3, h4⟩ := nxN_p (n - p) p (B := B)
  unfold nextS
  exact ⟨h1, by omega, h3, fun a => h4 (by omega)⟩
/-- the next start, from where all is blank up to here -/
theorem nextS_to {B : Nat → Nat} {n p i : Nat} (hp : p ≤ n) (hi : p ≤ i) (hin : i ≤ n) (hb : ∀ j, p ≤ j → j < i → B j = 32) (he : i = n ∨ ¬ B i = 32) : nextS B n p = i := by
  obtain ⟨h1, h2, h3, h4⟩ := nextS_p (B := B) hp
  rcases Nat.lt_trichotomy (nextS B n p) i with q | q | q
  · exact absurd (hb _ h1 q) (h4 (by omega))
  · exact q
  · rcases he with e | e
    · omega
    · exact absurd (h3 i hi q) e
def eN (B : Nat → Nat) (n : Nat) : Nat → Nat
  | 0 => 0
  | j + 1 => endR B n (nextS B n (eN B n j))
def stN (B : Nat → Nat) (n j : Nat) : Nat := nextS B n (eN B n j)
theorem eN_s (B : Nat → Nat) (n j : Nat) : eN B n (j + 1) = endR B n (stN B n j) := rfl
theorem eN_le (B : Nat → Nat) (n : Nat) : ∀ j, eN B n j ≤ n
  | 0 => Nat.zero_le _
  | j + 1 => by rw [eN_s]; exact endR_le B n _
theorem stN_le (B : Nat → Nat) (n j : Nat) : eN B n j ≤ stN B n j ∧ stN B n j ≤ n := by
  obtain ⟨h1, h2, -⟩ := nextS_p (B := B) (eN_le B n j)
  exact ⟨h1, h2⟩
theorem stN_lt {B : Nat → Nat} {n j : Nat} (h : stN B n j < n) : stN B n j < eN B n (j + 1) ∧ stN B n j < stN B n (j + 1) := by
  have a := (endR_p (B := B) h).1
  have b := (stN_le B n (j + 1)).1
  rw [eN_s] at b ⊢
  exact ⟨a, by omega⟩
theorem stN_end {B : Nat → Nat} {n j : Nat} (h : stN B n j = n) : stN B n (j + 1) = n ∧ eN B n (j + 1) = n := by
  have e : eN B n (j + 1) = n := by rw [eN_s, h, endR_n (by omega)]
  have := stN_le B n (j + 1)
  exact ⟨by omega, e⟩
/-! the reference's token -/
theorem m_byte {B : Nat → Nat} {n : Nat} {σ : Sg} (h : tpM B n σ) {i : Nat} (hi : i ≤ 200) : f_X12_byteAt (nI i) σ = some (if i < n then nI (B i) else -1) := by
  have hn := h.1
  unfold f_X12_byteAt
  rw [h.2.2]
  by_cases q : i < n
  · rw [if_neg (nI_ge q (by omega)), rd_nI (by omega) (by decide), bnd_some, (h.2.1 i (by omega)).2, if_pos q]
  · rw [if_pos (nI_le (by omega) (by omega)), if_neg q]
theorem tpM.up {B : Nat → Nat} {n : Nat} {σ : Sg} (h : tpM B n σ) {j : Nat} (hj : j ≠ 21) (v : Int32) : tpM B n (upS σ 0 j v) := ⟨h.1, fun i hi => by rw [upS_ne (by decide)]; exact h.2.1 i hi, by rw [upS_nj (by omega)]; exact h.2.2⟩
/-- what a token changes -/
def tkF (σ σ' : Sg) : Prop := (∀ p, p ≠ 0 → σ' p = σ p) ∧ ∀ i, i ≠ 22 → i ≠ 23 → σ' 0 i = σ 0 i
theorem tkF.tr {a b c : Sg} (h : tkF a b) (g : tkF b c) : tkF a c := ⟨fun p hp => (g.1 p hp).trans (h.1 p hp), fun i a b => (g.2 i a b).trans (h.2 i a b)⟩
theorem tkF.rf (σ : Sg) : tkF σ σ := ⟨fun _ _ => rfl, fun _ _ _ => rfl⟩
theorem tkF.up {σ : Sg} {i : Nat} {v : Int32} (h : i = 22 ∨ i = 23) : tkF σ (upS σ 0 i v) := ⟨fun p hp => upS_ne hp, fun j a b => upS_nj (by omega)⟩
theorem tkF.tp {B : Nat → Nat} {n : Nat} {σ σ' : Sg} (f : tkF σ σ') (h : tpM B n σ) : tpM B n σ' := ⟨h.1, fun i hi => by rw [f.1 9 (by decide)]; exact h.2.1 i hi, by rw [f.2 21 (by decide) (by decide)]; exact h.2.2⟩
theorem LD_no {b : Nat} (h : isL b = true) : isD b = false := by
  unfold isL at h
  rw [decide_eq_true_eq] at h
  unfold isD
  exact decide_eq_false (fun z => by omega)
theorem m_row_l {B : Nat → Nat} {n s : Nat} (hs : s < n) : ∀ d e m (σ : Sg), e + d = n → d < m → s < e → tpM B n σ → σ 0 22 = nI s → σ 0 23 = nI e → (∀ j, s < j → j < e → oneR B (j - 1) j = true) →
    ∃ σ', f_X12_token_l86 (b2i (isL (B s))) (b2i (isD (B s))) m σ = some σ' ∧ σ' 0 22 = nI s ∧ σ' 0 23 = nI (endN B d e) ∧ tkF σ σ'
  | d, e, 0, σ, _, hm, _, _, _, _, _ => absurd hm (by omega)
  | d, e, m + 1, σ, hd, hm, he, h, e22, e23, hr => by
    have hn := h.1
    have hb := (h.2.1 (e - 1) (by omega)).1
    show ∃ σ', f_X12_token_b86 (f_X12_token_l86 (b2i (isL (B s))) (b2i (isD (B s))) m) (b2i (isL (B s))) (b2i (isD (B s))) σ = some σ' ∧ _
    unfold f_X12_token_b86 f_X12_token_b104 f_X12_token_b122
    rw [e23, m_byte h (by omega)]
    simp only [bnd_some]
    -- all of the row is of one sort
    have sort : ∀ j, s ≤ j → j < e → isL (B j) = isL (B s) ∧ isD (B j) = isD (B s) := by
      intro j
      induction j with
      | zero => intro h1 _; rw [show s = 0 by omega]; exact ⟨rfl, rfl⟩
      | succ j ih =>
        intro h1 h2
        by_cases q : s = j + 1
        · rw [q]; exact ⟨rfl, rfl⟩
        · obtain ⟨i1, i2⟩ := ih (by omega) (by omega)
          have o := hr (j + 1) (by omega) h2
          rw [show j + 1 - 1 = j from rfl] at o
          rcases oneR_iff.mp o with ⟨a, b⟩ | ⟨a, b⟩
          · rw [← i1, ← i2, a, b, LD_no a, LD_no b]; exact ⟨rfl, rfl⟩
          · have na : ∀ x, isD x = true → isL x = false := fun x hx => by
              cases q2 : isL x with
              | false => rfl
              | true => exact absurd (LD_no q2) (by rw [hx]; decide)
            rw [← i1, ← i2, a, b, na _ a, na _ b]; exact ⟨rfl, rfl⟩
    obtain ⟨s1, s2⟩ := sort (e - 1) (by omega) (by omega)
    cases d with
    | zero =>
      have hen : ¬ e < n := by omega
      rw [if_neg hen, m_isLn, m_isDn, if_neg (show ¬ false = true by decide), if_neg (show ¬ false = true by decide), show endN B 0 e = e from rfl]
      refine ⟨σ, ?_, e22, e23, tkF.rf σ⟩
      split
      · split <;> rfl
      · split <;> rfl
    | succ d =>
      have hen : e < n := by omega
      have hbe := (h.2.1 e (by omega)).1
      rw [if_pos hen, m_isL hbe, m_isD hbe]
      have next : oneR B (e - 1) e = true → ∃ σ', (lt (upS σ 0 23 (nI e + 1)) fun σ10 => f_X12_token_l86 (b2i (isL (B s))) (b2i (isD (B s))) m σ10) = some σ' ∧ σ' 0 22 = nI s ∧ σ' 0 23 = nI (endN B (d + 1) e) ∧ tkF σ σ' := fun o => by
        rw [lt_ap, nI_1]
        obtain ⟨σ', p1, p2, p3, p4⟩ := m_row_l hs d (e + 1) m (upS σ 0 23 (nI (e + 1))) (by omega) (by omega) (by omega) (h.up (by decide) _) (by rw [upS_nj (by omega)]; exact e22) upS_at (fun j h1 h2 => by
          by_cases q : j = e
          · subst q; exact o
          · exact hr j h1 (by omega))
        exact ⟨σ', p1, p2, by rw [p3, endN_t o], (tkF.up (Or.inr rfl)).tr p4⟩
      have stop : ¬ oneR B (e - 1) e = true → ∃ σ', some σ = some σ' ∧ σ' 0 22 = nI s ∧ σ' 0 23 = nI (endN B (d + 1) e) ∧ tkF σ σ' := fun o => ⟨σ, rfl, e22, by rw [endN_f o]; exact e23, tkF.rf σ⟩
      cases hL : isL (B s) with
      | true =>
        have hD := LD_no hL
        rw [hL] at s1
        rw [hL, hD] at next
        rw [hD, if_neg (show ¬ b2i true = 0 by decide)]
        by_cases q : isL (B e) = true
        · rw [if_pos q]
          exact next (oneR_iff.mpr (Or.inl ⟨s1, q⟩))
        · rw [if_neg q, if_pos (show b2i false = 0 from rfl)]
          refine stop (fun o => ?_)
          rcases oneR_iff.mp o with ⟨a, b⟩ | ⟨a, b⟩
          · exact q b
          · rw [s2, hD] at a; exact absurd a (by decide)
      | false =>
        rw [hL] at s1
        rw [hL] at next
        rw [if_pos (show b2i false = 0 from rfl)]
        cases hD : isD (B s) with
        | true =>
          rw [hD] at s2
          rw [hD] at next
          rw [if_neg (show ¬ b2i true = 0 by decide)]
          by_cases q : isD (B e) = true
          · rw [if_pos q]
            exact next (oneR_iff.mpr (Or.inr ⟨s2, q⟩))
          · rw [if_neg q]
            refine stop (fun o => ?_)
            rcases oneR_iff.mp o with ⟨a, b⟩ | ⟨a, b⟩
            · rw [s1] at a; exact absurd a (by decide)
            · exact q b
        | false =>
          rw [hD] at s2
          rw [if_pos (show b2i false = 0 from rfl)]
          refine stop (fun o => ?_)
          rcases oneR_iff.mp o with ⟨a, b⟩ | ⟨a, b⟩
          · rw [s1] at a; exact absurd a (by decide)
          · rw [s2] at a; exact absurd a (by decide)
theorem m_tok_l {B : Nat → Nat} {n : Nat} : ∀ d p m (σ : Sg), p + d = n → d < m → tpM B n σ → σ 0 22 = nI p → ∃ σ', f_X12_token_l8 m σ = some σ' ∧ σ' 0 22 = nI (nxN B d p) ∧ σ' 0 23 = nI (endR B n (nxN B d p)) ∧ tkF σ σ'
  | d, p, 0, σ, _, hm, _, _ => absurd hm (by omega)
  | d, p, m + 1, σ, hd, hm, h, e22 => by
    have hn := h.1
    show ∃ σ', f_X12_token_b8 (f_X12_token_l8 m) σ = some σ' ∧ _
    unfold f_X12_token_b8
    rw [e22, m_byte h (by omega), h.2.2]
    simp only [bnd_some]
    cases d with
    | zero =>
      have hpn : ¬ p < n := by omega
      rw [if_neg hpn, if_pos (show ¬ (-1 : Int32) = 32 by decide), if_pos (nI_le (by omega) (by omega)), lt_ap, m_isLn, m_isDn]
      refine ⟨upS σ 0 23 (nI p), rfl, by rw [upS_nj (by omega)]; exact e22, by rw [upS_at, show nxN B 0 p = p from rfl, endR_n (by omega), show p = n by omega], tkF.up (Or.inr rfl)⟩
    | succ d =>
      have hb := (h.2.1 p (by omega)).1
      have hpn : p < n := by omega
      rw [if_pos hpn]
      by_cases q : B p = 32
      · rw [if_neg (show ¬ ¬ nI (B p) = 32 from fun z => z (by rw [q]; rfl)), lt_ap, nI_1, nxN_t q]
        obtain ⟨σ', p1, p2, p3, p4⟩ := m_tok_l d (p + 1) m (upS σ 0 22 (nI (p + 1))) (by omega) (by omega) (h.up (by decide) _) upS_at
        exact ⟨σ', p1, p2, p3, (tkF.up (Or.inl rfl)).tr p4⟩
      · rw [if_pos (show ¬ nI (B p) = 32 from fun z => q ((nI_eq (b := 32) (by omega) (by decide)).mp z)), if_neg (nI_ge (by omega) (by omega)), lt_ap, nI_1, nxN_f q, m_isL hb, m_isD hb]
        obtain ⟨σ', p1, p2, p3, p4⟩ := m_row_l hpn (n - (p + 1)) (p + 1) 400 (upS σ 0 23 (nI (p + 1))) (by omega) (by omega) (by omega) (h.up (by decide) _) (by rw [upS_nj (by omega)]; exact e22) upS_at (fun j h1 h2 => absurd h2 (by omega))
        refine ⟨σ', p1, p2, ?_, (tkF.up (Or.inr rfl)).tr p4⟩
        rw [p3]
        unfold endR
        rw [if_pos hpn]
theorem m_token {B : Nat → Nat} {n j : Nat} {σ : Sg} (h : tpM B n σ) (e : σ 0 23 = nI (eN B n j)) : ∃ σ', f_X12_token σ = some σ' ∧ σ' 0 22 = nI (stN B n j) ∧ σ' 0 23 = nI (eN B n (j + 1)) ∧ tkF σ σ' := by
  have hn := h.1
  have he := eN_le B n j
  unfold f_X12_token
  rw [lt_ap, e]
  obtain ⟨σ', p1, p2, p3, p4⟩ := m_tok_l (n - eN B n j) (eN B n j) 400 (upS σ 0 22 (nI (eN B n j))) (by omega) (by omega) (h.up (by decide) _) upS_at
  exact ⟨σ', p1, p2, p3, (tkF.up (Or.inl rfl)).tr p4⟩
