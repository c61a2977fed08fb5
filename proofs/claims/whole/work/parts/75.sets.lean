/-! sets of kites: cases -/
def subS (s t : Nat) : Prop := ∀ j, j < 6 → s / 2 ^ j % 2 = 1 → t / 2 ^ j % 2 = 1
theorem subS.rf (s : Nat) : subS s s := fun _ _ h => h
theorem subS.tr {a b c : Nat} (h : subS a b) (g : subS b c) : subS a c := fun j hj q => g j hj (h j hj q)
theorem bit_eq {a b : Nat} (h : a % 2 = 1 → b % 2 = 1) (g : b % 2 = 1 → a % 2 = 1) : a % 2 = b % 2 := by omega
theorem bits_eq : ∀ s t : Nat, s < 64 → t < 64 → s % 2 = t % 2 → s / 2 % 2 = t / 2 % 2 → s / 4 % 2 = t / 4 % 2 → s / 8 % 2 = t / 8 % 2 → s / 16 % 2 = t / 16 % 2 → s / 32 % 2 = t / 32 % 2 → s = t := by
  intro s t hs ht h0 h1 h2 h3 h4 h5
  have e5 : s / 32 = t / 32 := by omega
  have e4 : s / 16 = t / 16 := by omega
  have e3 : s / 8 = t / 8 := by omega
  have e2 : s / 4 = t / 4 := by omega
  have e1 : s / 2 = t / 2 := by omega
  omega
theorem sub_eq {s t : Nat} (hs : s < 64) (ht : t < 64) (h : subS s t) (g : subS t s) : s = t := by
  have a0 : s / 1 % 2 = 1 → t / 1 % 2 = 1 := h 0 (by decide)
  have b0 : t / 1 % 2 = 1 → s / 1 % 2 = 1 := g 0 (by decide)
  rw [Nat.div_one, Nat.div_one] at a0 b0
  exact bits_eq s t hs ht (bit_eq a0 b0) (bit_eq (a := s / 2) (b := t / 2) (h 1 (by decide)) (g 1 (by decide))) (bit_eq (a := s / 4) (b := t / 4) (h 2 (by decide)) (g 2 (by decide))) (bit_eq (a := s / 8) (b := t / 8) (h 3 (by decide)) (g 3 (by decide))) (bit_eq (a := s / 16) (b := t / 16) (h 4 (by decide)) (g 4 (by decide))) (bit_eq (a := s / 32) (b := t / 32) (h 5 (by decide)) (g 5 (by decide)))
theorem pc_key : ∀ a0 a1 a2 a3 a4 a5 b0 b1 b2 b3 b4 b5 : Nat, a0 ≤ b0 → a1 ≤ b1 → a2 ≤ b2 → a3 ≤ b3 → a4 ≤ b4 → a5 ≤ b5 → b0 + b1 + b2 + b3 + b4 + b5 ≤ a0 + a1 + a2 + a3 + a4 + a5 → b0 = a0 ∧ b1 = a1 ∧ b2 = a2 ∧ b3 = a3 ∧ b4 = a4 ∧ b5 = a5 := by
  intros
  omega
theorem bit_le {a b : Nat} (h : a % 2 = 1 → b % 2 = 1) : a % 2 ≤ b % 2 := by omega
theorem pc_sub {s t : Nat} (hs : s < 64) (ht : t < 64) (h : subS s t) (hne : ¬ t = s) : pcN s + 1 ≤ pcN t := by
  refine Nat.lt_of_not_le (fun q => hne ?_)
  have a0 : s / 1 % 2 = 1 → t / 1 % 2 = 1 := h 0 (by decide)
  rw [Nat.div_one, Nat.div_one] at a0
  obtain ⟨c0, c1, c2, c3, c4, c5⟩ := pc_key _ _ _ _ _ _ _ _ _ _ _ _ (bit_le a0) (bit_le (a := s / 2) (b := t / 2) (h 1 (by decide))) (bit_le (a := s / 4) (b := t / 4) (h 2 (by decide))) (bit_le (a := s / 8) (b := t / 8) (h 3 (by decide))) (bit_le (a := s / 16) (b := t / 16) (h 4 (by decide))) (bit_le (a := s / 32) (b := t / 32) (h 5 (by decide))) q
  exact bits_eq t s ht hs c0 c1 c2 c3 c4 c5
theorem bit_on : ∀ s, s < 64 → ∀ k, k < 6 → ∀ j, j < 6 → (bitN s k 1 / 2 ^ j % 2 = 1 ↔ (j = k ∨ s / 2 ^ j % 2 = 1)) := by decide +kernel
theorem bit_m : ∀ m, m < 7 → ∀ s, s < 64 → s < 2 ^ m → ∀ k, k < 6 → k < m → bitN s k 1 < 2 ^ m := by decide +kernel
theorem pc_m : ∀ m, m < 7 → ∀ s, s < 64 → s < 2 ^ m → pcN s ≤ m := by decide +kernel
theorem m_or0 : ∀ s, s < 64 → ∀ k, k < 6 → nI s ||| shl32 1 (nI k) = nI (bitN s k 1) := by decide +kernel
theorem m_orz : ∀ s, s < 64 → nI s ||| 0 = nI s := by decide +kernel
theorem m_andm : ∀ s, s < 64 → nI s &&& (-1) = nI s := by decide +kernel
theorem m_bitv : ∀ s, s < 64 → ∀ k, k < 6 → (shr32 (nI s) (nI k)) &&& 1 = nI (s / 2 ^ k % 2) := by decide +kernel
theorem m_one : ∀ v, v < 2 → ∀ k, k < 6 → shl32 (nI v) (nI k) = nI (v * 2 ^ k) := by decide +kernel
theorem c_one : ∀ s, s < 64 → ∀ k, k < 6 → nI s &&& shl32 1 (nI k) = nI (s / 2 ^ k % 2 * 2 ^ k) := by decide +kernel
theorem one_1 : ∀ v, v < 2 → ∀ k, k < 6 → v * 2 ^ k < 64 := by decide +kernel
theorem one_2 : ∀ v, v < 2 → ∀ k, k < 6 → ∀ m, m < 7 → k < m → v * 2 ^ k < 2 ^ m := by decide +kernel
theorem one_3 : ∀ v, v < 2 → ∀ k, k < 6 → v = 1 → pcN (v * 2 ^ k) = 1 := by decide +kernel
theorem one_4 : ∀ v, v < 2 → ∀ k, k < 6 → ∀ j, j < 6 → (v * 2 ^ k / 2 ^ j % 2 = 1 ↔ (v = 1 ∧ j = k)) := by decide +kernel
theorem one_b (v : Nat) (hv : v < 2) (k : Nat) (hk : k < 6) : v * 2 ^ k < 64 ∧ (∀ m, m < 7 → k < m → v * 2 ^ k < 2 ^ m) ∧ (v = 1 → pcN (v * 2 ^ k) = 1) ∧ ∀ j, j < 6 → (v * 2 ^ k / 2 ^ j % 2 = 1 ↔ (v = 1 ∧ j = k)) := ⟨one_1 v hv k hk, one_2 v hv k hk, one_3 v hv k hk, one_4 v hv k hk⟩
def nearN (a b : Nat) : Bool := decide (a % 8 ≤ b % 8 + 1 ∧ b % 8 ≤ a % 8 + 1 ∧ a / 8 ≤ b / 8 + 1 ∧ b / 8 ≤ a / 8 + 1)
theorem near_sym (a b : Nat) : nearN a b = nearN b a := decide_eq_decide.mpr ⟨fun h => by omega, fun h => by omega⟩
theorem m_near0 : ∀ a, a < 64 → ∀ b, b < 64 → (if 1 < (f_X12_distance (rem32 (nI a) 8) (rem32 (nI b) 8) z0) then some false else if 1 < (f_X12_distance (nI a / 8) (nI b / 8) z0) then some false else some true) = some (nearN a b) := by decide +kernel
theorem c_near0 : ∀ a, a < 64 → ∀ b, b < 64 → ((1 < abs32 ((nI a &&& 7) - (nI b &&& 7)) ∨ 1 < abs32 ((shr32 (nI a) 3) - (shr32 (nI b) 3))) ↔ ¬ nearN a b = true) := by decide +kernel
def tglB (A : Nat → Nat) (a b : Nat) : Bool := decide (A (35 + 6 * a + 4) = 1 ∧ A (35 + 6 * b + 4) = 1) && nearN (A (35 + 6 * a + 1)) (A (35 + 6 * b + 1))
theorem tgl_iff {A : Nat → Nat} {a b : Nat} : tglB A a b = true ↔ A (35 + 6 * a + 4) = 1 ∧ A (35 + 6 * b + 4) = 1 ∧ nearN (A (35 + 6 * a + 1)) (A (35 + 6 * b + 1)) = true := by
  unfold tglB
  rw [Bool.and_eq_true, decide_eq_true_eq, and_assoc]
theorem m_areTangled {σ : Sg} {A : Nat → Nat} (h : rM σ A) (ok : okA A) {a b : Nat} (ha : a < 6) (hb : b < 6) : f_X12_areTangled (nI a) (nI b) σ = some (tglB A a b) := by
  have a1 := (ok.2.2.2.1 a ha).2.1
  have b1 := (ok.2.2.2.1 b hb).2.1
  have e1 : f_X12_its (nI a) 1 σ = some (nI (A (35 + 6 * a + 1))) := m_its h ha (by decide)
  have e2 : f_X12_its (nI b) 1 σ = some (nI (A (35 + 6 * b + 1))) := m_its h hb (by decide)
  have e3 : f_X12_its (nI a) 4 σ = some (nI (A (35 + 6 * a + 4))) := m_its h ha (by decide)
  have e4 : f_X12_its (nI b) 4 σ = some (nI (A (35 + 6 * b + 4))) := m_its h hb (by decide)
  have hn : (if 1 < (f_X12_distance (rem32 (nI (A (35 + 6 * a + 1))) 8) (rem32 (nI (A (35 + 6 * b + 1))) 8) σ) then some false else if 1 < (f_X12_distance (nI (A (35 + 6 * a + 1)) / 8) (nI (A (35 + 6 * b + 1)) / 8) σ) then some false else some true) = some (nearN (A (35 + 6 * a + 1)) (A (35 + 6 * b + 1))) := m_near0 _ (by omega) _ (by omega)
  unfold f_X12_areTangled tglB
  rw [e1, bnd_some, e2, bnd_some, e3, bnd_some]
  by_cases q : A (35 + 6 * a + 4) = 1
  · rw [q, if_neg (show ¬ ¬ nI 1 = (1 : Int32) by decide), e4, bnd_some]
    by_cases q2 : A (35 + 6 * b + 4) = 1
    · rw [q2, if_neg (show ¬ ¬ nI 1 = (1 : Int32) by decide), hn]
      rfl
    · have : A (35 + 6 * b + 4) = 0 := by
        have := ok_al ok b hb
        omega
      rw [this, if_pos (show ¬ nI 0 = (1 : Int32) by decide)]
      rfl
  · have : A (35 + 6 * a + 4) = 0 := by
      have := ok_al ok a ha
      omega
    rw [this, if_pos (show ¬ nI 0 = (1 : Int32) by decide)]
    rfl
/-- nothing of what hangs together with one of these is wanting -/
def clS (A : Nat → Nat) (C : Nat) : Prop := ∀ a b, a < A 0 → b < A 0 → C / 2 ^ a % 2 = 1 → tglB A a b = true → C / 2 ^ b % 2 = 1
theorem cl_0 (A : Nat → Nat) : clS A 0 := fun a b _ _ h _ => absurd h (by rw [Nat.zero_div]; decide)
/-! the reference -/
def inB (A : Nat → Nat) (a : Nat) : Nat → Nat → Nat → Nat
  | 0, _, s => s
  | d + 1, b, s => inB A a d (b + 1) (if s / 2 ^ a % 2 = 1 ∧ tglB A a b = true then bitN s b 1 else s)
theorem inB_p {A : Nat → Nat} (ok : okA A) {a : Nat} (ha : a < A 0) : ∀ d b s, b + d = A 0 → s < 64 → s < 2 ^ A 0 → inB A a d b s < 64 ∧ inB A a d b s < 2 ^ A 0 ∧ subS s (inB A a d b s) ∧ (∀ C, clS A C → subS s C → subS (inB A a d b s) C) ∧
      (inB A a d b s = s → ∀ j, b ≤ j → j < A 0 → s / 2 ^ a % 2 = 1 → tglB A a j = true → s / 2 ^ j % 2 = 1)
  | 0, b, s, hd, hs, hm => ⟨hs, hm, subS.rf s, fun _ _ h => h, fun _ j h1 h2 => absurd h2 (by omega)⟩
  | d + 1, b, s, hd, hs, hm => by
    have h6 := ok.1.1
    have hb : b < 6 := by omega
    have hpow : (2 : Nat) ^ A 0 ≤ 2 ^ 6 := Nat.pow_le_pow_right (by decide) h6
    show inB A a d (b + 1) (if s / 2 ^ a % 2 = 1 ∧ tglB A a b = true then bitN s b 1 else s) < 64 ∧ inB A a d (b + 1) (if s / 2 ^ a % 2 = 1 ∧ tglB A a b = true then bitN s b 1 else s) < 2 ^ A 0 ∧ subS s (inB A a d (b + 1) (if s / 2 ^ a % 2 = 1 ∧ tglB A a b = true then bitN s b 1 else s)) ∧ (∀ C, clS A C → subS s C → subS (inB A a d (b + 1) (if s / 2 ^ a % 2 = 1 ∧ tglB A a b = true then bitN s b 1 else s)) C) ∧
      (inB A a d (b + 1) (if s / 2 ^ a % 2 = 1 ∧ tglB A a b = true then bitN s b 1 else s) = s → ∀ j, b ≤ j → j < A 0 → s / 2 ^ a % 2 = 1 → tglB A a j = true → s / 2 ^ j % 2 = 1)
    by_cases q : s / 2 ^ a % 2 = 1 ∧ tglB A a b = true
    · rw [if_pos q]
      have hm1 := bit_m (A 0) (by omega) s hs hm b hb (by omega)
      obtain ⟨i1, i2, i3, i4, i5⟩ := inB_p ok ha d (b + 1) (bitN s b 1) (by omega) (by omega) hm1
      have su : subS s (bitN s b 1) := fun j hj h => (bit_on s hs b hb j hj).mpr (Or.inr h)
      refine ⟨i1, i2, su.tr i3, fun C hC h => i4 C hC (fun j hj hq => ?_), fun e j h1 h2 _ h4 => ?_⟩
      · rcases (bit_on s hs b hb j hj).mp hq with e | e
        · subst e
          exact hC a j ha (by omega) (h a (by omega) q.1) q.2
        · exact h j hj e
      · rw [e] at i3
        have es : bitN s b 1 = s := sub_eq (by omega) hs i3 su
        by_cases e2 : j = b
        · subst e2
          exact i3 j hb ((bit_on s hs j hb j hb).mpr (Or.inl rfl))
        · rw [es] at i5
          rw [es] at e
          exact i5 e j (by omega) h2 q.1 h4
    · rw [if_neg q]
      obtain ⟨i1, i2, i3, i4, i5⟩ := inB_p ok ha d (b + 1) s (by omega) hs hm
      refine ⟨i1, i2, i3, i4, fun e j h1 h2 h3 h4 => ?_⟩
      by_cases e2 : j = b
      · subst e2
        exact absurd ⟨h3, h4⟩ q
      · exact i5 e j (by omega) h2 h3 h4
def outB (A : Nat → Nat) : Nat → Nat → Nat → Nat
  | 0, _, s => s
  | d + 1, a, s => outB A d (a + 1) (inB A a (A 0) 0 s)
theorem outB_p {A : Nat → Nat} (ok : okA A) : ∀ d a s, a + d = A 0 → s < 64 → s < 2 ^ A 0 → outB A d a s < 64 ∧ outB A d a s < 2 ^ A 0 ∧ subS s (outB A d a s) ∧ (∀ C, clS A C → subS s C → subS (outB A d a s) C) ∧
      (outB A d a s = s → ∀ i, a ≤ i → i < A 0 → ∀ j, j < A 0 → s / 2 ^ i % 2 = 1 → tglB A i j = true → s / 2 ^ j % 2 = 1)
  | 0, a, s, hd, hs, hm => ⟨hs, hm, subS.rf s, fun _ _ h => h, fun _ i h1 h2 => absurd h2 (by omega)⟩
  | d + 1, a, s, hd, hs, hm => by
    obtain ⟨k1, k2, k3, k4, k5⟩ := inB_p ok (a := a) (by omega) (A 0) 0 s (by omega) hs hm
    obtain ⟨i1, i2, i3, i4, i5⟩ := outB_p ok d (a + 1) (inB A a (A 0) 0 s) (by omega) k1 k2
    refine ⟨i1, i2, k3.tr i3, fun C hC h => i4 C hC (k4 C hC h), fun e i h1 h2 j hj h3 h4 => ?_⟩
    have e' : outB A d (a + 1) (inB A a (A 0) 0 s) = s := e
    rw [e'] at i3
    have es : inB A a (A 0) 0 s = s := sub_eq k1 hs i3 k3
    by_cases e2 : i = a
    · subst e2
      exact k5 es j (by omega) hj h3 h4
    · rw [es] at i5 e'
      exact i5 e' i (by omega) h2 j hj h3 h4
theorem m_in_l {σ : Sg} {A : Nat → Nat} (h : rM σ A) (ok : okA A) {K11 K21 : Int32 → Int32 → Option Int32} {x3 : Int32} {a : Nat} (ha : a < A 0) : ∀ d b n s, b + d = A 0 → d < n → s < 64 → s < 2 ^ A 0 → f_X12_caseOf_l35 K11 K21 x3 (nI a) σ n (nI s) (nI b) = K21 (nI (inB A a d b s)) (nI a + 1)
  | d, b, 0, s, _, h, _, _ => absurd h (by omega)
  | d, b, n + 1, s, hd, hn, hs, hm => by
    have h6 := ok.1.1
    show f_X12_caseOf_b35 K11 K21 (f_X12_caseOf_l35 K11 K21 x3 (nI a) σ n) x3 (nI a) σ (nI s) (nI b) = _
    unfold f_X12_caseOf_b35
    rw [h 0 (by decide) (by decide) (by decide) (by decide)]
    cases d with
    | zero => rw [if_pos (nI_le (by omega) (by omega))]; rfl
    | succ d =>
      have hb : b < 6 := by omega
      have hpow : (2 : Nat) ^ A 0 ≤ 2 ^ 6 := Nat.pow_le_pow_right (by decide) h6
      have hm1 := bit_m (A 0) (by omega) s hs hm b hb (by omega)
      rw [if_neg (nI_ge (by omega) (by omega)), nI_1]
      by_cases q : s / 2 ^ a % 2 = 1
      · rw [if_neg (fun z => z ((m_bit0 s hs a (by omega)).mpr q)), m_areTangled h ok (by omega) hb, bnd_some]
        by_cases q2 : tglB A a b = true
        · rw [if_pos q2, lt_ap, m_or0 s hs b hb, m_in_l h ok ha d (b + 1) n _ (by omega) (by omega) (by omega) hm1]
          show _ = K21 (nI (inB A a d (b + 1) (if s / 2 ^ a % 2 = 1 ∧ tglB A a b = true then bitN s b 1 else s))) _
          rw [if_pos ⟨q, q2⟩]
        · rw [if_neg q2, lt_ap, m_orz s hs, m_in_l h ok ha d (b + 1) n _ (by omega) (by omega) hs hm]
          show _ = K21 (nI (inB A a d (b + 1) (if s / 2 ^ a % 2 = 1 ∧ tglB A a b = true then bitN s b 1 else s))) _
          rw [if_neg (fun z => q2 z.2)]
      · rw [if_pos (fun z => q ((m_bit0 s hs a (by omega)).mp z)), lt_ap, m_orz s hs, m_in_l h ok ha d (b + 1) n _ (by omega) (by omega) hs hm]
        show _ = K21 (nI (inB A a d (b + 1) (if s / 2 ^ a % 2 = 1 ∧ tglB A a b = true then bitN s b 1 else s))) _
        rw [if_neg (fun z => q z.1)]
theorem m_out_l {σ : Sg} {A : Nat → Nat} (h : rM σ A) (ok : okA A) {K11 : Int32 → Int32 → Option Int32} {x3 : Int32} : ∀ d a n s, a + d = A 0 → d < n → s < 64 → s < 2 ^ A 0 → f_X12_caseOf_l21 K11 x3 σ n (nI s) (nI a) = K11 (nI (outB A d a s)) x3
  | d, a, 0, s, _, h, _, _ => absurd h (by omega)
  | d, a, n + 1, s, hd, hn, hs, hm => by
    have h6 := ok.1.1
    show f_X12_caseOf_b21 K11 (f_X12_caseOf_l21 K11 x3 σ n) x3 σ (nI s) (nI a) = _
    unfold f_X12_caseOf_b21
    rw [h 0 (by decide) (by decide) (by decide) (by decide)]
    cases d with
    | zero => rw [if_pos (nI_le (by omega) (by omega))]; rfl
    | succ d =>
      obtain ⟨k1, k2, -⟩ := inB_p ok (a := a) (by omega) (A 0) 0 s (by omega) hs hm
      have e := m_in_l h ok (K11 := K11) (K21 := f_X12_caseOf_l21 K11 x3 σ n) (x3 := x3) (a := a) (by omega) (A 0) 0 400 s (by omega) (by omega) hs hm
      have e' : f_X12_caseOf_l35 K11 (f_X12_caseOf_l21 K11 x3 σ n) x3 (nI a) σ 400 (nI s) 0 = _ := e
      rw [if_neg (nI_ge (by omega) (by omega)), e', nI_1]
      exact m_out_l h ok d (a + 1) n _ (by omega) (by omega) k1 k2
theorem m_case_l {σ : Sg} {A : Nat → Nat} (h : rM σ A) (ok : okA A) : ∀ n s had, 1 ≤ n → (¬ had = s → 8 ≤ n + pcN s) → s < 64 → s < 2 ^ A 0 → had < 64 → (had = s → clS A s) → ∃ R, f_X12_caseOf_l11 σ n (nI s) (nI had) = some (nI R) ∧ R < 64 ∧ R < 2 ^ A 0 ∧ subS s R ∧ clS A R ∧ ∀ C, clS A C → subS s C → subS R C
  | 0, s, had, h, _, _, _, _, _ => absurd h (by omega)
  | n + 1, s, had, _, hn, hs, hm, hh, hc => by
    have hp := pc_le s hs
    show ∃ R, f_X12_caseOf_b11 (f_X12_caseOf_l11 σ n) σ (nI s) (nI had) = some (nI R) ∧ _
    unfold f_X12_caseOf_b11
    by_cases e : had = s
    · rw [if_pos (by rw [e])]
      exact ⟨s, rfl, hs, hm, subS.rf s, hc e, fun _ _ q => q⟩
    · have hn' := hn e
      obtain ⟨k1, k2, k3, k4, k5⟩ := outB_p ok (A 0) 0 s (by omega) hs hm
      have e1 := m_out_l h ok (K11 := f_X12_caseOf_l11 σ n) (x3 := nI s) (A 0) 0 400 s (by omega) (by have := ok.1.1; omega) hs hm
      have e1' : f_X12_caseOf_l21 (f_X12_caseOf_l11 σ n) (nI s) σ 400 (nI s) 0 = _ := e1
      rw [if_neg (fun z => e ((nI_eq (by omega) (by omega)).mp z)), e1']
      have ne : ¬ s = outB A (A 0) 0 s → 8 ≤ n + pcN (outB A (A 0) 0 s) := fun q => by
        have := pc_sub hs k1 k3 (fun z => q z.symm)
        omega
      obtain ⟨R, r1, r2, r3, r4, r5, r6⟩ := m_case_l h ok n (outB A (A 0) 0 s) s (by omega) ne k1 k2 hs (fun q => by
        rw [← q]
        exact fun a b ha hb q1 q2 => k5 q.symm a (by omega) ha b hb q1 q2)
      exact ⟨R, r1, r2, r3, k3.tr r4, r5, fun C hC q => r6 C hC (k4 C hC q)⟩
theorem m_caseOf {σ : Sg} {A : Nat → Nat} (h : rM σ A) (ok : okA A) {k : Nat} (hk : k < A 0) : ∃ R, f_X12_caseOf (nI k) σ = some (nI R) ∧ R < 64 ∧ R < 2 ^ A 0 ∧ subS (A (35 + 6 * k + 4) * 2 ^ k) R ∧ clS A R ∧ ∀ C, clS A C → subS (A (35 + 6 * k + 4) * 2 ^ k) C → subS R C := by
  have h6 := ok.1.1
  have h4 := ok_al ok k (by omega)
  obtain ⟨o1, o2, o3, o4⟩ := one_b (A (35 + 6 * k + 4)) (by omega) k (by omega)
  unfold f_X12_caseOf
  rw [show f_X12_its (nI k) 4 σ = some (nI (A (35 + 6 * k + 4))) from m_its h (by omega) (by decide), bnd_some, lt_ap, m_one _ (by omega) k (by omega)]
  exact m_case_l h ok 400 _ 0 (by omega) (fun _ => by omega) o1 (o2 (A 0) (by omega) hk) (by omega) (fun q => by rw [← q]; exact cl_0 A)
