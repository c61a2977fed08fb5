/-! circuit: both sides -/
theorem lie0 : ∀ m, m < 7 → ∀ s, s < 64 → s < 2 ^ m → ((shl32 1 (nI m)) - 1) &&& (nI s ^^^ (-1)) = nI (2 ^ m - 1 - s) := by decide +kernel
def firstS (A : Nat → Nat) (c s v : Nat) : Nat → Nat → Option Nat
  | 0, _ => none
  | d + 1, k => if s / 2 ^ k % 2 = 1 ∧ farN c (A (35 + 6 * k + 1)) + stepsN A 8 (A (35 + 6 * k + 1)) (bitN s k 0) = v then some k else firstS A c s v d (k + 1)
theorem first_t {A : Nat → Nat} {c s v d k : Nat} (h : s / 2 ^ k % 2 = 1 ∧ farN c (A (35 + 6 * k + 1)) + stepsN A 8 (A (35 + 6 * k + 1)) (bitN s k 0) = v) : firstS A c s v (d + 1) k = some k := if_pos h
theorem first_f {A : Nat → Nat} {c s v d k : Nat} (h : ¬ (s / 2 ^ k % 2 = 1 ∧ farN c (A (35 + 6 * k + 1)) + stepsN A 8 (A (35 + 6 * k + 1)) (bitN s k 0) = v)) : firstS A c s v (d + 1) k = firstS A c s v d (k + 1) := if_neg h
theorem m_first_l {σ : Sg} {A : Nat → Nat} (h : rM σ A) (ok : okA A) {c s v : Nat} (hc : c < 64) (hs : s < 64) (hm2 : s < 2 ^ A 0) (hv : v < 1000) : ∀ (d k n : Nat), k + d = A 0 → d < n → f_X12_circuit_l56 (nI c) (nI s) (nI v) σ n (nI k) = some (ansW (firstS A c s v d k))
  | d, k, 0, _, hn => absurd hn (by omega)
  | d, k, n + 1, hd, hn => by
    have hm := ok.1.1
    show f_X12_circuit_b56 (f_X12_circuit_l56 (nI c) (nI s) (nI v) σ n) (nI c) (nI s) (nI v) σ (nI k) = _
    unfold f_X12_circuit_b56
    rw [h 0 (by decide) (by decide) (by decide) (by decide)]
    cases d with
    | zero => rw [if_pos (nI_le (by omega) (by omega))]; rfl
    | succ d =>
      have hk : k < 6 := by omega
      have ha := (ok.2.2.2.1 k hk).2.1
      have ih := m_first_l h ok hc hs hm2 hv d (k + 1) n (by omega) (by omega)
      rw [if_neg (nI_ge (by omega) (by omega)), nI_1]
      by_cases q : s / 2 ^ k % 2 = 1
      · have h1 := pc_less s hs k hk q
        have h6 := pc_le s hs
        have hf := far_lt c hc (A (35 + 6 * k + 1)) (by omega)
        have hl := steps_le ok 8 (A (35 + 6 * k + 1)) (bitN s k 0) (by omega)
        rw [if_neg (fun z => z ((m_bit0 s hs k hk).mpr q)), show f_X12_its (nI k) 1 σ = some (nI (A (35 + 6 * k + 1))) from m_its h hk (by decide), bnd_some, bnd_some, m_off0 s hs k hk q, m_steps h ok 8 _ _ (by omega) (by omega) (by omega) (by omega) (by omega), bnd_some, m_far hc (by omega), nI_add]
        by_cases q2 : farN c (A (35 + 6 * k + 1)) + stepsN A 8 (A (35 + 6 * k + 1)) (bitN s k 0) = v
        · rw [if_neg (fun z => z (by rw [q2])), first_t ⟨q, q2⟩]; rfl
        · rw [if_pos (fun z => q2 ((nI_eq (by omega) (by omega)).mp z)), first_f (fun z => q2 z.2)]
          exact ih
      · rw [if_pos (fun z => q ((m_bit0 s hs k hk).mp z)), first_f (fun z => q z.1)]
        exact ih
