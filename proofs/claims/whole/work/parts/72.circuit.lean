/-! circuit -/
def pcN (s : Nat) : Nat := s % 2 + s / 2 % 2 + s / 4 % 2 + s / 8 % 2 + s / 16 % 2 + s / 32 % 2
theorem pc_less : ∀ s, s < 64 → ∀ k, k < 6 → s / 2 ^ k % 2 = 1 → pcN (bitN s k 0) + 1 = pcN s ∧ bitN s k 0 < s := by decide +kernel
theorem pc_le : ∀ s, s < 64 → pcN s ≤ 6 := by decide +kernel
theorem m_bit0 : ∀ s, s < 64 → ∀ k, k < 6 → ((shr32 (nI s) (nI k)) &&& 1 = 1 ↔ s / 2 ^ k % 2 = 1) := by decide +kernel
theorem m_off0 : ∀ s, s < 64 → ∀ k, k < 6 → s / 2 ^ k % 2 = 1 → nI s &&& ((shl32 1 (nI k)) ^^^ (-1)) = nI (bitN s k 0) := by decide +kernel
/-- the best so far, of so many kites from k on -/
def bestS (r : Nat → Nat → Nat) (A : Nat → Nat) (c s : Nat) : Nat → Nat → Option Nat → Option Nat
  | 0, _, b => b
  | d + 1, k, b => if s / 2 ^ k % 2 = 1 then bestS r A c s d (k + 1) (some (match b with
      | none => farN c (A (35 + 6 * k + 1)) + r (A (35 + 6 * k + 1)) (bitN s k 0)
      | some x => if x ≤ farN c (A (35 + 6 * k + 1)) + r (A (35 + 6 * k + 1)) (bitN s k 0) then x else farN c (A (35 + 6 * k + 1)) + r (A (35 + 6 * k + 1)) (bitN s k 0))) else bestS r A c s d (k + 1) b
def stepsN (A : Nat → Nat) : Nat → Nat → Nat → Nat
  | 0, _, _ => 0
  | n + 1, c, s => (bestS (stepsN A n) A c s (A 0) 0 none).getD 0
theorem bestS_t {r : Nat → Nat → Nat} {A : Nat → Nat} {c s d k : Nat} {b : Option Nat} (h : s / 2 ^ k % 2 = 1) : bestS r A c s (d + 1) k b = bestS r A c s d (k + 1) (some (match b with
      | none => farN c (A (35 + 6 * k + 1)) + r (A (35 + 6 * k + 1)) (bitN s k 0)
      | some x => if x ≤ farN c (A (35 + 6 * k + 1)) + r (A (35 + 6 * k + 1)) (bitN s k 0) then x else farN c (A (35 + 6 * k + 1)) + r (A (35 + 6 * k + 1)) (bitN s k 0))) := if_pos h
theorem bestS_f {r : Nat → Nat → Nat} {A : Nat → Nat} {c s d k : Nat} {b : Option Nat} (h : ¬ s / 2 ^ k % 2 = 1) : bestS r A c s (d + 1) k b = bestS r A c s d (k + 1) b := if_neg h
theorem bestS_some {r : Nat → Nat → Nat} {A : Nat → Nat} {c s : Nat} : ∀ d k x, ∃ y, bestS r A c s d k (some x) = some y
  | 0, _, x => ⟨x, rfl⟩
  | d + 1, k, x => by
    by_cases h : s / 2 ^ k % 2 = 1
    · rw [bestS_t h]; exact bestS_some d (k + 1) _
    · rw [bestS_f h]; exact bestS_some d (k + 1) x
theorem bestS_le {r : Nat → Nat → Nat} {A : Nat → Nat} {c s B : Nat} (hc : c < 64) (ok : okA A) (hB : ∀ a, a < 64 → ∀ k, k < 6 → s / 2 ^ k % 2 = 1 → r a (bitN s k 0) + 14 ≤ B) : ∀ d k b, k + d ≤ 6 → (∀ x, b = some x → x ≤ B) → ∀ y, bestS r A c s d k b = some y → y ≤ B
  | 0, _, b, _, hb, y, e => hb y e
  | d + 1, k, b, hk, hb, y, e => by
    have ha := (ok.2.2.2.1 k (by omega)).2.1
    by_cases h : s / 2 ^ k % 2 = 1
    · rw [bestS_t h] at e
      refine bestS_le hc ok hB d (k + 1) _ (by omega) (fun x ex => ?_) y e
      have h1 := hB (A (35 + 6 * k + 1)) (by omega) k (by omega) h
      have h2 := far_lt c hc (A (35 + 6 * k + 1)) (by omega)
      injection ex with ex
      subst ex
      cases b with
      | none => dsimp only; omega
      | some z =>
        have := hb z rfl
        dsimp only
        split <;> omega
    · rw [bestS_f h] at e
      exact bestS_le hc ok hB d (k + 1) b (by omega) hb y e
theorem steps_le {A : Nat → Nat} (ok : okA A) : ∀ n c s, c < 64 → stepsN A n c s ≤ 14 * n
  | 0, _, _, _ => Nat.le_refl _
  | n + 1, c, s, hc => by
    have hm := ok.1.1
    show (bestS (stepsN A n) A c s (A 0) 0 none).getD 0 ≤ _
    cases e : bestS (stepsN A n) A c s (A 0) 0 none with
    | none => exact Nat.zero_le _
    | some y => exact bestS_le hc ok (fun a ha k hk _ => by have := steps_le ok n a (bitN s k 0) ha; omega) (A 0) 0 none (by omega) (fun x e => by cases e) y e
