/-! circuit -/
def pcN (s : Nat) : Nat := s % 2 + s / 2 % 2 + s / 4 % 2 + s / 8 % 2 + s / 16 % 2 + s / 32 % 2
theorem pc_less : ∀ s, s < 64 → ∀ k, k < 6 → s / 2 ^ k % 2 = 1 → pcN (bitN s k 0) + 1 = pcN s ∧ bitN s k 0 < s := by decide +kernel
theorem pc_le : ∀ s, s < 64 → pcN s ≤ 6 := by decide +kernel
theorem m_bit0 : ∀ s, s < 64 → ∀ k, k < 6 → ((shr32 (nI s) (nI k)) &&& 1 = 1 ↔ s / 2 ^ k % 2 = 1) := by decide +kernel
theorem m_off0 : ∀ s, s < 64 → ∀ k, k < 6 → s / 2 ^ k % 2 = 1 → nI s &&& ((shl32 1 (nI k)) ^^^ (-1)) = nI (bitN s k 0) := by decide +kernel
/-- the best so far, of so many kites from k on -/
def bestS (r : Nat → Nat → Nat) (A : Nat → Nat) (c s : Nat) : Nat → Nat → Option Nat → Option Nat
  | 0, _, b => b
  | d + 1, k, b => if s / 2 ^ k % 2 = 1 then bestS r A c s d (k + 1) (some (match b with
      | none => farN c (A (35 + 6 * k + 1)) + r (A (35 + 6 * k + 1)) (bitN s k 0)
      | some x => if x ≤ farN c (A (35 + 6 * k + 1)) + r (A (35 + 6 * k + 1)) (bitN s k 0) then x else farN c (A (35 + 6 * k + 1)) + r (A (35 + 6 * k + 1)) (bitN s k 0))) else bestS r A c s d (k + 1) b
def stepsN (A : Nat → Nat) : Nat → Nat → Nat → Nat
  | 0, _, _ => 0
  | n + 1, c, s => (bestS (stepsN A n) A c s (A 0) 0 none).getD 0
theorem bestS_t {r : Nat → Nat → Nat} {A : Nat → Nat} {c s d k : Nat} {b : Option Nat} (h : s / 2 ^ k % 2 = 1) : bestS r A c s (d + 1) k b = bestS r A c s d (k + 1) (some (match b with
      | none => farN c (A (35 + 6 * k + 1)) + r (A (35 + 6 * k + 1)) (bitN s k 0)
      | some x => if x ≤ farN c (A (35 + 6 * k + 1)) + r (A (35 + 6 * k + 1)) (bitN s k 0) then x else farN c (A (35 + 6 * k + 1)) + r (A (35 + 6 * k + 1)) (bitN s k 0))) := if_pos h
theorem bestS_f {r : Nat → Nat → Nat} {A : Nat → Nat} {c s d k : Nat} {b : Option Nat} (h : ¬ s / 2 ^ k % 2 = 1) : bestS r A c s (d + 1) k b = bestS r A c s d (k + 1) b := if_neg h
theorem bestS_some {r : Nat → Nat → Nat} {A : Nat → Nat} {c s : Nat} : ∀ d k x, ∃ y, bestS r A c s d k (some x) = some y
  | 0, _, x => ⟨x, rfl⟩
  | d + 1, k, x => by
    by_cases h : s / 2 ^ k % 2 = 1
    · rw [bestS_t h]; exact bestS_some d (k + 1) _
    · rw [bestS_f h]; exact bestS_some d (k + 1) x
theorem bestS_le {r : Nat → Nat → Nat} {A : Nat → Nat} {c s B : Nat} (hc : c < 64) (ok : okA A) (hB : ∀ a, a < 64 → ∀ k, k < 6 → s / 2 ^ k % 2 = 1 → r a (bitN s k 0) + 14 ≤ B) : ∀ d k b, k + d ≤ 6 → (∀ x, b = some x → x ≤ B) → ∀ y, bestS r A c s d k b = some y → y ≤ B
  | 0, _, b, _, hb, y, e => hb y e
  | d + 1, k, b, hk, hb, y, e => by
    have ha := (ok.2.2.2.1 k (by omega)).2.1
    by_cases h : s / 2 ^ k % 2 = 1
    · rw [bestS_t h] at e
      refine bestS_le hc ok hB d (k + 1) _ (by omega) (fun x ex => ?_) y e
      have h1 := hB (A (35 + 6 * k + 1)) (by omega) k (by omega) h
      have h2 := far_lt c hc (A (35 + 6 * k + 1)) (by omega)
      injection ex with ex
      subst ex
      cases b with
      | none => dsimp only; omega
      | some z =>
        have := hb z rfl
        dsimp only
        split <;> omega
    · rw [bestS_f h] at e
      exact bestS_le hc ok hB d (k + 1) b (by omega) hb y e
theorem steps_le {A : Nat → Nat} (ok : okA A) : ∀ n c s, c < 64 → stepsN A n c s ≤ 14 * n
  | 0, _, _, _ => Nat.le_refl _
  | n + 1, c, s, hc => by
    have hm := ok.1.1
    show (bestS (stepsN A n) A c s (A 0) 0 none).getD 0 ≤ _
    cases e : bestS (stepsN A n) A c s (A 0) 0 none with
    | none => exact Nat.zero_le _
    | some y => exact bestS_le hc ok (fun a ha k hk _ => by have := steps_le ok n a (bitN s k 0) ha; omega) (A 0) 0 none (by omega) (fun x e => by cases e) y e
theorem m_steps_l {σ : Sg} {A : Nat → Nat} (h : rM σ A) (ok : okA A) {R : Int32 → Int32 → Sg → Option Int32} {r : Nat → Nat → Nat} {c s B : Nat} (hc : c < 64) (hs : s < 64) (hB : B < 1000) (hr : ∀ a, a < 64 → ∀ k, k < 6 → s / 2 ^ k % 2 = 1 → R (nI a) (nI (bitN s k 0)) σ = some (nI (r a (bitN s k 0))) ∧ r a (bitN s k 0) + 14 ≤ B) :
    ∀ (d k n : Nat) (b : Option Nat) (v : Int32), k + d = A 0 → d < n → (∀ x, b = some x → x ≤ B ∧ v = nI x) → (b = none → v = -1) → ∃ v', f_X12_steps_l13 R (nI c) (nI s) σ n v (nI k) = some v' ∧ (∀ x, bestS r A c s d k b = some x → v' = nI x) ∧ (bestS r A c s d k b = none → v' = v)
  | d, k, 0, b, v, _, h, _, _ => absurd h (by omega)
  | d, k, n + 1, b, v, hd, hn, hb, hb0 => by
    have hm := ok.1.1
    show ∃ v', f_X12_steps_b13 R (f_X12_steps_l13 R (nI c) (nI s) σ n) (nI c) (nI s) σ v (nI k) = some v' ∧ _
    unfold f_X12_steps_b13
    rw [h 0 (by decide) (by decide) (by decide) (by decide)]
    cases d with
    | zero =>
      rw [if_pos (nI_le (by omega) (by omega))]
      refine ⟨v, rfl, fun x e => (hb x e).2, fun _ => rfl⟩
    | succ d =>
      have hk : k < 6 := by omega
      have ha := (ok.2.2.2.1 k hk).2.1
      rw [if_neg (nI_ge (by omega) (by omega)), nI_1]
      by_cases q : s / 2 ^ k % 2 = 1
      · obtain ⟨r1, r2⟩ := hr (A (35 + 6 * k + 1)) (by omega) k hk q
        have hf := far_lt c hc (A (35 + 6 * k + 1)) (by omega)
        rw [if_neg (fun z => z ((m_bit0 s hs k hk).mpr q)), show f_X12_its (nI k) 1 σ = some (nI (A (35 + 6 * k + 1))) from m_its h hk (by decide), bnd_some, bnd_some, m_off0 s hs k hk q, r1, bnd_some, lt_ap, m_far hc (by omega), nI_add, bestS_t q]
        cases b with
        | none =>
          rw [hb0 rfl, if_pos (by decide)]
          obtain ⟨v', e1, e2, e3⟩ := m_steps_l h ok hc hs hB hr d (k + 1) n (some (farN c (A (35 + 6 * k + 1)) + r (A (35 + 6 * k + 1)) (bitN s k 0))) _ (by omega) (by omega) (fun x ex => by injection ex with ex; subst ex; exact ⟨by omega, rfl⟩) (fun ex => by cases ex)
          refine ⟨v', e1, e2, fun ex => ?_⟩
          obtain ⟨y, ey⟩ := bestS_some (r := r) (A := A) (c := c) (s := s) d (k + 1) (farN c (A (35 + 6 * k + 1)) + r (A (35 + 6 * k + 1)) (bitN s k 0))
          exact absurd (ey.symm.trans ex) (by simp)
        | some x =>
          obtain ⟨b1, b2⟩ := hb x rfl
          subst b2
          rw [if_neg (show ¬ nI x < 0 from nI_nlt (a := x) (b := 0) (by omega) (by omega))]
          by_cases q2 : x ≤ farN c (A (35 + 6 * k + 1)) + r (A (35 + 6 * k + 1)) (bitN s k 0)
          · rw [if_pos (nI_le q2 (by omega))]
            dsimp only
            rw [if_pos q2]
            obtain ⟨v', e1, e2, e3⟩ := m_steps_l h ok hc hs hB hr d (k + 1) n (some x) _ (by omega) (by omega) (fun y ey => by injection ey with ey; subst ey; exact ⟨b1, rfl⟩) (fun ex => by cases ex)
            exact ⟨v', e1, e2, e3⟩
          · rw [if_neg (nI_ge (by omega) (by omega))]
            dsimp only
            rw [if_neg q2]
            obtain ⟨v', e1, e2, e3⟩ := m_steps_l h ok hc hs hB hr d (k + 1) n (some (farN c (A (35 + 6 * k + 1)) + r (A (35 + 6 * k + 1)) (bitN s k 0))) _ (by omega) (by omega) (fun y ey => by injection ey with ey; subst ey; exact ⟨by omega, rfl⟩) (fun ex => by cases ex)
            refine ⟨v', e1, e2, fun ex => ?_⟩
            obtain ⟨y, ey⟩ := bestS_some (r := r) (A := A) (c := c) (s := s) d (k + 1) (farN c (A (35 + 6 * k + 1)) + r (A (35 + 6 * k + 1)) (bitN s k 0))
            exact absurd (ey.symm.trans ex) (by simp)
      · rw [if_pos (fun z => q ((m_bit0 s hs k hk).mp z)), bestS_f q]
        exact m_steps_l h ok hc hs hB hr d (k + 1) n b v (by omega) (by omega) hb hb0
