theorem c_off0 : ∀ s, s < 64 → ∀ k, k < 6 → s / 2 ^ k % 2 = 1 → f_X11_withBit (nI s) (nI k) 0 z0 = nI (bitN s k 0) := by decide +kernel
theorem c_off {s k : Nat} (hs : s < 64) (hk : k < 6) (q : s / 2 ^ k % 2 = 1) (σ : Sg) : f_X11_withBit (nI s) (nI k) 0 σ = nI (bitN s k 0) := c_off0 s hs k hk q
theorem c_steps_l {σ : Sg} {A : Nat → Nat} {sc : Int32} (hcs : rCs σ A) (hcd : rCd σ 41 A sc) (ok : okA A) {R : Int32 → Int32 → Sg → Option Int32} {r : Nat → Nat → Nat} {c s B : Nat} (hc : c < 64) (hs : s < 64) (hB : B < 1000) (hr : ∀ a, a < 64 → ∀ k, k < 6 → s / 2 ^ k % 2 = 1 → R (nI a) (nI (bitN s k 0)) σ = some (nI (r a (bitN s k 0))) ∧ r a (bitN s k 0) + 14 ≤ B) :
    ∀ (d k n : Nat) (b : Option Nat) (v : Int32), k + d = A 0 → d < n → (∀ x, b = some x → x ≤ B ∧ v = nI x) → (b = none → v = -3) → f_X11_fewestSteps_l6 R (nI c) (nI s) σ n v (nI k) = some (nI ((bestS r A c s d k b).getD 0))
  | d, k, 0, b, v, _, h, _, _ => absurd h (by omega)
  | d, k, n + 1, b, v, hd, hn, hb, hb0 => by
    have hm := ok.1.1
    have n3 : ∀ x, x ≤ B → ¬ nI x = (-3 : Int32) := fun x hx z => by
      have := congrArg Int32.toInt z
      rw [nI_toInt (by omega)] at this
      exact absurd this (by have : (-3 : Int32).toInt = -3 := rfl; omega)
    show f_X11_fewestSteps_b6 R (f_X11_fewestSteps_l6 R (nI c) (nI s) σ n) (nI c) (nI s) σ v (nI k) = _
    unfold f_X11_fewestSteps_b6
    rw [hcs.1]
    cases d with
    | zero =>
      rw [if_pos (nI_le (by omega) (by omega))]
      cases b with
      | none => rw [hb0 rfl, if_neg (by decide)]; rfl
      | some x =>
        obtain ⟨b1, b2⟩ := hb x rfl
        subst b2
        rw [if_pos (n3 x b1)]; rfl
    | succ d =>
      have hk : k < 6 := by omega
      have ha := (ok.2.2.2.1 k hk).2.1
      rw [if_neg (nI_ge (by omega) (by omega)), c_isIn hs hk, nI_1]
      by_cases q : s / 2 ^ k % 2 = 1
      · obtain ⟨r1, r2⟩ := hr (A (35 + 6 * k + 1)) (by omega) k hk q
        have hf := far_lt c hc (A (35 + 6 * k + 1)) (by omega)
        rw [if_pos (decide_eq_true q), rd_nI hk (by decide), bnd_some, (hcd.2.2.2.2 k hk).1, c_off hs hk q, r1, bnd_some, lt_ap, c_far hc (by omega), nI_add, bestS_t q]
        cases b with
        | none =>
          rw [hb0 rfl, if_pos rfl]
          exact c_steps_l hcs hcd ok hc hs hB hr d (k + 1) n (some (farN c (A (35 + 6 * k + 1)) + r (A (35 + 6 * k + 1)) (bitN s k 0))) _ (by omega) (by omega) (fun x ex => by injection ex with ex; subst ex; exact ⟨by omega, rfl⟩) (fun ex => by cases ex)
        | some x =>
          obtain ⟨b1, b2⟩ := hb x rfl
          subst b2
          rw [if_neg (n3 x b1)]
          by_cases q2 : x ≤ farN c (A (35 + 6 * k + 1)) + r (A (35 + 6 * k + 1)) (bitN s k 0)
          · rw [if_pos (nI_le q2 (by omega))]
            dsimp only
            rw [if_pos q2]
            exact c_steps_l hcs hcd ok hc hs hB hr d (k + 1) n (some x) _ (by omega) (by omega) (fun y ey => by injection ey with ey; subst ey; exact ⟨b1, rfl⟩) (fun ex => by cases ex)
          · rw [if_neg (nI_ge (by omega) (by omega))]
            dsimp only
            rw [if_neg q2]
            exact c_steps_l hcs hcd ok hc hs hB hr d (k + 1) n (some (farN c (A (35 + 6 * k + 1)) + r (A (35 + 6 * k + 1)) (bitN s k 0))) _ (by omega) (by omega) (fun y ey => by injection ey with ey; subst ey; exact ⟨by omega, rfl⟩) (fun ex => by cases ex)
      · rw [if_neg (fun z => q (of_decide_eq_true z)), bestS_f q]
        exact c_steps_l hcs hcd ok hc hs hB hr d (k + 1) n b v (by omega) (by omega) hb hb0
theorem pc_0 : ∀ s, s < 64 → pcN s < 1 → s = 0 := by decide +kernel
theorem c_steps {σ : Sg} {A : Nat → Nat} {sc : Int32} (hcs : rCs σ A) (hcd : rCd σ 41 A sc) (ok : okA A) : ∀ n c s, n ≤ 8 → c < 64 → s < 64 → pcN s < n → f_X11_fewestSteps n (nI c) (nI s) σ = some (nI (stepsN A n c s))
  | 0, _, _, _, _, _, h => absurd h (by omega)
  | n + 1, c, s, hn, hc, hs, hp => by
    have hm := ok.1.1
    show f_X11_fewestSteps_s (f_X11_fewestSteps n) (nI c) (nI s) σ = _
    unfold f_X11_fewestSteps_s
    refine c_steps_l hcs hcd ok hc hs (B := 126) (by decide) (r := stepsN A n) (fun a ha k hk q => ?_) (A 0) 0 400 none (-3) (by omega) (by omega) (fun x e => by cases e) (fun _ => rfl)
    have h1 := pc_less s hs k hk q
    refine ⟨c_steps hcs hcd ok n a (bitN s k 0) (by omega) ha (by omega) (by omega), ?_⟩
    have := steps_le ok n a (bitN s k 0) ha
    omega
/-- a set that is not empty, of so many kites: the best is some -/
theorem best_get {r : Nat → Nat → Nat} {A : Nat → Nat} {c s : Nat} : ∀ d k, (∃ j, k ≤ j ∧ j < k + d ∧ s / 2 ^ j % 2 = 1) → ∃ y, bestS r A c s d k none = some y
  | 0, k, ⟨j, h1, h2, _⟩ => absurd h2 (by omega)
  | d + 1, k, ⟨j, h1, h2, h3⟩ => by
    by_cases h : s / 2 ^ k % 2 = 1
    · rw [bestS_t h]; exact bestS_some d (k + 1) _
    · rw [bestS_f h]
      refine best_get d (k + 1) ⟨j, ?_, by omega, h3⟩
      by_cases e : j = k
      · subst e; exact absurd h3 h
      · omega
theorem best_nil {r : Nat → Nat → Nat} {A : Nat → Nat} {c : Nat} {b : Option Nat} : ∀ d k, bestS r A c 0 d k b = b
  | 0, _ => rfl
  | d + 1, k => by
    rw [bestS_f (by rw [Nat.zero_div]; decide)]
    exact best_nil d (k + 1)
theorem some_bit : ∀ m, m < 7 → ∀ s, s < 64 → s < 2 ^ m → ¬ s = 0 → ∃ j, j < m ∧ s / 2 ^ j % 2 = 1 := by decide +kernel
theorem m_steps {σ : Sg} {A : Nat → Nat} (h : rM σ A) (ok : okA A) : ∀ n c s, n ≤ 8 → c < 64 → s < 64 → s < 2 ^ A 0 → pcN s < n → f_X12_steps n (nI c) (nI s) σ = some (nI (stepsN A n c s))
  | 0, _, _, _, _, _, _, h => absurd h (by omega)
  | n + 1, c, s, hn, hc, hs, hm2, hp => by
    have hm := ok.1.1
    have hB : ∀ a, a < 64 → ∀ k, k < 6 → s / 2 ^ k % 2 = 1 → f_X12_steps n (nI a) (nI (bitN s k 0)) σ = some (nI (stepsN A n a (bitN s k 0))) ∧ stepsN A n a (bitN s k 0) + 14 ≤ 126 := fun a ha k hk q => by
      have h1 := pc_less s hs k hk q
      refine ⟨m_steps h ok n a (bitN s k 0) (by omega) ha (by omega) (by omega) (by omega), ?_⟩
      have := steps_le ok n a (bitN s k 0) ha
      omega
    show f_X12_steps_s (f_X12_steps n) (nI c) (nI s) σ = _
    unfold f_X12_steps_s
    by_cases e0 : s = 0
    · subst e0
      rw [if_neg (fun z => z rfl)]
      obtain ⟨v', e1, e2, -⟩ := m_steps_l h ok hc (s := 0) (by decide) (B := 126) (by decide) (r := stepsN A n) hB (A 0) 0 400 (some 0) 0 (by omega) (by omega) (fun x e => by injection e with e; subst e; exact ⟨by omega, rfl⟩) (fun e => by cases e)
      have e1' : f_X12_steps_l13 (f_X12_steps n) (nI c) (nI 0) σ 400 0 0 = some v' := e1
      rw [e1', e2 0 (best_nil _ _)]
      show some (nI 0) = some (nI ((bestS (stepsN A n) A c 0 (A 0) 0 none).getD 0))
      rw [best_nil]
      rfl
    · rw [if_pos (show ¬ nI s = 0 from fun z => e0 ((nI_eq (b := 0) (by omega) (by decide)).mp z))]
      obtain ⟨v', e1, e2, -⟩ := m_steps_l h ok hc hs (B := 126) (by decide) (r := stepsN A n) hB (A 0) 0 400 none (-1) (by omega) (by omega) (fun x e => by cases e) (fun _ => rfl)
      have e1' : f_X12_steps_l13 (f_X12_steps n) (nI c) (nI s) σ 400 (-1) 0 = some v' := e1
      obtain ⟨j, j1, j2⟩ := some_bit (A 0) (by omega) s hs hm2 e0
      obtain ⟨y, ey⟩ := best_get (r := stepsN A n) (A := A) (c := c) (s := s) (A 0) 0 ⟨j, by omega, by omega, j2⟩
      rw [e1', e2 y ey]
      show some (nI y) = some (nI ((bestS (stepsN A n) A c s (A 0) 0 none).getD 0))
      rw [ey]
      rfl
