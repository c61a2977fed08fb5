/-! span, liar: both sides -/
def cntL (F : Nat → Bool) : Nat → Nat → Nat
  | 0, _ => 0
  | d + 1, k => (if F k = true then 1 else 0) + cntL F d (k + 1)
def firstL (F : Nat → Bool) : Nat → Nat → Option Nat
  | 0, _ => none
  | d + 1, k => if F k = true then some k else firstL F d (k + 1)
theorem cntL_t {F : Nat → Bool} {d k : Nat} (h : F k = true) : cntL F (d + 1) k = 1 + cntL F d (k + 1) := by
  show (if F k = true then 1 else 0) + _ = _
  rw [if_pos h]
theorem cntL_f {F : Nat → Bool} {d k : Nat} (h : ¬ F k = true) : cntL F (d + 1) k = cntL F d (k + 1) := by
  show (if F k = true then 1 else 0) + _ = _
  rw [if_neg h, Nat.zero_add]
theorem firstL_t {F : Nat → Bool} {d k : Nat} (h : F k = true) : firstL F (d + 1) k = some k := if_pos h
theorem firstL_f {F : Nat → Bool} {d k : Nat} (h : ¬ F k = true) : firstL F (d + 1) k = firstL F d (k + 1) := if_neg h
theorem cntL_le (F : Nat → Bool) : ∀ d k, cntL F d k ≤ d
  | 0, _ => Nat.le_refl _
  | d + 1, k => by
    have := cntL_le F d (k + 1)
    by_cases h : F k = true
    · rw [cntL_t h]; omega
    · rw [cntL_f h]; omega
theorem cntL_0 {F : Nat → Bool} : ∀ d k, cntL F d k = 0 ↔ firstL F d k = none
  | 0, _ => ⟨fun _ => rfl, fun _ => rfl⟩
  | d + 1, k => by
    by_cases h : F k = true
    · rw [cntL_t h, firstL_t h]
      exact ⟨fun z => absurd z (by omega), fun z => (by cases z)⟩
    · rw [cntL_f h, firstL_f h]
      exact cntL_0 d (k + 1)
theorem firstL_b {F : Nat → Bool} : ∀ d k f, firstL F d k = some f → k ≤ f ∧ f < k + d
  | 0, _, _, h => by cases h
  | d + 1, k, f, h => by
    by_cases q : F k = true
    · rw [firstL_t q] at h
      injection h with h
      omega
    · rw [firstL_f q] at h
      have := firstL_b d (k + 1) f h
      omega
theorem cntL_a {F : Nat → Bool} : ∀ a b k, cntL F (a + b) k = cntL F a k + cntL F b (k + a)
  | 0, b, k => by rw [Nat.zero_add, Nat.add_zero]; exact (Nat.zero_add _).symm
  | a + 1, b, k => by
    rw [show a + 1 + b = (a + b) + 1 by omega]
    have ih := cntL_a a b (k + 1) (F := F)
    rw [show k + 1 + a = k + (a + 1) by omega] at ih
    by_cases h : F k = true
    · rw [cntL_t h, cntL_t h, ih, Nat.add_assoc]
    · rw [cntL_f h, cntL_f h, ih]
theorem firstL_a {F : Nat → Bool} : ∀ a b k, firstL F (a + b) k = (match firstL F a k with | some f => some f | none => firstL F b (k + a))
  | 0, b, k => by rw [Nat.zero_add, Nat.add_zero]; rfl
  | a + 1, b, k => by
    rw [show a + 1 + b = (a + b) + 1 by omega]
    have ih := firstL_a a b (k + 1) (F := F)
    rw [show k + 1 + a = k + (a + 1) by omega] at ih
    by_cases h : F k = true
    · rw [firstL_t h, firstL_t h]
    · rw [firstL_f h, firstL_f h, ih]
def fitI (A : Nat → Nat) (but : Int32) (k : Nat) : Bool := fitB A but (1 + k / 64) (k % 64)
/-! the reference -/
theorem m_find_l {A : Nat → Nat} (ok : okA A) (but : Int32) : ∀ d k n c (σ : Sg), k + d = 320 → d < n → rM σ A → σ 0 15 = nI c → c ≤ k → ∃ σ', f_X12_findFits_l7 but n (nI k) σ = some σ' ∧ σ' 0 15 = nI (c + cntL (fitI A but) d k) ∧
    (c = 0 → ∀ f, firstL (fitI A but) d k = some f → σ' 0 16 = nI (1 + f / 64) ∧ σ' 0 17 = nI (f % 64)) ∧ (¬ c = 0 → σ' 0 16 = σ 0 16 ∧ σ' 0 17 = σ 0 17) ∧ (∀ p, p ≠ 0 → σ' p = σ p) ∧ ∀ i, i < 15 ∨ 18 ≤ i → σ' 0 i = σ 0 i
  | d, k, 0, c, σ, _, h, _, _, _ => absurd h (by omega)
  | d, k, n + 1, c, σ, hd, hn, hr, hc, hck => by
    show ∃ σ', f_X12_findFits_b7 (f_X12_findFits_l7 but n) but (nI k) σ = some σ' ∧ _
    unfold f_X12_findFits_b7
    simp only [lit]
    cases d with
    | zero =>
      rw [if_pos (nI_le (by omega) (by omega))]
      exact ⟨σ, rfl, hc, fun _ f e => (by cases e), fun _ => ⟨rfl, rfl⟩, fun _ _ => rfl, fun _ _ => rfl⟩
    | succ d =>
      unfold rem32
      rw [if_neg (nI_ge (by omega) (by omega)), pk_rem (by omega) (by decide) (by decide), pk_div (by omega) (by decide) (by decide), nI_add, lt_ap, lt_ap, m_isFit hr ok (by omega) (Nat.mod_lt _ (by decide)), bnd_some]
      by_cases q : fitI A but k = true
      · rw [if_pos (show fitB A but (1 + k / 64) (k % 64) = true from q), hc]
        unfold f_X12_findFits_b54 f_X12_findFits_b74
        simp only [lit]
        by_cases c0 : c = 0
        · subst c0
          rw [if_neg (show ¬ ¬ nI 0 = nI 0 from fun z => z rfl), lt_ap, upS_nj (j := 15) (by omega), hc, if_neg (show ¬ ¬ nI 0 = nI 0 from fun z => z rfl), lt_ap, upS_nj (j := 15) (by omega), upS_nj (j := 15) (by omega), hc, lt_ap, nI_add, nI_add]
          obtain ⟨σ', p1, p2, -, p4, p5, p6⟩ := m_find_l ok but d (k + 1) n 1 (upS (upS (upS σ 0 16 (nI (1 + k / 64))) 0 17 (nI (k % 64))) 0 15 (nI (0 + 1))) (by omega) (by omega) (fun i a b c d => by rw [upS_ne (by decide), upS_ne (by decide), upS_ne (by decide)]; exact hr i a b c d) upS_at (by omega)
          obtain ⟨p4a, p4b⟩ := p4 (by decide)
          refine ⟨σ', p1, by rw [p2, cntL_t q, Nat.zero_add], fun _ f e => ?_, fun z => absurd rfl z, fun p hp => by rw [p5 p hp, upS_ne hp, upS_ne hp, upS_ne hp], fun i hi => by rw [p6 i hi, upS_nj (by omega), upS_nj (by omega), upS_nj (by omega)]⟩
          rw [firstL_t q] at e
          injection e with e
          subst e
          rw [p4a, p4b]
          exact ⟨by rw [upS_nj (by omega), upS_nj (by omega), upS_at], by rw [upS_nj (by omega), upS_at]⟩
        · have cn : ¬ nI c = nI 0 := fun z => c0 ((nI_eq (by omega) (by decide)).mp z)
          rw [if_pos cn, lt_ap, upS_nj (j := 15) (by omega), hc, if_pos cn, lt_ap, upS_nj (j := 15) (by omega), upS_nj (j := 15) (by omega), hc, lt_ap, nI_add, nI_add, upS_nj (j := 17) (by omega)]
          obtain ⟨σ', p1, p2, -, p4, p5, p6⟩ := m_find_l ok but d (k + 1) n (c + 1) (upS (upS (upS σ 0 16 (σ 0 16)) 0 17 (σ 0 17)) 0 15 (nI (c + 1))) (by omega) (by omega) (fun i a b c d => by rw [upS_ne (by decide), upS_ne (by decide), upS_ne (by decide)]; exact hr i a b c d) upS_at (by omega)
          obtain ⟨p4a, p4b⟩ := p4 (by omega)
          refine ⟨σ', p1, by rw [p2, cntL_t q, Nat.add_assoc], fun z => absurd z c0, fun _ => ?_, fun p hp => by rw [p5 p hp, upS_ne hp, upS_ne hp, upS_ne hp], fun i hi => by rw [p6 i hi, upS_nj (by omega), upS_nj (by omega), upS_nj (by omega)]⟩
          rw [p4a, p4b]
          exact ⟨by rw [upS_nj (by omega), upS_nj (by omega), upS_at], by rw [upS_nj (by omega), upS_at]⟩
      · rw [if_neg (show ¬ fitB A but (1 + k / 64) (k % 64) = true from q), nI_add, cntL_f q, firstL_f q]
        exact m_find_l ok but d (k + 1) n c σ (by omega) (by omega) hr hc (by omega)
theorem m_findFits {σ : Sg} {A : Nat → Nat} (h : rM σ A) (ok : okA A) (but : Int32) : ∃ σ', f_X12_findFits but σ = some σ' ∧ σ' 0 15 = nI (cntL (fitI A but) 320 0) ∧ (∀ f, firstL (fitI A but) 320 0 = some f → σ' 0 16 = nI (1 + f / 64) ∧ σ' 0 17 = nI (f % 64)) ∧ eqQ σ σ' := by
  unfold f_X12_findFits
  rw [lt_ap]
  obtain ⟨σ', p1, p2, p3, -, p5, p6⟩ := m_find_l ok but 320 0 400 0 (upS σ 0 15 0) (by omega) (by omega) (fun i a b c d => by rw [upS_ne (by decide)]; exact h i a b c d) upS_at (by omega)
  rw [Nat.zero_add] at p2
  exact ⟨σ', p1, p2, p3 rfl, ⟨fun i _ => by rw [p5 1 (by decide), upS_ne (by decide)], fun p hp => by rw [p5 p (by omega), upS_ne (by omega)], fun i hi => by rw [p6 i (by omega), upS_nj (by omega)]⟩⟩
/-! the class -/
theorem fitI_at {A : Nat → Nat} {but : Int32} {m c : Nat} (hc : c < 64) : fitI A but (64 * m + c) = fitB A but (m + 1) c := by
  unfold fitI
  rw [show 1 + (64 * m + c) / 64 = m + 1 by omega, show (64 * m + c) % 64 = c by omega]
theorem c_ff_l {σ : Sg} {A : Nat → Nat} (hs : rCs σ A) (ok : okA A) (but : Int32) {K : Int32 → Option Int32} {m : Nat} (hm : m < 5) : ∀ d c n, c + d = 64 → d < n → f_X1_firstFitting_l9 K but (nI (m + 1)) σ n (nI c) = (match firstL (fitI A but) d (64 * m + c) with | some f => some (nI (f + 64)) | none => K (nI (m + 1) + 1))
  | d, c, 0, _, h => absurd h (by omega)
  | d, c, n + 1, hd, hn => by
    show f_X1_firstFitting_b9 K (f_X1_firstFitting_l9 K but (nI (m + 1)) σ n) but (nI (m + 1)) σ (nI c) = _
    unfold f_X1_firstFitting_b9
    simp only [lit]
    cases d with
    | zero => rw [if_pos (nI_lt (by omega) (by omega))]; rfl
    | succ d =>
      have hc : c < 64 := by omega
      rw [if_neg (nI_nlt (by omega) (by omega)), c_fits hs ok (by omega) hc, bnd_some, ← fitI_at hc]
      by_cases q : fitI A but (64 * m + c) = true
      · rw [if_pos q, firstL_t q, pk_mul, nI_add, show (m + 1) * 64 + c = 64 * m + c + 64 by omega]
      · rw [if_neg q, firstL_f q, nI_add]
        exact c_ff_l hs ok but hm d (c + 1) n (by omega) (by omega)
theorem c_ff2_l {σ : Sg} {A : Nat → Nat} (hs : rCs σ A) (ok : okA A) (but : Int32) : ∀ d m n, m + d = 5 → d < n → f_X1_firstFitting_l2 but σ n (nI (m + 1)) = (match firstL (fitI A but) (64 * d) (64 * m) with | some f => some (nI (f + 64)) | none => some (-3))
  | d, m, 0, _, h => absurd h (by omega)
  | d, m, n + 1, hd, hn => by
    show f_X1_firstFitting_b2 (f_X1_firstFitting_l2 but σ n) but σ (nI (m + 1)) = _
    unfold f_X1_firstFitting_b2
    cases d with
    | zero => rw [if_pos (show (5 : Int32) < nI (m + 1) from nI_lt (a := 5) (by omega) (by omega))]; rfl
    | succ d =>
      have e := c_ff_l hs ok but (K := f_X1_firstFitting_l2 but σ n) (m := m) (by omega) 64 0 400 (by omega) (by omega)
      have e' : f_X1_firstFitting_l9 (f_X1_firstFitting_l2 but σ n) but (nI (m + 1)) σ 400 0 = _ := e
      rw [if_neg (show ¬ (5 : Int32) < nI (m + 1) from nI_nlt (a := 5) (by omega) (by omega)), e', show 64 * (d + 1) = 64 + 64 * d by omega, firstL_a, show 64 * m + 0 = 64 * m from rfl, nI_1]
      cases q : firstL (fitI A but) 64 (64 * m) with
      | some f => rfl
      | none =>
        have ih := c_ff2_l hs ok but d (m + 1) n (by omega) (by omega)
        rw [show 64 * (m + 1) = 64 * m + 64 by omega] at ih
        exact ih
theorem c_firstFitting {σ : Sg} {A : Nat → Nat} (hs : rCs σ A) (ok : okA A) (but : Int32) : f_X1_firstFitting but σ = (match firstL (fitI A but) 320 0 with | some f => some (nI (f + 64)) | none => some (-3)) := c_ff2_l hs ok but 5 0 400 (by omega) (by omega)
theorem c_cf_l {σ : Sg} {A : Nat → Nat} (hs : rCs σ A) (ok : okA A) {K : Int32 → Int32 → Option Int32} {m : Nat} (hm : m < 5) : ∀ d c n a, c + d = 64 → d < n → f_X1_countFitting_l11 K (nI (m + 1)) σ n (nI a) (nI c) = K (nI (a + cntL (fitI A (-3)) d (64 * m + c))) (nI (m + 1) + 1)
  | d, c, 0, a, _, h => absurd h (by omega)
  | d, c, n + 1, a, hd, hn => by
    show f_X1_countFitting_b11 K (f_X1_countFitting_l11 K (nI (m + 1)) σ n) (nI (m + 1)) σ (nI a) (nI c) = _
    unfold f_X1_countFitting_b11
    cases d with
    | zero => rw [if_pos (show (63 : Int32) < nI c from nI_lt (a := 63) (by omega) (by omega))]; rfl
    | succ d =>
      have hc : c < 64 := by omega
      rw [if_neg (show ¬ (63 : Int32) < nI c from nI_nlt (a := 63) (by omega) (by omega)), c_fits hs ok (by omega) hc, bnd_some, ← fitI_at hc]
      by_cases q : fitI A (-3) (64 * m + c) = true
      · rw [if_pos q, cntL_t q, nI_1, nI_1, c_cf_l hs ok hm d (c + 1) n (a + 1) (by omega) (by omega), Nat.add_assoc]
        rfl
      · rw [if_neg q, cntL_f q, nI_1]
        exact c_cf_l hs ok hm d (c + 1) n a (by omega) (by omega)
theorem c_cf2_l {σ : Sg} {A : Nat → Nat} (hs : rCs σ A) (ok : okA A) : ∀ d m n a, m + d = 5 → d < n → f_X1_countFitting_l4 σ n (nI a) (nI (m + 1)) = some (nI (a + cntL (fitI A (-3)) (64 * d) (64 * m)))
  | d, m, 0, a, _, h => absurd h (by omega)
  | d, m, n + 1, a, hd, hn => by
    show f_X1_countFitting_b4 (f_X1_countFitting_l4 σ n) σ (nI a) (nI (m + 1)) = _
    unfold f_X1_countFitting_b4
    cases d with
    | zero => rw [if_pos (show (5 : Int32) < nI (m + 1) from nI_lt (a := 5) (by omega) (by omega))]; rfl
    | succ d =>
      have e := c_cf_l hs ok (K := f_X1_countFitting_l4 σ n) (m := m) (by omega) 64 0 400 a (by omega) (by omega)
      have e' : f_X1_countFitting_l11 (f_X1_countFitting_l4 σ n) (nI (m + 1)) σ 400 (nI a) 0 = _ := e
      rw [if_neg (show ¬ (5 : Int32) < nI (m + 1) from nI_nlt (a := 5) (by omega) (by omega)), e', show 64 * (d + 1) = 64 + 64 * d by omega, cntL_a, show 64 * m + 0 = 64 * m from rfl, nI_1]
      have ih := c_cf2_l hs ok d (m + 1) n (a + cntL (fitI A (-3)) 64 (64 * m)) (by omega) (by omega)
      rw [show 64 * (m + 1) = 64 * m + 64 by omega, Nat.add_assoc a] at ih
      exact ih
theorem c_countFitting {σ : Sg} {A : Nat → Nat} (hs : rCs σ A) (ok : okA A) : f_X1_countFitting σ = some (nI (cntL (fitI A (-3)) 320 0)) := by
  have e : f_X1_countFitting σ = some (nI (0 + cntL (fitI A (-3)) 320 0)) := c_cf2_l hs ok 5 0 400 0 (by omega) (by omega)
  rw [Nat.zero_add] at e
  exact e
theorem fitI_but {A : Nat → Nat} (ok : okA A) : fitI A (-1) = fitI A (-3) := funext (fun k => fit_but ok _ _)
theorem ne_m3 {t : Nat} (h : t < 1000) : ¬ nI t = (-3 : Int32) := fun z => by
  have := congrArg Int32.toInt z
  rw [nI_toInt (by omega)] at this
  exact absurd this (by have : (-3 : Int32).toInt = -3 := rfl; omega)
theorem eq_span {σM σC : Sg} (h : Rel σM σC) (x : Int32) : ∃ r σM', f_X12_span x σM = some (r, σM') ∧ f_X11_span x σC = some r ∧ Rel σM' σC := by
  obtain ⟨⟨A, W, g⟩, hk', hr⟩ := id h
  obtain ⟨σ1, p1, p2, p3, p4⟩ := m_findFits g.m g.ok (-1)
  rw [fitI_but g.ok] at p2 p3
  have h1 := h.fr p4 (eqK.rf σC)
  have hc := cntL_le (fitI A (-3)) 320 0
  unfold f_X12_span f_X11_span
  rw [m_inN 0 2 0 2 rfl rfl, show f_X11_within x 0 2 σC = rng x (nI 0) (nI 2) from c_in _ _ _ _]
  by_cases q : rng x (nI 0) (nI 2) = true
  · rw [if_pos q, if_pos q, p1, bnd_some, p2, c_countFitting g.c g.ok, bnd_some, c_firstFitting g.c g.ok]
    by_cases x0 : x = 0
    · rw [if_neg (fun z => z x0), if_neg (fun z => z x0)]
      exact ⟨_, σ1, rfl, rfl, h1⟩
    · rw [if_pos x0, if_pos x0]
      cases e : firstL (fitI A (-3)) 320 0 with
      | none =>
        rw [(cntL_0 320 0).mpr e, if_neg (show ¬ ¬ nI 0 = 0 from fun z => z rfl)]
        dsimp only
        rw [bnd_some, if_neg (show ¬ ¬ (-3 : Int32) = -3 from fun z => z rfl)]
        exact ⟨_, σ1, rfl, rfl, h1⟩
      | some f =>
        obtain ⟨f1, f2⟩ := p3 f e
        obtain ⟨-, fb⟩ := firstL_b _ _ _ e
        have cn : ¬ nI (cntL (fitI A (-3)) 320 0) = 0 := fun z => by
          have := (nI_eq (b := 0) (by omega) (by decide)).mp z
          rw [(cntL_0 320 0).mp this] at e
          cases e
        dsimp only
        rw [if_pos cn, bnd_some, if_pos (ne_m3 (by omega)), f1, f2]
        by_cases x1 : x = 1
        · rw [if_neg (fun z => z x1), if_neg (fun z => z x1), show nI (f + 64) / 64 = nI ((f + 64) / 64) from pk_div (d := 64) (by omega) (by decide) (by decide), show (f + 64) / 64 = 1 + f / 64 by omega]
          exact ⟨_, σ1, rfl, rfl, h1⟩
        · rw [if_pos x1, if_pos x1, show rem32 (nI (f + 64)) 64 = nI ((f + 64) % 64) from pk_rem (d := 64) (by omega) (by decide) (by decide), show (f + 64) % 64 = f % 64 by omega]
          exact ⟨_, σ1, rfl, rfl, h1⟩
  · rw [if_neg q, if_neg q]
    exact ⟨_, σM, rfl, rfl, h⟩
theorem eq_liar_l {A : Nat → Nat} (ok : okA A) {σC : Sg} (hs : rCs σC A) : ∀ d k n1 n2 (σ : Sg), k + d = A 5 → d < n1 → d < n2 → rM σ A → ∃ r σ', f_X12_liar_l20 1 n1 (nI k) σ = some (r, σ') ∧ f_X11_liar_l19 σC n2 (nI k) = some r ∧ eqQ σ σ'
  | d, k, 0, n2, σ, _, h, _, _ => absurd h (by omega)
  | d, k, n1 + 1, 0, σ, _, _, h, _ => absurd h (by omega)
  | d, k, n1 + 1, n2 + 1, σ, hd, hn1, hn2, hr => by
    have h5 := ok.1.2.2.2.2
    have e5 := hr 5 (by decide) (by decide) (by decide) (by decide)
    show ∃ r σ', f_X12_liar_b20 (f_X12_liar_l20 1 n1) 1 (nI k) σ = some (r, σ') ∧ f_X11_liar_b19 (f_X11_liar_l19 σC n2) σC (nI k) = some r ∧ eqQ σ σ'
    unfold f_X12_liar_b20 f_X11_liar_b19
    rw [e5, hs.2.2.1]
    cases d with
    | zero =>
      rw [if_pos (nI_le (by omega) (by omega)), if_pos (nI_le (by omega) (by omega))]
      exact ⟨_, σ, rfl, rfl, eqQ.rf σ⟩
    | succ d =>
      obtain ⟨σ1, p1, p2, p3, p4⟩ := m_findFits hr ok (nI k)
      have hc := cntL_le (fitI A (nI k)) 320 0
      rw [if_neg (nI_ge (by omega) (by omega)), if_neg (nI_ge (by omega) (by omega)), if_neg (show ¬ (1 : Int32) = 0 by decide), p1, bnd_some, p2, c_firstFitting hs ok, nI_1]
      cases e : firstL (fitI A (nI k)) 320 0 with
      | none =>
        rw [(cntL_0 320 0).mpr e, if_pos (show nI 0 ≤ (0 : Int32) by decide)]
        dsimp only
        rw [bnd_some, if_pos rfl]
        obtain ⟨r, σ2, i1, i2, i3⟩ := eq_liar_l ok hs d (k + 1) n1 n2 σ1 (by omega) (by omega) (by omega) (fun i a b c d => (p4.1 i (by omega)).trans (hr i a b c d))
        exact ⟨r, σ2, i1, i2, p4.tr i3⟩
      | some f =>
        obtain ⟨-, fb⟩ := firstL_b _ _ _ e
        have c0 : 0 < cntL (fitI A (nI k)) 320 0 := Nat.pos_of_ne_zero (fun z => by rw [(cntL_0 320 0).mp z] at e; cases e)
        dsimp only
        rw [if_neg (nI_nle c0 (by omega)), bnd_some, if_neg (ne_m3 (by omega))]
        exact ⟨_, σ1, rfl, rfl, p4⟩
theorem eq_liar {σM σC : Sg} (h : Rel σM σC) : ∃ r σM', f_X12_liar σM = some (r, σM') ∧ f_X11_liar σC = some r ∧ Rel σM' σC := by
  obtain ⟨⟨A, W, g⟩, hk', hr⟩ := id h
  obtain ⟨σ1, p1, p2, p3, p4⟩ := m_findFits g.m g.ok (-1)
  rw [fitI_but g.ok] at p2 p3
  have h5 := g.ok.1.2.2.2.2
  have h1 := h.fr p4 (eqK.rf σC)
  have hc := cntL_le (fitI A (-3)) 320 0
  have m1 : rM σ1 A := fun i a b c d => (p4.1 i (by omega)).trans (g.m i a b c d)
  unfold f_X12_liar f_X11_liar
  rw [p1, bnd_some, p2, c_firstFitting g.c g.ok]
  cases e : firstL (fitI A (-3)) 320 0 with
  | none =>
    rw [(cntL_0 320 0).mpr e, if_neg (show ¬ ¬ nI 0 = 0 from fun z => z rfl)]
    dsimp only
    rw [bnd_some, if_pos rfl]
    obtain ⟨r, σ2, i1, i2, i3⟩ := eq_liar_l g.ok g.c (A 5) 0 400 400 σ1 (by omega) (by omega) (by omega) m1
    exact ⟨r, σ2, i1, i2, h1.fr i3 (eqK.rf σC)⟩
  | some f =>
    obtain ⟨-, fb⟩ := firstL_b _ _ _ e
    have cn : ¬ nI (cntL (fitI A (-3)) 320 0) = 0 := fun z => by
      have := (nI_eq (b := 0) (by omega) (by decide)).mp z
      rw [(cntL_0 320 0).mp this] at e
      cases e
    dsimp only
    rw [if_pos cn, bnd_some, if_neg (ne_m3 (by omega))]
    refine ⟨-3, σ1, ?_, rfl, h1⟩
    show f_X12_liar_b20 (f_X12_liar_l20 0 399) 0 0 σ1 = _
    unfold f_X12_liar_b20
    rw [if_pos (show (0 : Int32) = 0 from rfl)]
    split <;> rfl
