/-! circuit: both sides -/
theorem lie0 : ∀ m, m < 7 → ∀ s, s < 64 → s < 2 ^ m → ((shl32 1 (nI m)) - 1) &&& (nI s ^^^ (-1)) = nI (2 ^ m - 1 - s) := by decide +kernel
def firstS (A : Nat → Nat) (c s v : Nat) : Nat → Nat → Option Nat
  | 0, _ => none
  | d + 1, k => if s / 2 ^ k % 2 = 1 ∧ farN c (A (35 + 6 * k + 1)) + stepsN A 8 (A (35 + 6 * k + 1)) (bitN s k 0) = v then some k else firstS A c s v d (k + 1)
theorem first_t {A : Nat → Nat} {c s v d k : Nat} (h : s / 2 ^ k % 2 = 1 ∧ farN c (A (35 + 6 * k + 1)) + stepsN A 8 (A (35 + 6 * k + 1)) (bitN s k 0) = v) : firstS A c s v (d + 1) k = some k := if_pos h
theorem first_f {A : Nat → Nat} {c s v d k : Nat} (h : ¬ (s / 2 ^ k % 2 = 1 ∧ farN c (A (35 + 6 * k + 1)) + stepsN A 8 (A (35 + 6 * k + 1)) (bitN s k 0) = v)) : firstS A c s v (d + 1) k = firstS A c s v d (k + 1) := if_neg h
theorem m_first_l {σ : Sg} {A : Nat → Nat} (h : rM σ A) (ok : okA A) {c s v : Nat} (hc : c < 64) (hs : s < 64) (hm2 : s < 2 ^ A 0) (hv : v < 1000) : ∀ (d k n : Nat), k + d = A 0 → d < n → f_X12_circuit_l56 (nI c) (nI s) (nI v) σ n (nI k) = some (ansW (firstS A c s v d k))
  | d, k, 0, _, hn => absurd hn (by omega)
  | d, k, n + 1, hd, hn => by
    have hm := ok.1.1
    show f_X12_circuit_b56 (f_X12_circuit_l56 (nI c) (nI s) (nI v) σ n) (nI c) (nI s) (nI v) σ (nI k) = _
    unfold f_X12_circuit_b56
    rw [h 0 (by decide) (by decide) (by decide) (by decide)]
    cases d with
    | zero => rw [if_pos (nI_le (by omega) (by omega))]; rfl
    | succ d =>
      have hk : k < 6 := by omega
      have ha := (ok.2.2.2.1 k hk).2.1
      have ih := m_first_l h ok hc hs hm2 hv d (k + 1) n (by omega) (by omega)
      rw [if_neg (nI_ge (by omega) (by omega)), nI_1]
      by_cases q : s / 2 ^ k % 2 = 1
      · have h1 := pc_less s hs k hk q
        have h6 := pc_le s hs
        have hf := far_lt c hc (A (35 + 6 * k + 1)) (by omega)
        have hl := steps_le ok 8 (A (35 + 6 * k + 1)) (bitN s k 0) (by omega)
        rw [if_neg (fun z => z ((m_bit0 s hs k hk).mpr q)), show f_X12_its (nI k) 1 σ = some (nI (A (35 + 6 * k + 1))) from m_its h hk (by decide), bnd_some, bnd_some, m_off0 s hs k hk q, m_steps h ok 8 _ _ (by omega) (by omega) (by omega) (by omega) (by omega), bnd_some, m_far hc (by omega), nI_add]
        by_cases q2 : farN c (A (35 + 6 * k + 1)) + stepsN A 8 (A (35 + 6 * k + 1)) (bitN s k 0) = v
        · rw [if_neg (fun z => z (by rw [q2])), first_t ⟨q, q2⟩]; rfl
        · rw [if_pos (fun z => q2 ((nI_eq (by omega) (by omega)).mp z)), first_f (fun z => q2 z.2)]
          exact ih
      · rw [if_pos (fun z => q ((m_bit0 s hs k hk).mp z)), first_f (fun z => q z.1)]
        exact ih
theorem c_first2_l {σ : Sg} {A : Nat → Nat} {sc : Int32} (hcs : rCs σ A) (hcd : rCd σ 41 A sc) (ok : okA A) {c s v : Nat} (hc : c < 64) (hs : s < 64) (hv : v < 1000) : ∀ (d k n : Nat), k + d = A 0 → d < n → f_X11_firstOnCircuit_l3 (nI c) (nI s) (nI v) σ n (nI k) = some (ansW (firstS A c s v d k))
  | d, k, 0, _, hn => absurd hn (by omega)
  | d, k, n + 1, hd, hn => by
    have hm := ok.1.1
    show f_X11_firstOnCircuit_b3 (f_X11_firstOnCircuit_l3 (nI c) (nI s) (nI v) σ n) (nI c) (nI s) (nI v) σ (nI k) = _
    unfold f_X11_firstOnCircuit_b3
    rw [hcs.1]
    cases d with
    | zero => rw [if_pos (nI_le (by omega) (by omega))]; rfl
    | succ d =>
      have hk : k < 6 := by omega
      have ha := (ok.2.2.2.1 k hk).2.1
      have ih := c_first2_l hcs hcd ok hc hs hv d (k + 1) n (by omega) (by omega)
      rw [if_neg (nI_ge (by omega) (by omega)), c_isIn hs hk, nI_1]
      by_cases q : s / 2 ^ k % 2 = 1
      · have h1 := pc_less s hs k hk q
        have h6 := pc_le s hs
        have hf := far_lt c hc (A (35 + 6 * k + 1)) (by omega)
        have hl := steps_le ok 8 (A (35 + 6 * k + 1)) (bitN s k 0) (by omega)
        rw [if_pos (decide_eq_true q), rd_nI hk (by decide), bnd_some, (hcd.2.2.2.2 k hk).1, c_off hs hk q, c_steps hcs hcd ok 8 _ _ (by omega) (by omega) (by omega) (by omega), bnd_some, c_far hc (by omega), nI_add]
        by_cases q2 : farN c (A (35 + 6 * k + 1)) + stepsN A 8 (A (35 + 6 * k + 1)) (bitN s k 0) = v
        · rw [if_neg (fun z => z (by rw [q2])), first_t ⟨q, q2⟩]; rfl
        · rw [if_pos (fun z => q2 ((nI_eq (by omega) (by omega)).mp z)), first_f (fun z => q2 z.2)]
          exact ih
      · rw [if_neg (fun z => q (of_decide_eq_true z)), first_f (fun z => q z.1)]
        exact ih
theorem set_lt2 {A : Nat → Nat} (ok : okA A) : setN A 4 < 2 ^ A 0 := by
  have hm := ok.1.1
  have e2 := setP_hi (A := A) (w := 4) (m := A 0) (fun k h1 h2 => (ok.2.2.2.2.2 k h1 h2).1) (6 - A 0) (A 0) (Nat.le_refl _) (by omega)
  rw [← setP_6, ← e2]
  exact setP_lt (ok_al ok) (A 0) hm
theorem eq_circuit {σM σC : Sg} (h : Rel σM σC) (x y : Int32) : ∃ r, f_X12_circuit x y σM = some r ∧ f_X11_circuit x y σC = some r := by
  obtain ⟨⟨A, W, g⟩, hk', hr⟩ := id h
  have hm := g.ok.1.1
  unfold f_X12_circuit f_X12_isCell f_X11_circuit
  rw [m_inN 0 63 0 63 rfl rfl, m_inN 0 1 0 1 rfl rfl, show f_X11_within x 0 63 σC = rng x (nI 0) (nI 63) from c_in _ _ _ _, show f_X11_within y 0 1 σC = rng y (nI 0) (nI 1) from c_in _ _ _ _]
  by_cases q : rng x (nI 0) (nI 63) = true
  · obtain ⟨c, -, hc, rfl⟩ := (rng_nI (by decide) (by decide)).mp q
    rw [if_pos q, if_pos q]
    by_cases q1 : rng y (nI 0) (nI 1) = true
    · have h64 : (2 : Nat) ^ A 0 ≤ 2 ^ 6 := Nat.pow_le_pow_right (by decide) hm
      have hpos : 0 < (2 : Nat) ^ A 0 := Nat.pow_pos (by decide)
      have hs4 := set_lt2 g.ok
      have el := lie0 (A 0) (by omega) (setN A 4) (by omega) hs4
      have hp := pc_le (2 ^ A 0 - 1 - setN A 4) (by omega)
      have hb := steps_le g.ok 8 c (2 ^ A 0 - 1 - setN A 4) (by omega)
      unfold f_X1_allKites
      rw [if_pos q1, if_pos q1, show f_X12_those 4 σM = some (nI (setN A 4)) from m_those g.m g.ok (Or.inl rfl), bnd_some, g.m 0 (by decide) (by decide) (by decide) (by decide), g.c.1, g.d.2.2.1, lt_ap, lt_ap, el, m_steps g.m g.ok 8 c _ (by decide) (by omega) (by omega) (by omega) (by omega), bnd_some, c_steps g.c g.d g.ok 8 c _ (by decide) (by omega) (by omega) (by omega), bnd_some]
      by_cases y0 : y = 0
      · rw [if_neg (fun z => z y0), if_neg (fun z => z y0)]
        exact ⟨_, rfl, rfl⟩
      · have e1 := m_first_l g.m g.ok (c := c) (s := 2 ^ A 0 - 1 - setN A 4) (v := stepsN A 8 c (2 ^ A 0 - 1 - setN A 4)) (by omega) (by omega) (by omega) (by omega) (A 0) 0 400 (by omega) (by omega)
        have e2 := c_first2_l g.c g.d g.ok (c := c) (s := 2 ^ A 0 - 1 - setN A 4) (v := stepsN A 8 c (2 ^ A 0 - 1 - setN A 4)) (by omega) (by omega) (by omega) (A 0) 0 400 (by omega) (by omega)
        have e1' : f_X12_circuit_l56 (nI c) (nI (2 ^ A 0 - 1 - setN A 4)) (nI (stepsN A 8 c (2 ^ A 0 - 1 - setN A 4))) σM 400 0 = _ := e1
        have e2' : f_X11_firstOnCircuit (nI c) (nI (2 ^ A 0 - 1 - setN A 4)) (nI (stepsN A 8 c (2 ^ A 0 - 1 - setN A 4))) σC = _ := e2
        rw [if_pos y0, if_pos y0, e1', e2', bnd_some]
        exact ⟨_, rfl, rfl⟩
    · rw [if_neg q1, if_neg q1]
      exact ⟨_, rfl, rfl⟩
  · rw [if_neg q, if_neg q]
    exact ⟨_, rfl, rfl⟩
