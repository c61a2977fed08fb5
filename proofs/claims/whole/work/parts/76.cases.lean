/-! the class's cases, and both sides -/
def tgS (A : Nat → Nat) (k s : Nat) : Nat → Nat → Bool
  | 0, _ => false
  | d + 1, o => if s / 2 ^ o % 2 = 1 ∧ nearN (A (35 + 6 * k + 1)) (A (35 + 6 * o + 1)) = true then true else tgS A k s d (o + 1)
theorem tgS_iff {A : Nat → Nat} {k s : Nat} : ∀ d o, tgS A k s d o = true ↔ ∃ j, o ≤ j ∧ j < o + d ∧ s / 2 ^ j % 2 = 1 ∧ nearN (A (35 + 6 * k + 1)) (A (35 + 6 * j + 1)) = true
  | 0, o => ⟨fun h => (by cases h), fun ⟨j, h1, h2, _⟩ => absurd h2 (by omega)⟩
  | d + 1, o => by
    show (if s / 2 ^ o % 2 = 1 ∧ nearN (A (35 + 6 * k + 1)) (A (35 + 6 * o + 1)) = true then true else tgS A k s d (o + 1)) = true ↔ _
    by_cases q : s / 2 ^ o % 2 = 1 ∧ nearN (A (35 + 6 * k + 1)) (A (35 + 6 * o + 1)) = true
    · rw [if_pos q]
      exact ⟨fun _ => ⟨o, Nat.le_refl _, by omega, q.1, q.2⟩, fun _ => rfl⟩
    · rw [if_neg q, tgS_iff d (o + 1)]
      constructor
      · rintro ⟨j, h1, h2, h3⟩
        exact ⟨j, by omega, by omega, h3⟩
      · rintro ⟨j, h1, h2, h3⟩
        by_cases e : j = o
        · subst e
          exact absurd h3 q
        · exact ⟨j, by omega, by omega, h3⟩
theorem tgS_t {A : Nat → Nat} {k s d o : Nat} (h : s / 2 ^ o % 2 = 1 ∧ nearN (A (35 + 6 * k + 1)) (A (35 + 6 * o + 1)) = true) : tgS A k s (d + 1) o = true := if_pos h
theorem tgS_f {A : Nat → Nat} {k s d o : Nat} (h : ¬ (s / 2 ^ o % 2 = 1 ∧ nearN (A (35 + 6 * k + 1)) (A (35 + 6 * o + 1)) = true)) : tgS A k s (d + 1) o = tgS A k s d (o + 1) := if_neg h
theorem c_tgl_l {σ : Sg} {A : Nat → Nat} {sc : Int32} (hcs : rCs σ A) (hcd : rCd σ 41 A sc) (ok : okA A) {k s : Nat} (hk : k < 6) (hs : s < 64) : ∀ d o n, o + d = A 0 → d < n → f_X1_isTangledWithSome_l13 (nI s) (nI (A (35 + 6 * k + 1))) σ n (nI o) = some (tgS A k s d o)
  | d, o, 0, _, h => absurd h (by omega)
  | d, o, n + 1, hd, hn => by
    have h6 := ok.1.1
    show f_X1_isTangledWithSome_b13 (f_X1_isTangledWithSome_l13 (nI s) (nI (A (35 + 6 * k + 1))) σ n) (nI s) (nI (A (35 + 6 * k + 1))) σ (nI o) = _
    unfold f_X1_isTangledWithSome_b13
    rw [hcs.1]
    cases d with
    | zero => rw [if_pos (nI_le (by omega) (by omega))]; rfl
    | succ d =>
      have ho : o < 6 := by omega
      have a1 := (ok.2.2.2.1 k hk).2.1
      have b1 := (ok.2.2.2.1 o ho).2.1
      have ih := c_tgl_l hcs hcd ok hk hs d (o + 1) n (by omega) (by omega)
      have hc := c_near0 (A (35 + 6 * k + 1)) (by omega) (A (35 + 6 * o + 1)) (by omega)
      rw [if_neg (nI_ge (by omega) (by omega)), rd_nI ho (by decide), bnd_some, (hcd.2.2.2.2 o ho).1, c_isIn hs ho, nI_1, ih]
      by_cases q : s / 2 ^ o % 2 = 1
      · rw [if_pos (decide_eq_true q)]
        by_cases q2 : nearN (A (35 + 6 * k + 1)) (A (35 + 6 * o + 1)) = true
        · rw [tgS_t ⟨q, q2⟩, if_neg (fun z => hc.mp (Or.inl z) q2), if_neg (fun z => hc.mp (Or.inr z) q2)]
        · rw [tgS_f (fun z => q2 z.2)]
          by_cases q3 : 1 < abs32 ((nI (A (35 + 6 * k + 1)) &&& 7) - (nI (A (35 + 6 * o + 1)) &&& 7))
          · rw [if_pos q3]
          · rw [if_neg q3, if_pos ((hc.mpr q2).resolve_left q3)]
      · rw [if_neg (fun z => q (of_decide_eq_true z)), tgS_f (fun z => q z.1)]
theorem c_tgl {σ : Sg} {A : Nat → Nat} {sc : Int32} (hcs : rCs σ A) (hcd : rCd σ 41 A sc) (ok : okA A) {k s : Nat} (hk : k < 6) (hs : s < 64) : f_X1_isTangledWithSome (nI k) (nI s) σ = some (tgS A k s (A 0) 0) := by
  have h6 := ok.1.1
  unfold f_X1_isTangledWithSome
  rw [rd_nI hk (by decide), bnd_some, (hcd.2.2.2.2 k hk).1]
  exact c_tgl_l hcs hcd ok hk hs (A 0) 0 400 (by omega) (by omega)
def alS (A : Nat → Nat) (s : Nat) : Prop := ∀ j, j < 6 → s / 2 ^ j % 2 = 1 → A (35 + 6 * j + 4) = 1
def roundN (A : Nat → Nat) : Nat → Nat → Nat → Nat
  | 0, _, s => s
  | d + 1, o, s => roundN A d (o + 1) (if A (35 + 6 * o + 4) = 1 ∧ tgS A o s (A 0) 0 = true then bitN s o 1 else s)
theorem round_p {A : Nat → Nat} (ok : okA A) : ∀ d o s, o + d = A 0 → s < 64 → s < 2 ^ A 0 → alS A s → roundN A d o s < 64 ∧ roundN A d o s < 2 ^ A 0 ∧ subS s (roundN A d o s) ∧ alS A (roundN A d o s) ∧ (∀ C, clS A C → subS s C → subS (roundN A d o s) C) ∧
      (roundN A d o s = s → ∀ j, o ≤ j → j < A 0 → A (35 + 6 * j + 4) = 1 → tgS A j s (A 0) 0 = true → s / 2 ^ j % 2 = 1)
  | 0, o, s, hd, hs, hm, ha => ⟨hs, hm, subS.rf s, ha, fun _ _ h => h, fun _ j h1 h2 => absurd h2 (by omega)⟩
  | d + 1, o, s, hd, hs, hm, ha => by
    have h6 := ok.1.1
    have ho : o < 6 := by omega
    have hpow : (2 : Nat) ^ A 0 ≤ 2 ^ 6 := Nat.pow_le_pow_right (by decide) h6
    show roundN A d (o + 1) (if A (35 + 6 * o + 4) = 1 ∧ tgS A o s (A 0) 0 = true then bitN s o 1 else s) < 64 ∧ roundN A d (o + 1) (if A (35 + 6 * o + 4) = 1 ∧ tgS A o s (A 0) 0 = true then bitN s o 1 else s) < 2 ^ A 0 ∧ subS s (roundN A d (o + 1) (if A (35 + 6 * o + 4) = 1 ∧ tgS A o s (A 0) 0 = true then bitN s o 1 else s)) ∧ alS A (roundN A d (o + 1) (if A (35 + 6 * o + 4) = 1 ∧ tgS A o s (A 0) 0 = true then bitN s o 1 else s)) ∧ (∀ C, clS A C → subS s C → subS (roundN A d (o + 1) (if A (35 + 6 * o + 4) = 1 ∧ tgS A o s (A 0) 0 = true then bitN s o 1 else s)) C) ∧
      (roundN A d (o + 1) (if A (35 + 6 * o + 4) = 1 ∧ tgS A o s (A 0) 0 = true then bitN s o 1 else s) = s → ∀ j, o ≤ j → j < A 0 → A (35 + 6 * j + 4) = 1 → tgS A j s (A 0) 0 = true → s / 2 ^ j % 2 = 1)
    by_cases q : A (35 + 6 * o + 4) = 1 ∧ tgS A o s (A 0) 0 = true
    · rw [if_pos q]
      have hm1 := bit_m (A 0) (by omega) s hs hm o ho (by omega)
      have su : subS s (bitN s o 1) := fun j hj h => (bit_on s hs o ho j hj).mpr (Or.inr h)
      obtain ⟨i1, i2, i3, i4, i5, i6⟩ := round_p ok d (o + 1) (bitN s o 1) (by omega) (by omega) hm1 (fun j hj hq => by
        rcases (bit_on s hs o ho j hj).mp hq with e | e
        · subst e; exact q.1
        · exact ha j hj e)
      refine ⟨i1, i2, su.tr i3, i4, fun C hC h => i5 C hC (fun j hj hq => ?_), fun e j h1 h2 h3 h4 => ?_⟩
      · rcases (bit_on s hs o ho j hj).mp hq with e | e
        · subst e
          obtain ⟨i, j1, j2, j3, j4⟩ := (tgS_iff (A 0) 0).mp q.2
          exact hC i j (by omega) (by omega) (h i (by omega) j3) (tgl_iff.mpr ⟨ha i (by omega) j3, q.1, by rw [near_sym]; exact j4⟩)
        · exact h j hj e
      · rw [e] at i3
        have es : bitN s o 1 = s := sub_eq (by omega) hs i3 su
        by_cases e2 : j = o
        · subst e2
          exact i3 j ho ((bit_on s hs j ho j ho).mpr (Or.inl rfl))
        · rw [es] at i6
          rw [es] at e
          exact i6 e j (by omega) h2 h3 h4
    · rw [if_neg q]
      obtain ⟨i1, i2, i3, i4, i5, i6⟩ := round_p ok d (o + 1) s (by omega) hs hm ha
      refine ⟨i1, i2, i3, i4, i5, fun e j h1 h2 h3 h4 => ?_⟩
      by_cases e2 : j = o
      · subst e2
        exact absurd ⟨h3, h4⟩ q
      · exact i6 e j (by omega) h2 h3 h4
theorem round_cl {A : Nat → Nat} (ok : okA A) {s : Nat} (hs : s < 64) (hm : s < 2 ^ A 0) (ha : alS A s) (e : roundN A (A 0) 0 s = s) : clS A s := fun a b h1 h2 h3 h4 => by
  obtain ⟨-, -, -, -, -, p6⟩ := round_p ok (A 0) 0 s (by omega) hs hm ha
  obtain ⟨t1, t2, t3⟩ := tgl_iff.mp h4
  exact p6 e b (by omega) h2 t2 ((tgS_iff (A 0) 0).mpr ⟨a, by omega, by omega, h3, by rw [near_sym]; exact t3⟩)
def roundsN (A : Nat → Nat) : Nat → Nat → Nat
  | 0, s => s
  | i + 1, s => roundsN A i (roundN A (A 0) 0 s)
theorem rounds_p {A : Nat → Nat} (ok : okA A) : ∀ i s, s < 64 → s < 2 ^ A 0 → alS A s → (A 0 < pcN s + i ∨ clS A s) → roundsN A i s < 64 ∧ roundsN A i s < 2 ^ A 0 ∧ subS s (roundsN A i s) ∧ clS A (roundsN A i s) ∧ ∀ C, clS A C → subS s C → subS (roundsN A i s) C
  | 0, s, hs, hm, ha, h => by
    have hp := pc_m (A 0) (by have := ok.1.1; omega) s hs hm
    exact ⟨hs, hm, subS.rf s, h.resolve_left (by omega), fun _ _ q => q⟩
  | i + 1, s, hs, hm, ha, h => by
    obtain ⟨p1, p2, p3, p4, p5, -⟩ := round_p ok (A 0) 0 s (by omega) hs hm ha
    have next : A 0 < pcN (roundN A (A 0) 0 s) + i ∨ clS A (roundN A (A 0) 0 s) := by
      by_cases e : roundN A (A 0) 0 s = s
      · exact Or.inr (by rw [e]; exact round_cl ok hs hm ha e)
      · rcases h with h | h
        · have := pc_sub hs p1 p3 e
          exact Or.inl (by omega)
        · exact absurd (sub_eq p1 hs (p5 s h (subS.rf s)) p3) e
    obtain ⟨i1, i2, i3, i4, i5⟩ := rounds_p ok i _ p1 p2 p4 next
    exact ⟨i1, i2, p3.tr i3, i4, fun C hC q => i5 C hC (p5 C hC q)⟩
theorem c_bit1 {s k : Nat} (hs : s < 64) (hk : k < 6) (σ : Sg) : f_X11_withBit (nI s) (nI k) 1 σ = nI (bitN s k 1) := c_withBit (v := 1) hs hk (by decide) σ
theorem c_round_l {σ : Sg} {A : Nat → Nat} {sc : Int32} (hcs : rCs σ A) (hcd : rCd σ 41 A sc) (ok : okA A) {K14 : Int32 → Int32 → Option Int32} {x3 : Int32} : ∀ d o n s, o + d = A 0 → d < n → s < 64 → s < 2 ^ A 0 → f_X1_caseOf_l25 K14 x3 σ n (nI s) (nI o) = K14 (nI (roundN A d o s)) (x3 + 1)
  | d, o, 0, s, _, h, _, _ => absurd h (by omega)
  | d, o, n + 1, s, hd, hn, hs, hm => by
    have h6 := ok.1.1
    show f_X1_caseOf_b25 K14 (f_X1_caseOf_l25 K14 x3 σ n) x3 σ (nI s) (nI o) = _
    unfold f_X1_caseOf_b25
    rw [hcs.1]
    cases d with
    | zero => rw [if_pos (nI_le (by omega) (by omega))]; rfl
    | succ d =>
      have ho : o < 6 := by omega
      have hpow : (2 : Nat) ^ A 0 ≤ 2 ^ 6 := Nat.pow_le_pow_right (by decide) h6
      have hm1 := bit_m (A 0) (by omega) s hs hm o ho (by omega)
      rw [if_neg (nI_ge (by omega) (by omega)), c_aloft hcd ok ho, nI_1, c_tgl hcs hcd ok ho hs, bnd_some]
      show _ = K14 (nI (roundN A d (o + 1) (if A (35 + 6 * o + 4) = 1 ∧ tgS A o s (A 0) 0 = true then bitN s o 1 else s))) _
      by_cases q : A (35 + 6 * o + 4) = 1
      · rw [if_pos (decide_eq_true q)]
        by_cases q2 : tgS A o s (A 0) 0 = true
        · rw [if_pos q2, lt_ap, c_bit1 hs ho, if_pos ⟨q, q2⟩]
          exact c_round_l hcs hcd ok d (o + 1) n _ (by omega) (by omega) (by omega) hm1
        · rw [if_neg q2, if_neg (fun z => q2 z.2)]
          exact c_round_l hcs hcd ok d (o + 1) n s (by omega) (by omega) hs hm
      · rw [if_neg (fun z => q (of_decide_eq_true z)), if_neg (fun z => q z.1)]
        exact c_round_l hcs hcd ok d (o + 1) n s (by omega) (by omega) hs hm
theorem c_case_l {σ : Sg} {A : Nat → Nat} {sc : Int32} (hcs : rCs σ A) (hcd : rCd σ 41 A sc) (ok : okA A) : ∀ i r n s, r + i = A 0 → i < n → s < 64 → s < 2 ^ A 0 → alS A s → f_X1_caseOf_l14 σ n (nI s) (nI r) = some (nI (roundsN A i s))
  | i, r, 0, s, _, h, _, _, _ => absurd h (by omega)
  | i, r, n + 1, s, hd, hn, hs, hm, ha => by
    have h6 := ok.1.1
    show f_X1_caseOf_b14 (f_X1_caseOf_l14 σ n) σ (nI s) (nI r) = _
    unfold f_X1_caseOf_b14
    rw [hcs.1]
    cases i with
    | zero => rw [if_pos (nI_le (by omega) (by omega))]; rfl
    | succ i =>
      obtain ⟨p1, p2, p3, p4, -⟩ := round_p ok (A 0) 0 s (by omega) hs hm ha
      have e := c_round_l hcs hcd ok (K14 := f_X1_caseOf_l14 σ n) (x3 := nI r) (A 0) 0 400 s (by omega) (by omega) hs hm
      have e' : f_X1_caseOf_l25 (f_X1_caseOf_l14 σ n) (nI r) σ 400 (nI s) 0 = _ := e
      rw [if_neg (nI_ge (by omega) (by omega)), e', nI_1]
      exact c_case_l hcs hcd ok i (r + 1) n _ (by omega) (by omega) p1 p2 p4
theorem c_caseOf {σ : Sg} {A : Nat → Nat} {sc : Int32} (hcs : rCs σ A) (hcd : rCd σ 41 A sc) (ok : okA A) {k : Nat} (hk : k < A 0) : ∃ R, f_X1_caseOf (nI k) σ = some (nI R) ∧ R < 64 ∧ R < 2 ^ A 0 ∧ subS (A (35 + 6 * k + 4) * 2 ^ k) R ∧ clS A R ∧ ∀ C, clS A C → subS (A (35 + 6 * k + 4) * 2 ^ k) C → subS R C := by
  have h6 := ok.1.1
  have h4 := ok_al ok k (by omega)
  obtain ⟨o1, o2, o3, o4⟩ := one_b (A (35 + 6 * k + 4)) (by omega) k (by omega)
  have hm := o2 (A 0) (by omega) hk
  have ha : alS A (A (35 + 6 * k + 4) * 2 ^ k) := fun j hj q => by
    obtain ⟨e1, e2⟩ := (o4 j hj).mp q
    subst e2
    exact e1
  unfold f_X1_caseOf
  rw [lt_ap, hcd.2.2.1, c_one _ (set_lt (ok_al ok)) k (by omega), set_bit (ok_al ok) (by omega)]
  have e := c_case_l hcs hcd ok (A 0) 0 400 _ (by omega) (by omega) o1 hm ha
  refine ⟨_, e, rounds_p ok (A 0) _ o1 hm ha ?_⟩
  by_cases q : A (35 + 6 * k + 4) = 1
  · exact Or.inl (by rw [o3 q]; omega)
  · exact Or.inr (by rw [show A (35 + 6 * k + 4) = 0 by omega, Nat.zero_mul]; exact cl_0 A)
theorem eq_caseOf {σM σC : Sg} {A : Nat → Nat} {sc : Int32} (h : rM σM A) (hcs : rCs σC A) (hcd : rCd σC 41 A sc) (ok : okA A) {k : Nat} (hk : k < A 0) : ∃ R, R < 64 ∧ f_X12_caseOf (nI k) σM = some (nI R) ∧ f_X1_caseOf (nI k) σC = some (nI R) := by
  obtain ⟨R, a1, a2, a3, a4, a5, a6⟩ := m_caseOf h ok hk
  obtain ⟨T, b1, b2, b3, b4, b5, b6⟩ := c_caseOf hcs hcd ok hk
  have e : R = T := sub_eq a2 b2 (a6 T b5 b4) (b6 R a5 a4)
  subst e
  exact ⟨R, a2, a1, b1⟩
theorem and_off : ∀ l, l < 64 → ∀ r, r < 64 → nI l &&& (nI r ^^^ (-1)) = nI (l - (l &&& r)) := by decide +kernel
theorem or_on : ∀ l, l < 64 → ∀ r, r < 64 → nI l ||| nI r = nI (l ||| r) ∧ l ||| r < 64 := by decide +kernel
theorem off_b : ∀ l, l < 64 → ∀ r, r < 64 → ∀ j, j < 6 → ((l - (l &&& r)) / 2 ^ j % 2 = 1 ↔ (l / 2 ^ j % 2 = 1 ∧ ¬ r / 2 ^ j % 2 = 1)) := by decide +kernel
theorem on_b : ∀ l, l < 64 → ∀ r, r < 64 → ∀ j, j < 6 → ((l ||| r) / 2 ^ j % 2 = 1 ↔ (l / 2 ^ j % 2 = 1 ∨ r / 2 ^ j % 2 = 1)) := by decide +kernel
theorem eq_count_l {σM σC : Sg} {A : Nat → Nat} {sc : Int32} (h : rM σM A) (hcs : rCs σC A) (hcd : rCd σC 41 A sc) (ok : okA A) : ∀ d k n1 n2 (c : Int32) l t, k + d = A 0 → d < n1 → d < n2 → l < 64 → t < 64 → (∀ j, j < 6 → (l / 2 ^ j % 2 = 1 ↔ (A (35 + 6 * j + 4) = 1 ∧ ¬ t / 2 ^ j % 2 = 1))) → ∃ r, f_X12_cases_l32 σM n1 c (nI l) (nI k) = some r ∧ f_X1_countCases_l6 σC n2 c (nI t) (nI k) = some r
  | d, k, 0, n2, c, l, t, _, h, _, _, _, _ => absurd h (by omega)
  | d, k, n1 + 1, 0, c, l, t, _, _, h, _, _, _ => absurd h (by omega)
  | d, k, n1 + 1, n2 + 1, c, l, t, hd, hn1, hn2, hl, ht, hb => by
    have h6 := ok.1.1
    show ∃ r, f_X12_cases_b32 (f_X12_cases_l32 σM n1) σM c (nI l) (nI k) = some r ∧ f_X1_countCases_b6 (f_X1_countCases_l6 σC n2) σC c (nI t) (nI k) = some r
    unfold f_X12_cases_b32 f_X1_countCases_b6
    rw [h 0 (by decide) (by decide) (by decide) (by decide), hcs.1]
    cases d with
    | zero => rw [if_pos (nI_le (by omega) (by omega)), if_pos (nI_le (by omega) (by omega))]; exact ⟨c, rfl, rfl⟩
    | succ d =>
      have hk : k < 6 := by omega
      have hbk := hb k hk
      rw [if_neg (nI_ge (by omega) (by omega)), if_neg (nI_ge (by omega) (by omega)), lt_ap, m_bitv l hl k hk, c_aloft hcd ok hk, c_isIn ht hk, nI_1]
      by_cases q : l / 2 ^ k % 2 = 1
      · obtain ⟨q1, q2⟩ := hbk.mp q
        obtain ⟨R, r0, r1, r2⟩ := eq_caseOf h hcs hcd ok (k := k) (by omega)
        rw [q, if_neg (show ¬ ¬ nI 1 = (1 : Int32) by decide), r1, bnd_some, lt_ap, and_off l hl R r0, if_pos (decide_eq_true q1), if_neg (fun z => q2 (of_decide_eq_true z)), r2, bnd_some, lt_ap, (or_on t ht R r0).1]
        exact eq_count_l h hcs hcd ok d (k + 1) n1 n2 (c + 1) (l - (l &&& R)) (t ||| R) (by omega) (by omega) (by omega) (by omega) (or_on t ht R r0).2 (fun j hj => by
          rw [off_b l hl R r0 j hj, on_b t ht R r0 j hj, hb j hj]
          constructor
          · rintro ⟨⟨a, b⟩, c⟩
            exact ⟨a, fun z => z.elim b c⟩
          · rintro ⟨a, b⟩
            exact ⟨⟨a, fun z => b (Or.inl z)⟩, fun z => b (Or.inr z)⟩)
      · have e0 : l / 2 ^ k % 2 = 0 := by omega
        rw [e0, if_pos (show ¬ nI 0 = (1 : Int32) by decide), lt_ap, m_andm l hl, show c + nI 0 = c from Int32.add_zero c]
        obtain ⟨r, e1, e2⟩ := eq_count_l h hcs hcd ok d (k + 1) n1 n2 c l t (by omega) (by omega) (by omega) hl ht hb
        refine ⟨r, e1, ?_⟩
        by_cases q1 : A (35 + 6 * k + 4) = 1
        · rw [if_pos (decide_eq_true q1)]
          by_cases q2 : t / 2 ^ k % 2 = 1
          · rw [if_pos (decide_eq_true q2)]
            exact e2
          · exact absurd (hbk.mpr ⟨q1, q2⟩) q
        · rw [if_neg (fun z => q1 (of_decide_eq_true z))]
          exact e2
theorem eq_cases {σM σC : Sg} (h : Rel σM σC) (x : Int32) : ∃ r, f_X12_cases x σM = some r ∧ f_X11_cases x σC = some r := by
  obtain ⟨⟨A, W, g⟩, hk', hr⟩ := id h
  have hm := g.ok.1.1
  unfold f_X12_cases f_X11_cases
  rw [m_isKite g.m, c_isKite g.c]
  by_cases q : rng x (nI 0) (nI (A 0) - nI 1) = true
  · obtain ⟨k, hk, rfl⟩ := (kite_iff (by omega)).mp q
    have hne : ¬ nI k = -1 := fun z => by
      have := congrArg Int32.toInt z
      rw [nI_toInt (by omega)] at this
      exact absurd this (by have : (-1 : Int32).toInt = -1 := rfl; omega)
    obtain ⟨R, -, r1, r2⟩ := eq_caseOf g.m g.c g.d g.ok hk
    rw [if_pos q, if_pos q, if_pos hne, r1, r2, bnd_some]
    exact ⟨_, rfl, rfl⟩
  · rw [if_neg q, if_neg q]
    by_cases q1 : x = -1
    · rw [if_pos q1, if_neg (fun z => z q1), show f_X12_those 4 σM = some (nI (setN A 4)) from m_those g.m g.ok (Or.inl rfl), bnd_some]
      obtain ⟨r, e1, e2⟩ := eq_count_l g.m g.c g.d g.ok (A 0) 0 400 400 0 (setN A 4) 0 (by omega) (by omega) (by omega) (set_lt (ok_al g.ok)) (by omega) (fun j hj => by
        rw [set_bit (ok_al g.ok) hj, Nat.zero_div]
        exact ⟨fun z => ⟨z, by decide⟩, fun z => z.1⟩)
      have e1' : f_X12_cases_l32 σM 400 0 (nI (setN A 4)) 0 = some r := e1
      have e2' : f_X1_countCases σC = some r := e2
      rw [e1', e2', bnd_some]
      exact ⟨_, rfl, rfl⟩
    · rw [if_neg q1, if_pos q1]
      exact ⟨_, rfl, rfl⟩
