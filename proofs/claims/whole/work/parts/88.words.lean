/-! words and numbers -/
def valF (w : Nat → Nat) : Nat → Nat
  | 0 => 0
  | n + 1 => 32 * valF w n + (w n - 96)
/-- the reference's value of so many letters from s on -/
def vN (B : Nat → Nat) (s : Nat) : Nat → Nat
  | 0 => 0
  | L + 1 => if 36028797018963967 < vN B s L then vN B s L else 32 * vN B s L + (B (s + L) - 96)
theorem vN_o {B : Nat → Nat} {s L : Nat} (h : 36028797018963967 < vN B s L) : vN B s (L + 1) = vN B s L := if_pos h
theorem vN_s {B : Nat → Nat} {s L : Nat} (h : ¬ 36028797018963967 < vN B s L) : vN B s (L + 1) = 32 * vN B s L + (B (s + L) - 96) := if_neg h
theorem vN_lt {B : Nat → Nat} {s : Nat} : ∀ L, (∀ k, k < L → B (s + k) < 256) → vN B s L < 2 ^ 62
  | 0, _ => (by decide : 0 < 2 ^ 62)
  | L + 1, h => by
    have ih := vN_lt L (fun k hk => h k (by omega))
    have := h L (by omega)
    by_cases q : 36028797018963967 < vN B s L
    · rw [vN_o q]; exact ih
    · rw [vN_s q]; omega
theorem valF_lt {w : Nat → Nat} : ∀ n, n ≤ 10 → (∀ k, k < n → 97 ≤ w k ∧ w k ≤ 122) → valF w n < 32 ^ n
  | 0, _, _ => (by decide : 0 < 32 ^ 0)
  | n + 1, hn, h => by
    have ih := valF_lt n (by omega) (fun k hk => h k (by omega))
    have := h n (by omega)
    show 32 * valF w n + (w n - 96) < 32 ^ n * 32
    omega
theorem valF_b {w : Nat → Nat} {n : Nat} (hn : n ≤ 10) (h : ∀ k, k < n → 97 ≤ w k ∧ w k ≤ 122) : valF w n ≤ 36028797018963967 - 1 := by
  have h1 := valF_lt n hn h
  have h2 : (32 : Nat) ^ n ≤ 32 ^ 10 := Nat.pow_le_pow_right (by decide) hn
  have h3 : (32 : Nat) ^ 10 = 1125899906842624 := by decide
  omega
theorem val_eq {B w : Nat → Nat} {s : Nat} : ∀ n L, n ≤ 10 → (∀ k, k < n → 97 ≤ w k ∧ w k ≤ 122) → (∀ k, k < L → 97 ≤ B (s + k) ∧ B (s + k) ≤ 122) → (vN B s L = valF w n ↔ L = n ∧ ∀ k, k < n → B (s + k) = w k)
  | 0, 0, _, _, _ => ⟨fun _ => ⟨rfl, fun k hk => absurd hk (by omega)⟩, fun _ => rfl⟩
  | 0, L + 1, _, _, hB => by
    have hb := hB L (by omega)
    refine ⟨fun e => ?_, fun e => absurd e.1 (by omega)⟩
    by_cases q : 36028797018963967 < vN B s L
    · rw [vN_o q] at e
      exact absurd e (by show ¬ vN B s L = 0; omega)
    · rw [vN_s q] at e
      exact absurd e (by show ¬ 32 * vN B s L + (B (s + L) - 96) = 0; omega)
  | n + 1, 0, _, hw, _ => by
    have := hw n (by omega)
    refine ⟨fun e => ?_, fun e => absurd e.1 (by omega)⟩
    exact absurd e (by show ¬ 0 = 32 * valF w n + (w n - 96); omega)
  | n + 1, L + 1, hn, hw, hB => by
    have h1 := hw n (by omega)
    have h2 := hB L (by omega)
    have hb := valF_b (w := w) (n := n + 1) hn hw
    have ih := val_eq n L (by omega) (fun k hk => hw k (by omega)) (fun k hk => hB k (by omega))
    have hb2 := valF_b (w := w) (n := n) (by omega) (fun k hk => hw k (by omega))
    by_cases q : 36028797018963967 < vN B s L
    · rw [vN_o q]
      refine ⟨fun e => absurd e (by omega), fun e => ?_⟩
      have := ih.mpr ⟨by omega, fun k hk => e.2 k (by omega)⟩
      omega
    · rw [vN_s q]
      show 32 * vN B s L + (B (s + L) - 96) = 32 * valF w n + (w n - 96) ↔ _
      constructor
      · intro e
        have e1 : vN B s L = valF w n := by omega
        have e2 : B (s + L) = w n := by omega
        obtain ⟨i1, i2⟩ := ih.mp e1
        refine ⟨by omega, fun k hk => ?_⟩
        by_cases q2 : k = n
        · rw [q2, ← i1, e2, i1]
        · exact i2 k (by omega)
      · rintro ⟨e1, e2⟩
        have := ih.mpr ⟨by omega, fun k hk => e2 k (by omega)⟩
        have e3 := e2 n (by omega)
        rw [show s + L = s + n by omega, e3, this]
theorem lg_0 {a b : Int64} : lg_cmp a b = 0 ↔ a = b := by
  unfold lg_cmp
  by_cases h : a > b
  · rw [if_pos h]
    exact ⟨fun z => absurd z (by decide), fun z => by rw [z] at h; exact absurd h (Int64.lt_irrefl)⟩
  · rw [if_neg h]
    by_cases h2 : a = b
    · rw [if_pos h2]; exact ⟨fun _ => h2, fun _ => rfl⟩
    · rw [if_neg h2]; exact ⟨fun z => absurd z (by decide), fun z => absurd z h2⟩
theorem lg_le {a b : Nat} (ha : a < 2 ^ 63) (hb : b < 2 ^ 63) : lg_cmp (lN a) (lN b) ≤ 0 ↔ a ≤ b := by
  unfold lg_cmp
  by_cases h : lN a > lN b
  · rw [if_pos h]
    have := (pk_lLT hb ha).mp h
    exact ⟨fun z => absurd z (by decide), fun z => by omega⟩
  · rw [if_neg h]
    have h3 : a ≤ b := Nat.le_of_not_lt (fun q => h ((pk_lLT hb ha).mpr q))
    refine ⟨fun _ => h3, fun _ => ?_⟩
    by_cases h2 : lN a = lN b
    · rw [if_pos h2]; decide
    · rw [if_neg h2]; decide
/-! the class's words -/
def allM (B : Nat → Nat) (e : Nat) : List Nat → Nat → Bool
  | [], _ => true
  | c :: t, i => decide (i < e ∧ B i = c) && allM B e t (i + 1)
theorem allM_iff {B : Nat → Nat} {e : Nat} : ∀ ws i, allM B e ws i = true ↔ ∀ k, k < ws.length → i + k < e ∧ B (i + k) = ws.getD k 0
  | [], i => ⟨fun _ k hk => absurd hk (Nat.not_lt_zero k), fun _ => rfl⟩
  | c :: t, i => by
    show (decide (i < e ∧ B i = c) && allM B e t (i + 1)) = true ↔ _
    rw [Bool.and_eq_true, decide_eq_true_eq, allM_iff t (i + 1)]
    constructor
    · rintro ⟨h1, h2⟩ k hk
      cases k with
      | zero => exact h1
      | succ k =>
        have := h2 k (Nat.lt_of_succ_lt_succ hk)
        rw [show i + 1 + k = i + (k + 1) by omega] at this
        exact this
    · intro h
      refine ⟨h 0 (Nat.zero_lt_succ _), fun k hk => ?_⟩
      have := h (k + 1) (Nat.succ_lt_succ hk)
      rw [show i + (k + 1) = i + 1 + k by omega] at this
      exact this
theorem sx_eq : ∀ b, b < 256 → ∀ c, c < 123 → 97 ≤ c → (sx8 (nI b) = nI c ↔ b = c) := by decide +kernel
theorem c_word_l {B : Nat → Nat} {n : Nat} {σ : Sg} (h : tpC B n σ) {s e : Nat} (he : e ≤ n) {idx : Int32} : ∀ (ws : List Nat) (i w m : Nat) (sm : Bool), i + ws.length < 300 → w + ws.length < 86 → (∀ k, k < ws.length → chW (nI (w + k)) = some (nI (ws.getD k 0)) ∧ 97 ≤ ws.getD k 0 ∧ ws.getD k 0 < 123) →
    f_X8_wordOf_l11 (nI s) (nI e) σ (m + ws.length) idx (nI i) (b2i sm) (nI w) = f_X8_wordOf_l11 (nI s) (nI e) σ m idx (nI (i + ws.length)) (b2i (sm && allM B e ws i)) (nI (w + ws.length))
  | [], i, w, m, sm, _, _, _ => by
    show f_X8_wordOf_l11 (nI s) (nI e) σ m idx (nI i) (b2i sm) (nI w) = f_X8_wordOf_l11 (nI s) (nI e) σ m idx (nI i) (b2i (sm && true)) (nI w)
    rw [Bool.and_true]
  | c :: t, i, w, m, sm, hi, hw, hc => by
    have hn := h.1
    have hl : (c :: t).length = t.length + 1 := rfl
    obtain ⟨c1, c2, c3⟩ := hc 0 (Nat.zero_lt_succ _)
    have c1' : chW (nI w) = some (nI c) := c1
    have c2' : 97 ≤ c := c2
    have c3' : c < 123 := c3
    have ih := fun (sm' : Bool) => c_word_l h he (s := s) (idx := idx) t (i + 1) (w + 1) m sm' (by omega) (by omega) (fun k hk => by
      have := hc (k + 1) (by omega)
      rw [show w + (k + 1) = w + 1 + k by omega] at this
      exact this)
    show f_X8_wordOf_b11 (f_X8_wordOf_l11 (nI s) (nI e) σ (m + t.length)) (nI s) (nI e) σ idx (nI i) (b2i sm) (nI w) = _
    unfold f_X8_wordOf_b11 f_X8_wordOf_b64
    rw [if_neg (show ¬ (86 : Int32) ≤ nI w from nI_ge (b := 86) (by omega) (by decide)), c1', bnd_some, if_neg (show ¬ nI c = 32 from fun z => by have := (nI_eq (b := 32) (by omega) (by decide)).mp z; omega), nI_1, nI_1]
    have fin : ∀ sm' : Bool, sm' = (sm && decide (i < e ∧ B i = c)) → f_X8_wordOf_l11 (nI s) (nI e) σ (m + t.length) idx (nI (i + 1)) (b2i sm') (nI (w + 1)) = f_X8_wordOf_l11 (nI s) (nI e) σ m idx (nI (i + (c :: t).length)) (b2i (sm && allM B e (c :: t) i)) (nI (w + (c :: t).length)) := fun sm' es => by
      rw [ih sm', es, hl, show i + 1 + t.length = i + (t.length + 1) by omega, show w + 1 + t.length = w + (t.length + 1) by omega]
      show _ = f_X8_wordOf_l11 (nI s) (nI e) σ m idx (nI (i + (t.length + 1))) (b2i (sm && (decide (i < e ∧ B i = c) && allM B e t (i + 1)))) (nI (w + (t.length + 1)))
      rw [Bool.and_assoc]
    cases sm with
    | false =>
      rw [if_pos (show b2i false = 0 from rfl)]
      exact fin false rfl
    | true =>
      rw [if_neg (show ¬ b2i true = 0 by decide)]
      by_cases q : i < e
      · obtain ⟨b1, b2⟩ := h.2.1 i (by omega)
        rw [if_neg (nI_ge q (by omega)), rd_nI (by omega) (by decide), bnd_some, b2]
        have hx := sx_eq (B i) b1 c c3' c2'
        by_cases q2 : B i = c
        · rw [if_neg (fun z => z (hx.mpr q2))]
          exact fin true (by rw [decide_eq_true ⟨q, q2⟩]; rfl)
        · rw [if_pos (fun z => q2 (hx.mp z))]
          exact fin false (by rw [decide_eq_false (fun z => q2 z.2)]; rfl)
      · rw [if_pos (nI_le (by omega) (by omega))]
        exact fin false (by rw [decide_eq_false (fun z => q z.1)]; rfl)

theorem c_word_s {B : Nat → Nat} {n : Nat} {σ : Sg} (h : tpC B n σ) {s e : Nat} (he : e ≤ n) (hs : s ≤ e) (hL : ∀ k, k < e - s → 97 ≤ B (s + k) ∧ B (s + k) ≤ 122) {idx w m m2 : Nat} {ws : List Nat} (hm : m2 = m + 1 + ws.length) (hl : ws.length ≤ 10) (hw : w + ws.length < 86) (hc : ∀ k, k < ws.length → chW (nI (w + k)) = some (nI (ws.getD k 0)) ∧ 97 ≤ ws.getD k 0 ∧ ws.getD k 0 < 123) (h32 : chW (nI (w + ws.length)) = some 32) {v w2 : Nat} (hv : valF (fun k => ws.getD k 0) ws.length = v) (hw2 : w2 = w + ws.length + 1) :
    f_X8_wordOf_l11 (nI s) (nI e) σ m2 (nI idx) (nI s) 1 (nI w) = if vN B s (e - s) = v then some (nI idx) else f_X8_wordOf_l11 (nI s) (nI e) σ m (nI (idx + 1)) (nI s) 1 (nI w2) := by
  have hn := h.1
  subst hm; subst hw2; subst hv
  have e1 := c_word_l h he (s := s) (idx := nI idx) ws s w (m + 1) true (by omega) hw hc
  have e1' : f_X8_wordOf_l11 (nI s) (nI e) σ (m + 1 + ws.length) (nI idx) (nI s) 1 (nI w) = _ := e1
  rw [e1', Bool.true_and]
  show f_X8_wordOf_b11 (f_X8_wordOf_l11 (nI s) (nI e) σ m) (nI s) (nI e) σ (nI idx) (nI (s + ws.length)) (b2i (allM B e ws s)) (nI (w + ws.length)) = _
  unfold f_X8_wordOf_b11 f_X8_wordOf_b86
  rw [if_neg (show ¬ (86 : Int32) ≤ nI (w + ws.length) from nI_ge (b := 86) (by omega) (by decide)), h32, bnd_some, if_pos rfl, nI_1, nI_1]
  have key := val_eq (B := B) (w := fun k => ws.getD k 0) (s := s) ws.length (e - s) hl (fun k hk => ⟨(hc k hk).2.1, by have := (hc k hk).2.2; omega⟩) hL
  by_cases q : allM B e ws s = true
  · rw [q, if_neg (show ¬ b2i true = 0 by decide)]
    have qa := (allM_iff ws s).mp q
    by_cases q2 : s + ws.length = e
    · rw [if_neg (fun z => z (by rw [q2])), if_pos (key.mpr ⟨by omega, fun k hk => (qa k hk).2⟩)]
    · rw [if_pos (fun z => q2 ((nI_eq (by omega) (by omega)).mp z)), if_neg (fun z => q2 (by have := (key.mp z).1; omega))]
  · have qf : allM B e ws s = false := by
      cases q3 : allM B e ws s with
      | false => rfl
      | true => exact absurd q3 q
    rw [qf, if_pos (show b2i false = 0 from rfl), if_neg (fun z => q ((allM_iff ws s).mpr (fun k hk => by
      obtain ⟨k1, k2⟩ := key.mp z
      exact ⟨by omega, k2 k hk⟩)))]
def wordT (v : Nat) : Nat := if v = 370309 then 0 else if v = 18596 then 1 else if v = 8554201 then 2 else if v = 11178213 then 3 else if v = 2552 then 4 else if v = 15748 then 5 else if v = 20105925 then 6 else if v = 277892 then 7 else if v = 3764 then 8 else if v = 251508 then 9 else if v = 659105223 then 10 else if v = 6194 then 11 else if v = 460197 then 12 else if v = 492210354 then 13 else if v = 294 then 14 else if v = 498 then 15 else if v = 1476 then 16 else if v = 14836 then 17 else 26
theorem c_wordOf {B : Nat → Nat} {n : Nat} {σ : Sg} (h : tpC B n σ) {s e : Nat} (he : e ≤ n) (hs : s ≤ e) (hL : ∀ k, k < e - s → 97 ≤ B (s + k) ∧ B (s + k) ≤ 122) : f_X8_wordOf (nI s) (nI e) σ = some (nI (wordT (vN B s (e - s)))) := by
  unfold f_X8_wordOf wordT
  generalize hV : vN B s (e - s) = V
  show f_X8_wordOf_l11 (nI s) (nI e) σ 400 (nI 0) (nI s) 1 (nI 0) = _
  rw [c_word_s h he hs hL (idx := 0) (w := 0) (m := 395) (m2 := 400) (ws := [107, 105, 116, 101]) rfl (by decide) (by decide) (by decide +kernel) (by decide +kernel) (v := 370309) (w2 := 5) (by decide) rfl, hV]
  by_cases q0 : V = 370309
  · rw [if_pos q0, if_pos q0]
  rw [if_neg q0, if_neg q0]
  rw [c_word_s h he hs hL (idx := 1) (w := 5) (m := 391) (m2 := 395) (ws := [114, 101, 100]) rfl (by decide) (by decide) (by decide +kernel) (by decide +kernel) (v := 18596) (w2 := 9) (by decide) rfl, hV]
  by_cases q1 : V = 18596
  · rw [if_pos q1, if_pos q1]
  rw [if_neg q1, if_neg q1]
  rw [c_word_s h he hs hL (idx := 2) (w := 9) (m := 385) (m2 := 391) (ws := [104, 101, 97, 118, 121]) rfl (by decide) (by decide) (by decide +kernel) (by decide +kernel) (v := 8554201) (w2 := 15) (by decide) rfl, hV]
  by_cases q2 : V = 8554201
  · rw [if_pos q2, if_pos q2]
  rw [if_neg q2, if_neg q2]
  rw [c_word_s h he hs hL (idx := 3) (w := 15) (m := 379) (m2 := 385) (ws := [106, 117, 100, 103, 101]) rfl (by decide) (by decide) (by decide +kernel) (by decide +kernel) (v := 11178213) (w2 := 21) (by decide) rfl, hV]
  by_cases q3 : V = 11178213
  · rw [if_pos q3, if_pos q3]
  rw [if_neg q3, if_neg q3]
  rw [c_word_s h he hs hL (idx := 4) (w := 21) (m := 375) (m2 := 379) (ws := [98, 111, 120]) rfl (by decide) (by decide) (by decide +kernel) (by decide +kernel) (v := 2552) (w2 := 25) (by decide) rfl, hV]
  by_cases q4 : V = 2552
  · rw [if_pos q4, if_pos q4]
  rw [if_neg q4, if_neg q4]
  rw [c_word_s h he hs hL (idx := 5) (w := 25) (m := 371) (m2 := 375) (ws := [111, 108, 100]) rfl (by decide) (by decide) (by decide +kernel) (by decide +kernel) (v := 15748) (w2 := 29) (by decide) rfl, hV]
  by_cases q5 : V = 15748
  · rw [if_pos q5, if_pos q5]
  rw [if_neg q5, if_neg q5]
  rw [c_word_s h he hs hL (idx := 6) (w := 29) (m := 365) (m2 := 371) (ws := [115, 101, 114, 118, 101]) rfl (by decide) (by decide) (by decide +kernel) (by decide +kernel) (v := 20105925) (w2 := 35) (by decide) rfl, hV]
  by_cases q6 : V = 20105925
  · rw [if_pos q6, if_pos q6]
  rw [if_neg q6, if_neg q6]
  rw [c_word_s h he hs hL (idx := 7) (w := 35) (m := 360) (m2 := 365) (ws := [104, 111, 108, 100]) rfl (by decide) (by decide) (by decide +kernel) (by decide +kernel) (v := 277892) (w2 := 40) (by decide) rfl, hV]
  by_cases q7 : V = 277892
  · rw [if_pos q7, if_pos q7]
  rw [if_neg q7, if_neg q7]
  rw [c_word_s h he hs hL (idx := 8) (w := 40) (m := 356) (m2 := 360) (ws := [99, 117, 116]) rfl (by decide) (by decide) (by decide +kernel) (by decide +kernel) (v := 3764) (w2 := 44) (by decide) rfl, hV]
  by_cases q8 : V = 3764
  · rw [if_pos q8, if_pos q8]
  rw [if_neg q8, if_neg q8]
  rw [c_word_s h he hs hL (idx := 9) (w := 44) (m := 351) (m2 := 356) (ws := [103, 117, 115, 116]) rfl (by decide) (by decide) (by decide +kernel) (by decide +kernel) (v := 251508) (w2 := 49) (by decide) rfl, hV]
  by_cases q9 : V = 251508
  · rw [if_pos q9, if_pos q9]
  rw [if_neg q9, if_neg q9]
  rw [c_word_s h he hs hL (idx := 10) (w := 49) (m := 344) (m2 := 351) (ws := [115, 116, 114, 105, 110, 103]) rfl (by decide) (by decide) (by decide +kernel) (by decide +kernel) (v := 659105223) (w2 := 56) (by decide) rfl, hV]
  by_cases q10 : V = 659105223
  · rw [if_pos q10, if_pos q10]
  rw [if_neg q10, if_neg q10]
  rw [c_word_s h he hs hL (idx := 11) (w := 56) (m := 340) (m2 := 344) (ws := [102, 97, 114]) rfl (by decide) (by decide) (by decide +kernel) (by decide +kernel) (v := 6194) (w2 := 60) (by decide) rfl, hV]
  by_cases q11 : V = 6194
  · rw [if_pos q11, if_pos q11]
  rw [if_neg q11, if_neg q11]
  rw [c_word_s h he hs hL (idx := 12) (w := 60) (m := 335) (m2 := 340) (ws := [110, 97, 109, 101]) rfl (by decide) (by decide) (by decide +kernel) (by decide +kernel) (v := 460197) (w2 := 65) (by decide) rfl, hV]
  by_cases q12 : V = 460197
  · rw [if_pos q12, if_pos q12]
  rw [if_neg q12, if_neg q12]
  rw [c_word_s h he hs hL (idx := 13) (w := 65) (m := 328) (m2 := 335) (ws := [110, 117, 109, 98, 101, 114]) rfl (by decide) (by decide) (by decide +kernel) (by decide +kernel) (v := 492210354) (w2 := 72) (by decide) rfl, hV]
  by_cases q13 : V = 492210354
  · rw [if_pos q13, if_pos q13]
  rw [if_neg q13, if_neg q13]
  rw [c_word_s h he hs hL (idx := 14) (w := 72) (m := 325) (m2 := 328) (ws := [105, 102]) rfl (by decide) (by decide) (by decide +kernel) (by decide +kernel) (v := 294) (w2 := 75) (by decide) rfl, hV]
  by_cases q14 : V = 294
  · rw [if_pos q14, if_pos q14]
  rw [if_neg q14, if_neg q14]
  rw [c_word_s h he hs hL (idx := 15) (w := 75) (m := 322) (m2 := 325) (ws := [111, 114]) rfl (by decide) (by decide) (by decide +kernel) (by decide +kernel) (v := 498) (w2 := 78) (by decide) rfl, hV]
  by_cases q15 : V = 498
  · rw [if_pos q15, if_pos q15]
  rw [if_neg q15, if_neg q15]
  rw [c_word_s h he hs hL (idx := 16) (w := 78) (m := 318) (m2 := 322) (ws := [97, 110, 100]) rfl (by decide) (by decide) (by decide +kernel) (by decide +kernel) (v := 1476) (w2 := 82) (by decide) rfl, hV]
  by_cases q16 : V = 1476
  · rw [if_pos q16, if_pos q16]
  rw [if_neg q16, if_neg q16]
  rw [c_word_s h he hs hL (idx := 17) (w := 82) (m := 314) (m2 := 318) (ws := [110, 111, 116]) rfl (by decide) (by decide) (by decide +kernel) (by decide +kernel) (v := 14836) (w2 := 86) (by decide) rfl, hV]
  by_cases q17 : V = 14836
  · rw [if_pos q17, if_pos q17]
  rw [if_neg q17, if_neg q17]
  show f_X8_wordOf_b11 (f_X8_wordOf_l11 (nI s) (nI e) σ 313) (nI s) (nI e) σ (nI 18) (nI s) 1 (nI 86) = _
  unfold f_X8_wordOf_b11
  rw [if_pos (show (86 : Int32) ≤ nI 86 by decide)]
  rfl
