/-! tokens: their values on both sides -/
theorem isL_b {b : Nat} (h : isL b = true) : 97 ≤ b ∧ b ≤ 122 := of_decide_eq_true h
theorem isD_b {b : Nat} (h : isD b = true) : 48 ≤ b ∧ b ≤ 57 := of_decide_eq_true h
theorem row_L {B : Nat → Nat} {n s : Nat} (hs : s < n) (h : isL (B s) = true) : ∀ k, s + k < endR B n s → isL (B (s + k)) = true
  | 0, _ => h
  | k + 1, hk => by
    have ih := row_L hs h k (by omega)
    have o := (endR_p (B := B) hs).2.2.1 (s + (k + 1)) (by omega) hk
    rw [show s + (k + 1) - 1 = s + k by omega] at o
    rcases oneR_iff.mp o with ⟨a, b⟩ | ⟨a, b⟩
    · exact b
    · rw [LD_no ih] at a; exact absurd a (by decide)
theorem row_D {B : Nat → Nat} {n s : Nat} (hs : s < n) (h : isD (B s) = true) : ∀ k, s + k < endR B n s → isD (B (s + k)) = true
  | 0, _ => h
  | k + 1, hk => by
    have ih := row_D hs h k (by omega)
    have o := (endR_p (B := B) hs).2.2.1 (s + (k + 1)) (by omega) hk
    rw [show s + (k + 1) - 1 = s + k by omega] at o
    rcases oneR_iff.mp o with ⟨a, b⟩ | ⟨a, b⟩
    · rw [LD_no a] at ih; exact absurd ih (by decide)
    · exact b
def numV (B : Nat → Nat) (s : Nat) : Nat → Nat
  | 0 => 0
  | L + 1 => 10 * numV B s L + (B (s + L) - 48)
theorem num_lt {B : Nat → Nat} {s : Nat} : ∀ L, (∀ k, k < L → B (s + k) ≤ 57) → numV B s L < 10 ^ L
  | 0, _ => (by decide : 0 < 10 ^ 0)
  | L + 1, h => by
    have ih := num_lt L (fun k hk => h k (by omega))
    have := h L (by omega)
    show 10 * numV B s L + (B (s + L) - 48) < 10 ^ L * 10
    omega
theorem num_b {B : Nat → Nat} {s L : Nat} (hL : L ≤ 4) (h : ∀ k, k < L → B (s + k) ≤ 57) : numV B s L < 10000 := by
  have h1 := num_lt L h
  have h2 : (10 : Nat) ^ L ≤ 10 ^ 4 := Nat.pow_le_pow_right (by decide) hL
  have h3 : (10 : Nat) ^ 4 = 10000 := by decide
  omega
def chT (b : Nat) : Nat := if b = 40 then 21 else if b = 41 then 22 else if b = 59 then 20 else if b = 60 then 23 else if b = 61 then 24 else if b = 62 then 25 else 26
def tkV (B : Nat → Nat) (n s : Nat) : Nat := if s < n then (if isL (B s) = true then wordT (vN B s (endR B n s - s)) else if isD (B s) = true then (if endR B n s - s ≤ 4 then 100 + numV B s (endR B n s - s) else 26) else chT (B s)) else 27
theorem tk_L {B : Nat → Nat} {n s : Nat} (hs : s < n) (h : isL (B s) = true) : tkV B n s = wordT (vN B s (endR B n s - s)) := by unfold tkV; rw [if_pos hs, if_pos h]
theorem tk_D {B : Nat → Nat} {n s : Nat} (hs : s < n) (h : isD (B s) = true) : tkV B n s = if endR B n s - s ≤ 4 then 100 + numV B s (endR B n s - s) else 26 := by
  unfold tkV
  rw [if_pos hs, if_neg (fun z => by rw [LD_no z] at h; exact absurd h (by decide)), if_pos h]
theorem tk_X {B : Nat → Nat} {n s : Nat} (hs : s < n) (h : ¬ isL (B s) = true) (h2 : ¬ isD (B s) = true) : tkV B n s = chT (B s) := by unfold tkV; rw [if_pos hs, if_neg h, if_neg h2]
theorem tk_n {B : Nat → Nat} {n s : Nat} (hs : ¬ s < n) : tkV B n s = 27 := by unfold tkV; rw [if_neg hs]
theorem chT_b (b : Nat) : 20 ≤ chT b ∧ chT b ≤ 26 := by
  unfold chT
  repeat' split
  all_goals omega
theorem wT_all (v : Nat) : (v = 370309 ∧ wordT v = 0) ∨ (v = 18596 ∧ wordT v = 1) ∨ (v = 8554201 ∧ wordT v = 2) ∨ (v = 11178213 ∧ wordT v = 3) ∨ (v = 2552 ∧ wordT v = 4) ∨ (v = 15748 ∧ wordT v = 5) ∨ (v = 20105925 ∧ wordT v = 6) ∨ (v = 277892 ∧ wordT v = 7) ∨ (v = 3764 ∧ wordT v = 8) ∨ (v = 251508 ∧ wordT v = 9) ∨ (v = 659105223 ∧ wordT v = 10) ∨ (v = 6194 ∧ wordT v = 11) ∨ (v = 460197 ∧ wordT v = 12) ∨ (v = 492210354 ∧ wordT v = 13) ∨ (v = 294 ∧ wordT v = 14) ∨ (v = 498 ∧ wordT v = 15) ∨ (v = 1476 ∧ wordT v = 16) ∨ (v = 14836 ∧ wordT v = 17) ∨ wordT v = 26 := by
  by_cases q0 : v = 370309
  · exact Or.inl ⟨q0, by rw [q0]; decide⟩
  by_cases q1 : v = 18596
  · exact Or.inr (Or.inl ⟨q1, by rw [q1]; decide⟩)
  by_cases q2 : v = 8554201
  · exact Or.inr (Or.inr (Or.inl ⟨q2, by rw [q2]; decide⟩))
  by_cases q3 : v = 11178213
  · exact Or.inr (Or.inr (Or.inr (Or.inl ⟨q3, by rw [q3]; decide⟩)))
  by_cases q4 : v = 2552
  · exact Or.inr (Or.inr (Or.inr (Or.inr (Or.inl ⟨q4, by rw [q4]; decide⟩))))
  by_cases q5 : v = 15748
  · exact Or.inr (Or.inr (Or.inr (Or.inr (Or.inr (Or.inl ⟨q5, by rw [q5]; decide⟩)))))
  by_cases q6 : v = 20105925
  · exact Or.inr (Or.inr (Or.inr (Or.inr (Or.inr (Or.inr (Or.inl ⟨q6, by rw [q6]; decide⟩))))))
  by_cases q7 : v = 277892
  · exact Or.inr (Or.inr (Or.inr (Or.inr (Or.inr (Or.inr (Or.inr (Or.inl ⟨q7, by rw [q7]; decide⟩)))))))
  by_cases q8 : v = 3764
  · exact Or.inr (Or.inr (Or.inr (Or.inr (Or.inr (Or.inr (Or.inr (Or.inr (Or.inl ⟨q8, by rw [q8]; decide⟩))))))))
  by_cases q9 : v = 251508
  · exact Or.inr (Or.inr (Or.inr (Or.inr (Or.inr (Or.inr (Or.inr (Or.inr (Or.inr (Or.inl ⟨q9, by rw [q9]; decide⟩)))))))))
  by_cases q10 : v = 659105223
  · exact Or.inr (Or.inr (Or.inr (Or.inr (Or.inr (Or.inr (Or.inr (Or.inr (Or.inr (Or.inr (Or.inl ⟨q10, by rw [q10]; decide⟩))))))))))
  by_cases q11 : v = 6194
  · exact Or.inr (Or.inr (Or.inr (Or.inr (Or.inr (Or.inr (Or.inr (Or.inr (Or.inr (Or.inr (Or.inr (Or.inl ⟨q11, by rw [q11]; decide⟩)))))))))))
  by_cases q12 : v = 460197
  · exact Or.inr (Or.inr (Or.inr (Or.inr (Or.inr (Or.inr (Or.inr (Or.inr (Or.inr (Or.inr (Or.inr (Or.inr (Or.inl ⟨q12, by rw [q12]; decide⟩))))))))))))
  by_cases q13 : v = 492210354
  · exact Or.inr (Or.inr (Or.inr (Or.inr (Or.inr (Or.inr (Or.inr (Or.inr (Or.inr (Or.inr (Or.inr (Or.inr (Or.inr (Or.inl ⟨q13, by rw [q13]; decide⟩)))))))))))))
  by_cases q14 : v = 294
  · exact Or.inr (Or.inr (Or.inr (Or.inr (Or.inr (Or.inr (Or.inr (Or.inr (Or.inr (Or.inr (Or.inr (Or.inr (Or.inr (Or.inr (Or.inl ⟨q14, by rw [q14]; decide⟩))))))))))))))
  by_cases q15 : v = 498
  · exact Or.inr (Or.inr (Or.inr (Or.inr (Or.inr (Or.inr (Or.inr (Or.inr (Or.inr (Or.inr (Or.inr (Or.inr (Or.inr (Or.inr (Or.inr (Or.inl ⟨q15, by rw [q15]; decide⟩)))))))))))))))
  by_cases q16 : v = 1476
  · exact Or.inr (Or.inr (Or.inr (Or.inr (Or.inr (Or.inr (Or.inr (Or.inr (Or.inr (Or.inr (Or.inr (Or.inr (Or.inr (Or.inr (Or.inr (Or.inr (Or.inl ⟨q16, by rw [q16]; decide⟩))))))))))))))))
  by_cases q17 : v = 14836
  · exact Or.inr (Or.inr (Or.inr (Or.inr (Or.inr (Or.inr (Or.inr (Or.inr (Or.inr (Or.inr (Or.inr (Or.inr (Or.inr (Or.inr (Or.inr (Or.inr (Or.inr (Or.inl ⟨q17, by rw [q17]; decide⟩)))))))))))))))))
  exact Or.inr (Or.inr (Or.inr (Or.inr (Or.inr (Or.inr (Or.inr (Or.inr (Or.inr (Or.inr (Or.inr (Or.inr (Or.inr (Or.inr (Or.inr (Or.inr (Or.inr (Or.inr (by unfold wordT; rw [if_neg q0, if_neg q1, if_neg q2, if_neg q3, if_neg q4, if_neg q5, if_neg q6, if_neg q7, if_neg q8, if_neg q9, if_neg q10, if_neg q11, if_neg q12, if_neg q13, if_neg q14, if_neg q15, if_neg q16, if_neg q17]))))))))))))))))))
theorem wordT_b (v : Nat) : wordT v ≤ 17 ∨ wordT v = 26 := by
  rcases wT_all v with ⟨z, y⟩ | ⟨z, y⟩ | ⟨z, y⟩ | ⟨z, y⟩ | ⟨z, y⟩ | ⟨z, y⟩ | ⟨z, y⟩ | ⟨z, y⟩ | ⟨z, y⟩ | ⟨z, y⟩ | ⟨z, y⟩ | ⟨z, y⟩ | ⟨z, y⟩ | ⟨z, y⟩ | ⟨z, y⟩ | ⟨z, y⟩ | ⟨z, y⟩ | ⟨z, y⟩ | z <;> omega
theorem tk_b {B : Nat → Nat} {n s : Nat} : tkV B n s < 100000 := by
  by_cases hs : s < n
  · by_cases h : isL (B s) = true
    · rw [tk_L hs h]
      have := wordT_b (vN B s (endR B n s - s))
      omega
    · by_cases h2 : isD (B s) = true
      · rw [tk_D hs h2]
        split
        · have := num_b (B := B) (s := s) (L := endR B n s - s) (by assumption) (fun k hk => (isD_b (row_D hs h2 k (by omega))).2)
          omega
        · omega
      · rw [tk_X hs h h2]
        have := chT_b (B s)
        omega
  · rw [tk_n hs]; omega
theorem tk_27 {B : Nat → Nat} {n s : Nat} : tkV B n s = 27 ↔ ¬ s < n := by
  refine ⟨fun e hs => ?_, tk_n⟩
  by_cases h : isL (B s) = true
  · rw [tk_L hs h] at e
    have := wordT_b (vN B s (endR B n s - s))
    omega
  · by_cases h2 : isD (B s) = true
    · rw [tk_D hs h2] at e
      split at e <;> omega
    · rw [tk_X hs h h2] at e
      have := chT_b (B s)
      omega
/-! the class -/
theorem c_dig0 : ∀ b, b < 58 → 48 ≤ b → sx8 (nI b) = nI b := by decide +kernel
theorem c_num_l {B : Nat → Nat} {n : Nat} {σ : Sg} (h : tpC B n σ) {s e : Nat} (he : e ≤ n) (hs : s ≤ e) (h4 : e - s ≤ 4) (hD : ∀ k, k < e - s → 48 ≤ B (s + k) ∧ B (s + k) ≤ 57) : ∀ d k m, s + k + d = e → d < m → f_X8_numberOf_l15 (nI e) σ m (nI (numV B s k)) (nI (s + k)) = some (nI (100 + numV B s (e - s)))
  | d, k, 0, _, hm => absurd hm (by omega)
  | d, k, m + 1, hd, hm => by
    have hn := h.1
    have hb := num_b (B := B) (s := s) (L := k) (by omega) (fun j hj => (hD j (by omega)).2)
    show f_X8_numberOf_b15 (f_X8_numberOf_l15 (nI e) σ m) (nI e) σ (nI (numV B s k)) (nI (s + k)) = _
    unfold f_X8_numberOf_b15
    simp only [lit]
    cases d with
    | zero => rw [if_pos (nI_le (by omega) (by omega)), nI_add, show e - s = k by omega]
    | succ d =>
      obtain ⟨b1, b2⟩ := h.2.1 (s + k) (by omega)
      obtain ⟨d1, d2⟩ := hD k (by omega)
      rw [if_neg (nI_ge (by omega) (by omega)), rd_nI (by omega) (by decide), bnd_some, b2, c_dig0 _ (by omega) d1, pk_mul, nI_add, pk_sub (by omega), lt_ap, nI_add, show numV B s k * 10 + B (s + k) - 48 = numV B s (k + 1) by show _ = 10 * numV B s k + (B (s + k) - 48); omega]
      exact c_num_l h he hs h4 hD d (k + 1) m (by omega) (by omega)
theorem c_numberOf {B : Nat → Nat} {n : Nat} {σ : Sg} (h : tpC B n σ) {s e : Nat} (he : e ≤ n) (hs : s ≤ e) (hD : ∀ k, k < e - s → 48 ≤ B (s + k) ∧ B (s + k) ≤ 57) : f_X8_numberOf (nI s) (nI e) σ = some (nI (if e - s ≤ 4 then 100 + numV B s (e - s) else 26)) := by
  have hn := h.1
  unfold f_X8_numberOf
  rw [pk_sub hs]
  by_cases q : e - s ≤ 4
  · rw [if_pos (show nI (e - s) ≤ (4 : Int32) from nI_le (b := 4) q (by decide)), if_pos q]
    exact c_num_l h he hs q hD (e - s) 0 400 (by omega) (by omega)
  · rw [if_neg (show ¬ nI (e - s) ≤ (4 : Int32) from nI_ge (a := 4) (by omega) (by omega)), if_neg q]
    rfl
theorem c_ch0 : ∀ b, b < 256 → (if sx8 (nI b) = 40 then some (21 : Int32) else if sx8 (nI b) = 41 then some 22 else if sx8 (nI b) = 59 then some 20 else if sx8 (nI b) = 60 then some 23 else if sx8 (nI b) = 61 then some 24 else if sx8 (nI b) = 62 then some 25 else some 26) = some (nI (chT b)) := by decide +kernel
theorem c_tokenOf {B : Nat → Nat} {n : Nat} {σ : Sg} (h : tpC B n σ) {s : Nat} (hs : s < n) : f_X8_tokenOf (nI s) (nI (endR B n s)) σ = some (nI (tkV B n s)) := by
  have hn := h.1
  obtain ⟨e1, e2, -⟩ := endR_p (B := B) hs
  obtain ⟨b1, b2⟩ := h.2.1 s (by omega)
  unfold f_X8_tokenOf
  rw [c_isL h (by omega), c_isD h (by omega), bnd_some, bnd_some]
  by_cases q : isL (B s) = true
  · rw [if_pos q, tk_L hs q, c_wordOf h e2 (by omega) (fun k hk => isL_b (row_L hs q k (by omega))), bnd_some]
  · rw [if_neg q]
    by_cases q2 : isD (B s) = true
    · rw [if_pos q2, tk_D hs q2, c_numberOf h e2 (by omega) (fun k hk => isD_b (row_D hs q2 k (by omega))), bnd_some]
    · rw [if_neg q2, tk_X hs q q2, rd_nI (by omega) (by decide), bnd_some, b2]
      exact c_ch0 (B s) b1
/-- the class's tokens, laid out -/
def TKT (B : Nat → Nat) (n la : Nat) (σ : Sg) : Prop := n ≤ 200 ∧ la ≤ n ∧ stN B n la = n ∧ (∀ j, j < la → stN B n j < n) ∧ (∀ j, j ≤ la → σ 69 j = nI (tkV B n (stN B n j)) ∧ σ 70 j = nI (stN B n j)) ∧ σ 67 4 = nI la
theorem c_toks_l {B : Nat → Nat} {n : Nat} : ∀ d i m c (σ : Sg), i + d = n → d < m → tpC B n σ → (∀ p, eN B n c ≤ p → p < i → B p = 32) → (c = 0 ∨ (stN B n (c - 1) < i ∧ 0 < i)) → σ 67 4 = nI c → c ≤ i → (∀ j, j < c → stN B n j < n ∧ σ 69 j = nI (tkV B n (stN B n j)) ∧ σ 70 j = nI (stN B n j)) →
    ∃ σ' la, f_X8_readTokens_l7 m (nI i) σ = some σ' ∧ TKT B n la σ' ∧ (∀ p, p ≠ 67 → p ≠ 69 → p ≠ 70 → σ' p = σ p) ∧ ∀ j, j ≠ 4 → σ' 67 j = σ 67 j
  | d, i, 0, c, σ, _, hm, _, _, _, _, _, _ => absurd hm (by omega)
  | d, i, m + 1, c, σ, hd, hm, h, hb, hc, e4, hci, ht => by
    have hn := h.1
    have he := eN_le B n c
    show ∃ σ' la, f_X8_readTokens_b7 (f_X8_readTokens_l7 m) (nI i) σ = some σ' ∧ _
    unfold f_X8_readTokens_b7 f_X8_readTokens_b41
    rw [h.2.2, e4]
    -- a row that goes on
    have on : ∀ j, 0 < c → stN B n (c - 1) < j → j < eN B n c → oneR B (j - 1) j = true := fun j c0 j1 j2 => by
      have hl := (ht (c - 1) (by omega)).1
      have ec : eN B n c = endR B n (stN B n (c - 1)) := by rw [← eN_s, show c - 1 + 1 = c by omega]
      rw [ec] at j2
      exact (endR_p (B := B) hl).2.2.1 j j1 j2
    cases d with
    | zero =>
      have hst : stN B n c = n := nextS_to he he (Nat.le_refl _) (fun j h1 h2 => hb j h1 (by omega)) (Or.inl rfl)
      rw [if_pos (nI_le (by omega) (by omega)), wr_nI (by omega) (by decide), bnd_some, upS_ne (q := 67) (by decide), e4, h.2.2, wr_nI (by omega) (by decide), bnd_some]
      refine ⟨_, c, rfl, ⟨hn, by omega, hst, fun j hj => (ht j hj).1, fun j hj => ?_, by rw [upS_ne (by decide), upS_ne (by decide)]; exact e4⟩, fun p a b e => by rw [upS_ne e, upS_ne b], fun j hj => by rw [upS_ne (by decide), upS_ne (by decide)]⟩
      by_cases q : j = c
      · subst q
        rw [upS_ne (q := 69) (by decide), upS_at, upS_at, hst, tk_n (by omega)]
        exact ⟨rfl, rfl⟩
      · rw [upS_ne (q := 69) (by decide), upS_nj (by omega), upS_nj (by omega), upS_ne (q := 70) (by decide)]
        exact (ht j (by omega)).2
    | succ d =>
      have hin : i < n := by omega
      obtain ⟨b1, b2⟩ := h.2.1 i (by omega)
      have b32 : (sx8 (nI (B i)) = 32) ↔ B i = 32 := by
        have key : ∀ b, b < 256 → (sx8 (nI b) = 32 ↔ b = 32) := by decide +kernel
        exact key _ b1
      rw [if_neg (nI_ge (by omega) (by omega)), rd_nI (by omega) (by decide), bnd_some, b2, nI_1]
      by_cases q : B i = 32
      · rw [if_pos (b32.mpr q)]
        refine c_toks_l d (i + 1) m c σ (by omega) (by omega) h (fun p h1 h2 => ?_) ?_ e4 (by omega) ht
        · by_cases e : p = i
          · subst e; exact q
          · exact hb p h1 (by omega)
        · exact hc.elim Or.inl (fun z => Or.inr (by omega))
      · rw [if_neg (fun z => q (b32.mp z))]
        -- here a row begins
        have add : ¬ (0 < i ∧ oneR B (i - 1) i = true) → ∃ σ' la, (Option.bind (f_X8_endOfRow (nI i) σ) fun vq6 => Option.bind (f_X8_tokenOf (nI i) vq6 σ) fun vq7 => Option.bind (wr σ 69 201 (nI c) vq7) fun σ8 => Option.bind (wr σ8 70 201 (σ8 67 4) (nI i)) fun σ9 => lt (upS σ9 67 4 ((σ9 67 4) + 1)) fun σ10 => f_X8_readTokens_l7 m (nI (i + 1)) σ10) = some σ' ∧ TKT B n la σ' ∧ (∀ p, p ≠ 67 → p ≠ 69 → p ≠ 70 → σ' p = σ p) ∧ ∀ j, j ≠ 4 → σ' 67 j = σ 67 j := fun no => by
          have hei : eN B n c ≤ i := by
            rcases hc with c0 | ⟨c1, c2⟩
            · subst c0; exact Nat.zero_le _
            · refine Nat.le_of_not_lt (fun z => no ⟨c2, on i ?_ c1 z⟩)
              exact Nat.pos_of_ne_zero (fun z0 => by subst z0; exact absurd z (by show ¬ i < 0; omega))
          have hst : stN B n c = i := nextS_to he hei (by omega) hb (Or.inr q)
          obtain ⟨r1, r2, -⟩ := endR_p (B := B) hin
          have es : eN B n (c + 1) = endR B n i := by rw [eN_s, hst]
          rw [c_endR h hin, bnd_some, c_tokenOf h hin, bnd_some, wr_nI (by omega) (by decide), bnd_some, upS_ne (q := 67) (by decide), e4, wr_nI (by omega) (by decide), bnd_some, upS_ne (q := 67) (by decide), upS_ne (q := 67) (by decide), e4, nI_1, lt_ap]
          obtain ⟨σ', la, p1, p2, p3, p4⟩ := c_toks_l d (i + 1) m (c + 1) (upS (upS (upS σ 69 c (nI (tkV B n i))) 70 c (nI i)) 67 4 (nI (c + 1))) (by omega) (by omega) ⟨hn, fun j hj => by rw [upS_ne (by decide), upS_ne (by decide), upS_ne (by decide)]; exact h.2.1 j hj, by rw [upS_nj (by omega), upS_ne (by decide), upS_ne (by decide)]; exact h.2.2⟩ (fun p h1 h2 => by rw [es] at h1; omega) (Or.inr ⟨by rw [show c + 1 - 1 = c from rfl, hst]; omega, by omega⟩) upS_at (by omega) (fun j hj => by
            by_cases e : j = c
            · subst e
              rw [hst, upS_ne (q := 69) (by decide), upS_ne (q := 69) (by decide), upS_at, upS_ne (q := 70) (by decide), upS_at]
              exact ⟨hin, rfl, rfl⟩
            · rw [upS_ne (q := 69) (by decide), upS_ne (q := 69) (by decide), upS_nj (by omega), upS_ne (q := 70) (by decide), upS_nj (by omega), upS_ne (q := 70) (by decide)]
              exact ht j (by omega))
          exact ⟨σ', la, p1, p2, fun p a b e => by rw [p3 p a b e, upS_ne a, upS_ne e, upS_ne b], fun j hj => by rw [p4 j hj, upS_nj (by omega), upS_ne (by decide), upS_ne (by decide)]⟩
        by_cases i0 : i = 0
        · rw [if_pos (show nI i ≤ (0 : Int32) by rw [i0]; decide)]
          exact add (fun z => by omega)
        · rw [if_neg (nI_nle (by omega) (by omega)), show nI i - 1 = nI (i - 1) from pk_sub (b := 1) (by omega), c_oneR h (by omega) (by omega), bnd_some]
          by_cases q2 : oneR B (i - 1) i = true
          · rw [if_pos q2]
            have c0 : 0 < c := Nat.pos_of_ne_zero (fun z => by
              subst z
              exact (one_n32 q2).1 (hb (i - 1) (Nat.zero_le _) (by omega)))
            have hie : i < eN B n c := by
              refine Nat.lt_of_not_le (fun z => ?_)
              have hl := (ht (c - 1) (by omega)).1
              have ec : eN B n c = endR B n (stN B n (c - 1)) := by rw [← eN_s, show c - 1 + 1 = c by omega]
              by_cases e : i = eN B n c
              · have := (endR_p (B := B) hl).2.2.2 (by rw [← ec]; omega)
                rw [← ec, ← e] at this
                exact this q2
              · exact (one_n32 q2).1 (hb (i - 1) (by omega) (by omega))
            exact c_toks_l d (i + 1) m c σ (by omega) (by omega) h (fun p h1 h2 => absurd h2 (by omega)) (hc.elim Or.inl (fun z => Or.inr (by omega))) e4 (by omega) ht
          · rw [if_neg q2]
            exact add (fun z => q2 z.2)
theorem c_readTokens {B : Nat → Nat} {n : Nat} {σ : Sg} (h : tpC B n σ) : ∃ σ' la, f_X8_readTokens σ = some σ' ∧ TKT B n la σ' ∧ (∀ p, p ≠ 67 → p ≠ 69 → p ≠ 70 → σ' p = σ p) ∧ ∀ j, j ≠ 4 → σ' 67 j = σ 67 j := by
  have hn := h.1
  unfold f_X8_readTokens
  rw [lt_ap]
  obtain ⟨σ', la, p1, p2, p3, p4⟩ := c_toks_l (B := B) (n := n) n 0 400 0 (upS σ 67 4 0) (by omega) (by omega) ⟨hn, fun j hj => by rw [upS_ne (by decide)]; exact h.2.1 j hj, by rw [upS_nj (by omega)]; exact h.2.2⟩ (fun p _ h2 => absurd h2 (by omega)) (Or.inl rfl) upS_at (by omega) (fun j hj => absurd hj (by omega))
  exact ⟨σ', la, p1, p2, fun p a b e => by rw [p3 p a b e, upS_ne a], fun j hj => by rw [p4 j hj, upS_nj (by omega)]⟩
/-! the reference's word -/
def wdV (B : Nat → Nat) (n s : Nat) : Nat := if s < n ∧ isL (B s) = true then vN B s (endR B n s - s) else 0
def wfin (v : Int64) (σ : Sg) : Option Int64 :=
    if ¬ (σ 0 27) = 0 then
      some (0 : Int64)
    else
      Option.bind (f_X12_byteAt (σ 0 22) σ) fun vq2 =>
      if (f_X12_isLetter vq2 σ) = true then
        some v
      else
        some (0 : Int64)
theorem m_word_a {B : Nat → Nat} {n e : Nat} {σ : Sg} (h : tpM B n σ) (he : e ≤ n) (e23 : σ 0 23 = nI e) : ∀ d k m (v : Int64), k + d = e → d < m → ∃ v', f_X12_word_l7 σ m v (nI k) = wfin v' σ
  | d, k, 0, v, _, hm => absurd hm (by omega)
  | d, k, m + 1, v, hd, hm => by
    have hn := h.1
    show ∃ v', f_X12_word_b7 (f_X12_word_l7 σ m) σ v (nI k) = _
    unfold f_X12_word_b7
    rw [e23]
    cases d with
    | zero => rw [if_pos (nI_le (by omega) (by omega))]; exact ⟨v, rfl⟩
    | succ d =>
      rw [if_neg (nI_ge (by omega) (by omega)), rd_nI (by omega) (by decide), bnd_some, lt_ap, nI_1]
      by_cases q : lg_cmp v 36028797018963967 ≤ 0
      · rw [if_pos q]; exact m_word_a h he e23 d (k + 1) m _ (by omega) (by omega)
      · rw [if_neg q]; exact m_word_a h he e23 d (k + 1) m _ (by omega) (by omega)
theorem m_word_l {B : Nat → Nat} {n s e : Nat} {σ : Sg} (h : tpM B n σ) (he : e ≤ n) (e23 : σ 0 23 = nI e) (hL : ∀ k, s + k < e → 97 ≤ B (s + k) ∧ B (s + k) ≤ 122) : ∀ d k m, s + k + d = e → d < m → f_X12_word_l7 σ m (lN (vN B s k)) (nI (s + k)) = wfin (lN (vN B s (e - s))) σ
  | d, k, 0, _, hm => absurd hm (by omega)
  | d, k, m + 1, hd, hm => by
    have hn := h.1
    show f_X12_word_b7 (f_X12_word_l7 σ m) σ (lN (vN B s k)) (nI (s + k)) = _
    unfold f_X12_word_b7
    rw [e23]
    cases d with
    | zero => rw [if_pos (nI_le (by omega) (by omega)), show e - s = k by omega]; rfl
    | succ d =>
      obtain ⟨l1, l2⟩ := hL k (by omega)
      have hv := vN_lt (B := B) (s := s) k (fun j hj => by have := (hL j (by omega)).2; omega)
      have ih := m_word_l h he e23 hL d (k + 1) m (by omega) (by omega)
      rw [show s + (k + 1) = s + k + 1 by omega] at ih
      have hc := lg_le (a := vN B s k) (b := 36028797018963967) (by omega) (by decide)
      rw [if_neg (nI_ge (by omega) (by omega)), rd_nI (by omega) (by decide), bnd_some, (h.2.1 (s + k) (by omega)).2, lt_ap, nI_1]
      by_cases q : vN B s k ≤ 36028797018963967
      · rw [if_pos (show lg_cmp (lN (vN B s k)) 36028797018963967 ≤ 0 from hc.mpr q)]
        rw [vN_s (by omega)] at ih
        have e1 : (32 : Int64) * lN (vN B s k) + (nI (B (s + k)) - 96).toInt64 = lN (32 * vN B s k + (B (s + k) - 96)) := by
          rw [show nI (B (s + k)) - 96 = nI (B (s + k) - 96) from pk_sub (b := 96) (by omega), nI_l (by omega)]
          show lN 32 * lN (vN B s k) + lN (B (s + k) - 96) = _
          unfold lN
          rw [← Int64.ofNat_mul, ← Int64.ofNat_add]
        rw [e1]
        exact ih
      · rw [if_neg (show ¬ lg_cmp (lN (vN B s k)) 36028797018963967 ≤ 0 from fun z => q (hc.mp z))]
        rw [vN_o (by omega)] at ih
        exact ih
theorem m_word {B : Nat → Nat} {n s : Nat} {σ : Sg} (h : tpM B n σ) (hs : s ≤ n) (e27 : σ 0 27 = 0) (e22 : σ 0 22 = nI s) (e23 : σ 0 23 = nI (endR B n s)) : f_X12_word σ = some (lN (wdV B n s)) := by
  have hn := h.1
  have he := endR_le B n s
  have hse : s ≤ endR B n s := by
    by_cases q : s < n
    · have := (endR_p (B := B) q).1; omega
    · rw [endR_n q]; exact hs
  unfold f_X12_word wdV
  rw [e22, lt_ap]
  by_cases q : s < n ∧ isL (B s) = true
  · have e := m_word_l h he e23 (s := s) (fun k hk => isL_b (row_L q.1 q.2 k hk)) (endR B n s - s) 0 400 (by omega) (by omega)
    have e' : f_X12_word_l7 σ 400 0 (nI s) = _ := e
    rw [e', if_pos q]
    unfold wfin
    rw [if_neg (fun z => z e27), e22, m_byte h (by omega), bnd_some, if_pos q.1, m_isL (h.2.1 s (by omega)).1, if_pos q.2]
  · obtain ⟨v, e⟩ := m_word_a h he e23 (endR B n s - s) s 400 0 (by omega) (by omega)
    rw [e, if_neg q]
    unfold wfin
    rw [if_neg (fun z => z e27), e22, m_byte h (by omega), bnd_some]
    by_cases q1 : s < n
    · rw [if_pos q1, m_isL (h.2.1 s (by omega)).1, if_neg (fun z => q ⟨q1, z⟩)]
      rfl
    · rw [if_neg q1, m_isLn, if_neg (show ¬ false = true by decide)]
      rfl
theorem m_word_w {B : Nat → Nat} {n s e : Nat} {σ : Sg} (h : tpM B n σ) (hs : s ≤ e) (he : e ≤ n) (e27 : ¬ σ 0 27 = 0) (e22 : σ 0 22 = nI s) (e23 : σ 0 23 = nI e) : f_X12_word σ = some 0 := by
  have hn := h.1
  unfold f_X12_word
  rw [e22, lt_ap]
  obtain ⟨v, q⟩ := m_word_a h he e23 (e - s) s 400 0 (by omega) (by omega)
  rw [q]
  unfold wfin
  rw [if_pos e27]
theorem wd_b {B : Nat → Nat} {n s : Nat} : wdV B n s < 2 ^ 62 := by
  unfold wdV
  split
  · rename_i q
    exact vN_lt _ (fun k hk => by have := (isL_b (row_L q.1 q.2 k (by omega))).2; omega)
  · decide
theorem lg_n {v c : Nat} (hv : v < 2 ^ 63) (hc : c < 2 ^ 63) : lg_cmp (lN v) (lN c) = 0 ↔ v = c := lg_0.trans (pk_lEQ hv hc)
theorem wT_0 (v : Nat) : wordT v = 0 ↔ v = 370309 := by
  constructor
  · intro h
    rcases wT_all v with ⟨z, y⟩ | ⟨z, y⟩ | ⟨z, y⟩ | ⟨z, y⟩ | ⟨z, y⟩ | ⟨z, y⟩ | ⟨z, y⟩ | ⟨z, y⟩ | ⟨z, y⟩ | ⟨z, y⟩ | ⟨z, y⟩ | ⟨z, y⟩ | ⟨z, y⟩ | ⟨z, y⟩ | ⟨z, y⟩ | ⟨z, y⟩ | ⟨z, y⟩ | ⟨z, y⟩ | z <;> omega
  · intro h; subst h; decide
theorem tk_w0 {B : Nat → Nat} {n s : Nat} : wdV B n s = 370309 ↔ tkV B n s = 0 := by
  unfold wdV
  by_cases hs : s < n
  · by_cases h : isL (B s) = true
    · rw [if_pos ⟨hs, h⟩, tk_L hs h, wT_0]
    · rw [if_neg (fun z => h z.2)]
      refine ⟨fun z => absurd z (by decide), fun z => ?_⟩
      by_cases h2 : isD (B s) = true
      · rw [tk_D hs h2] at z
        split at z <;> omega
      · rw [tk_X hs h h2] at z
        have := chT_b (B s)
        omega
  · rw [if_neg (fun z => hs z.1), tk_n hs]
    exact ⟨fun z => absurd z (by decide), fun z => absurd z (by decide)⟩
theorem wT_1 (v : Nat) : wordT v = 1 ↔ v = 18596 := by
  constructor
  · intro h
    rcases wT_all v with ⟨z, y⟩ | ⟨z, y⟩ | ⟨z, y⟩ | ⟨z, y⟩ | ⟨z, y⟩ | ⟨z, y⟩ | ⟨z, y⟩ | ⟨z, y⟩ | ⟨z, y⟩ | ⟨z, y⟩ | ⟨z, y⟩ | ⟨z, y⟩ | ⟨z, y⟩ | ⟨z, y⟩ | ⟨z, y⟩ | ⟨z, y⟩ | ⟨z, y⟩ | ⟨z, y⟩ | z <;> omega
  · intro h; subst h; decide
theorem tk_w1 {B : Nat → Nat} {n s : Nat} : wdV B n s = 18596 ↔ tkV B n s = 1 := by
  unfold wdV
  by_cases hs : s < n
  · by_cases h : isL (B s) = true
    · rw [if_pos ⟨hs, h⟩, tk_L hs h, wT_1]
    · rw [if_neg (fun z => h z.2)]
      refine ⟨fun z => absurd z (by decide), fun z => ?_⟩
      by_cases h2 : isD (B s) = true
      · rw [tk_D hs h2] at z
        split at z <;> omega
      · rw [tk_X hs h h2] at z
        have := chT_b (B s)
        omega
  · rw [if_neg (fun z => hs z.1), tk_n hs]
    exact ⟨fun z => absurd z (by decide), fun z => absurd z (by decide)⟩
theorem wT_2 (v : Nat) : wordT v = 2 ↔ v = 8554201 := by
  constructor
  · intro h
    rcases wT_all v with ⟨z, y⟩ | ⟨z, y⟩ | ⟨z, y⟩ | ⟨z, y⟩ | ⟨z, y⟩ | ⟨z, y⟩ | ⟨z, y⟩ | ⟨z, y⟩ | ⟨z, y⟩ | ⟨z, y⟩ | ⟨z, y⟩ | ⟨z, y⟩ | ⟨z, y⟩ | ⟨z, y⟩ | ⟨z, y⟩ | ⟨z, y⟩ | ⟨z, y⟩ | ⟨z, y⟩ | z <;> omega
  · intro h; subst h; decide
theorem tk_w2 {B : Nat → Nat} {n s : Nat} : wdV B n s = 8554201 ↔ tkV B n s = 2 := by
  unfold wdV
  by_cases hs : s < n
  · by_cases h : isL (B s) = true
    · rw [if_pos ⟨hs, h⟩, tk_L hs h, wT_2]
    · rw [if_neg (fun z => h z.2)]
      refine ⟨fun z => absurd z (by decide), fun z => ?_⟩
      by_cases h2 : isD (B s) = true
      · rw [tk_D hs h2] at z
        split at z <;> omega
      · rw [tk_X hs h h2] at z
        have := chT_b (B s)
        omega
  · rw [if_neg (fun z => hs z.1), tk_n hs]
    exact ⟨fun z => absurd z (by decide), fun z => absurd z (by decide)⟩
theorem wT_3 (v : Nat) : wordT v = 3 ↔ v = 11178213 := by
  constructor
  · intro h
    rcases wT_all v with ⟨z, y⟩ | ⟨z, y⟩ | ⟨z, y⟩ | ⟨z, y⟩ | ⟨z, y⟩ | ⟨z, y⟩ | ⟨z, y⟩ | ⟨z, y⟩ | ⟨z, y⟩ | ⟨z, y⟩ | ⟨z, y⟩ | ⟨z, y⟩ | ⟨z, y⟩ | ⟨z, y⟩ | ⟨z, y⟩ | ⟨z, y⟩ | ⟨z, y⟩ | ⟨z, y⟩ | z <;> omega
  · intro h; subst h; decide
theorem tk_w3 {B : Nat → Nat} {n s : Nat} : wdV B n s = 11178213 ↔ tkV B n s = 3 := by
  unfold wdV
  by_cases hs : s < n
  · by_cases h : isL (B s) = true
    · rw [if_pos ⟨hs, h⟩, tk_L hs h, wT_3]
    · rw [if_neg (fun z => h z.2)]
      refine ⟨fun z => absurd z (by decide), fun z => ?_⟩
      by_cases h2 : isD (B s) = true
      · rw [tk_D hs h2] at z
        split at z <;> omega
      · rw [tk_X hs h h2] at z
        have := chT_b (B s)
        omega
  · rw [if_neg (fun z => hs z.1), tk_n hs]
    exact ⟨fun z => absurd z (by decide), fun z => absurd z (by decide)⟩
theorem wT_4 (v : Nat) : wordT v = 4 ↔ v = 2552 := by
  constructor
  · intro h
    rcases wT_all v with ⟨z, y⟩ | ⟨z, y⟩ | ⟨z, y⟩ | ⟨z, y⟩ | ⟨z, y⟩ | ⟨z, y⟩ | ⟨z, y⟩ | ⟨z, y⟩ | ⟨z, y⟩ | ⟨z, y⟩ | ⟨z, y⟩ | ⟨z, y⟩ | ⟨z, y⟩ | ⟨z, y⟩ | ⟨z, y⟩ | ⟨z, y⟩ | ⟨z, y⟩ | ⟨z, y⟩ | z <;> omega
  · intro h; subst h; decide
theorem tk_w4 {B : Nat → Nat} {n s : Nat} : wdV B n s = 2552 ↔ tkV B n s = 4 := by
  unfold wdV
  by_cases hs : s < n
  · by_cases h : isL (B s) = true
    · rw [if_pos ⟨hs, h⟩, tk_L hs h, wT_4]
    · rw [if_neg (fun z => h z.2)]
      refine ⟨fun z => absurd z (by decide), fun z => ?_⟩
      by_cases h2 : isD (B s) = true
      · rw [tk_D hs h2] at z
        split at z <;> omega
      · rw [tk_X hs h h2] at z
        have := chT_b (B s)
        omega
  · rw [if_neg (fun z => hs z.1), tk_n hs]
    exact ⟨fun z => absurd z (by decide), fun z => absurd z (by decide)⟩
theorem wT_5 (v : Nat) : wordT v = 5 ↔ v = 15748 := by
  constructor
  · intro h
    rcases wT_all v with ⟨z, y⟩ | ⟨z, y⟩ | ⟨z, y⟩ | ⟨z, y⟩ | ⟨z, y⟩ | ⟨z, y⟩ | ⟨z, y⟩ | ⟨z, y⟩ | ⟨z, y⟩ | ⟨z, y⟩ | ⟨z, y⟩ | ⟨z, y⟩ | ⟨z, y⟩ | ⟨z, y⟩ | ⟨z, y⟩ | ⟨z, y⟩ | ⟨z, y⟩ | ⟨z, y⟩ | z <;> omega
  · intro h; subst h; decide
theorem tk_w5 {B : Nat → Nat} {n s : Nat} : wdV B n s = 15748 ↔ tkV B n s = 5 := by
  unfold wdV
  by_cases hs : s < n
  · by_cases h : isL (B s) = true
    · rw [if_pos ⟨hs, h⟩, tk_L hs h, wT_5]
    · rw [if_neg (fun z => h z.2)]
      refine ⟨fun z => absurd z (by decide), fun z => ?_⟩
      by_cases h2 : isD (B s) = true
      · rw [tk_D hs h2] at z
        split at z <;> omega
      · rw [tk_X hs h h2] at z
        have := chT_b (B s)
        omega
  · rw [if_neg (fun z => hs z.1), tk_n hs]
    exact ⟨fun z => absurd z (by decide), fun z => absurd z (by decide)⟩
theorem wT_6 (v : Nat) : wordT v = 6 ↔ v = 20105925 := by
  constructor
  · intro h
    rcases wT_all v with ⟨z, y⟩ | ⟨z, y⟩ | ⟨z, y⟩ | ⟨z, y⟩ | ⟨z, y⟩ | ⟨z, y⟩ | ⟨z, y⟩ | ⟨z, y⟩ | ⟨z, y⟩ | ⟨z, y⟩ | ⟨z, y⟩ | ⟨z, y⟩ | ⟨z, y⟩ | ⟨z, y⟩ | ⟨z, y⟩ | ⟨z, y⟩ | ⟨z, y⟩ | ⟨z, y⟩ | z <;> omega
  · intro h; subst h; decide
theorem tk_w6 {B : Nat → Nat} {n s : Nat} : wdV B n s = 20105925 ↔ tkV B n s = 6 := by
  unfold wdV
  by_cases hs : s < n
  · by_cases h : isL (B s) = true
    · rw [if_pos ⟨hs, h⟩, tk_L hs h, wT_6]
    · rw [if_neg (fun z => h z.2)]
      refine ⟨fun z => absurd z (by decide), fun z => ?_⟩
      by_cases h2 : isD (B s) = true
      · rw [tk_D hs h2] at z
        split at z <;> omega
      · rw [tk_X hs h h2] at z
        have := chT_b (B s)
        omega
  · rw [if_neg (fun z => hs z.1), tk_n hs]
    exact ⟨fun z => absurd z (by decide), fun z => absurd z (by decide)⟩
theorem wT_7 (v : Nat) : wordT v = 7 ↔ v = 277892 := by
  constructor
  · intro h
    rcases wT_all v with ⟨z, y⟩ | ⟨z, y⟩ | ⟨z, y⟩ | ⟨z, y⟩ | ⟨z, y⟩ | ⟨z, y⟩ | ⟨z, y⟩ | ⟨z, y⟩ | ⟨z, y⟩ | ⟨z, y⟩ | ⟨z, y⟩ | ⟨z, y⟩ | ⟨z, y⟩ | ⟨z, y⟩ | ⟨z, y⟩ | ⟨z, y⟩ | ⟨z, y⟩ | ⟨z, y⟩ | z <;> omega
  · intro h; subst h; decide
theorem tk_w7 {B : Nat → Nat} {n s : Nat} : wdV B n s = 277892 ↔ tkV B n s = 7 := by
  unfold wdV
  by_cases hs : s < n
  · by_cases h : isL (B s) = true
    · rw [if_pos ⟨hs, h⟩, tk_L hs h, wT_7]
    · rw [if_neg (fun z => h z.2)]
      refine ⟨fun z => absurd z (by decide), fun z => ?_⟩
      by_cases h2 : isD (B s) = true
      · rw [tk_D hs h2] at z
        split at z <;> omega
      · rw [tk_X hs h h2] at z
        have := chT_b (B s)
        omega
  · rw [if_neg (fun z => hs z.1), tk_n hs]
    exact ⟨fun z => absurd z (by decide), fun z => absurd z (by decide)⟩
theorem wT_8 (v : Nat) : wordT v = 8 ↔ v = 3764 := by
  constructor
  · intro h
    rcases wT_all v with ⟨z, y⟩ | ⟨z, y⟩ | ⟨z, y⟩ | ⟨z, y⟩ | ⟨z, y⟩ | ⟨z, y⟩ | ⟨z, y⟩ | ⟨z, y⟩ | ⟨z, y⟩ | ⟨z, y⟩ | ⟨z, y⟩ | ⟨z, y⟩ | ⟨z, y⟩ | ⟨z, y⟩ | ⟨z, y⟩ | ⟨z, y⟩ | ⟨z, y⟩ | ⟨z, y⟩ | z <;> omega
  · intro h; subst h; decide
theorem tk_w8 {B : Nat → Nat} {n s : Nat} : wdV B n s = 3764 ↔ tkV B n s = 8 := by
  unfold wdV
  by_cases hs : s < n
  · by_cases h : isL (B s) = true
    · rw [if_pos ⟨hs, h⟩, tk_L hs h, wT_8]
    · rw [if_neg (fun z => h z.2)]
      refine ⟨fun z => absurd z (by decide), fun z => ?_⟩
      by_cases h2 : isD (B s) = true
      · rw [tk_D hs h2] at z
        split at z <;> omega
      · rw [tk_X hs h h2] at z
        have := chT_b (B s)
        omega
  · rw [if_neg (fun z => hs z.1), tk_n hs]
    exact ⟨fun z => absurd z (by decide), fun z => absurd z (by decide)⟩
theorem wT_9 (v : Nat) : wordT v = 9 ↔ v = 251508 := by
  constructor
  · intro h
    rcases wT_all v with ⟨z, y⟩ | ⟨z, y⟩ | ⟨z, y⟩ | ⟨z, y⟩ | ⟨z, y⟩ | ⟨z, y⟩ | ⟨z, y⟩ | ⟨z, y⟩ | ⟨z, y⟩ | ⟨z, y⟩ | ⟨z, y⟩ | ⟨z, y⟩ | ⟨z, y⟩ | ⟨z, y⟩ | ⟨z, y⟩ | ⟨z, y⟩ | ⟨z, y⟩ | ⟨z, y⟩ | z <;> omega
  · intro h; subst h; decide
theorem tk_w9 {B : Nat → Nat} {n s : Nat} : wdV B n s = 251508 ↔ tkV B n s = 9 := by
  unfold wdV
  by_cases hs : s < n
  · by_cases h : isL (B s) = true
    · rw [if_pos ⟨hs, h⟩, tk_L hs h, wT_9]
    · rw [if_neg (fun z => h z.2)]
      refine ⟨fun z => absurd z (by decide), fun z => ?_⟩
      by_cases h2 : isD (B s) = true
      · rw [tk_D hs h2] at z
        split at z <;> omega
      · rw [tk_X hs h h2] at z
        have := chT_b (B s)
        omega
  · rw [if_neg (fun z => hs z.1), tk_n hs]
    exact ⟨fun z => absurd z (by decide), fun z => absurd z (by decide)⟩
theorem wT_10 (v : Nat) : wordT v = 10 ↔ v = 659105223 := by
  constructor
  · intro h
    rcases wT_all v with ⟨z, y⟩ | ⟨z, y⟩ | ⟨z, y⟩ | ⟨z, y⟩ | ⟨z, y⟩ | ⟨z, y⟩ | ⟨z, y⟩ | ⟨z, y⟩ | ⟨z, y⟩ | ⟨z, y⟩ | ⟨z, y⟩ | ⟨z, y⟩ | ⟨z, y⟩ | ⟨z, y⟩ | ⟨z, y⟩ | ⟨z, y⟩ | ⟨z, y⟩ | ⟨z, y⟩ | z <;> omega
  · intro h; subst h; decide
theorem tk_w10 {B : Nat → Nat} {n s : Nat} : wdV B n s = 659105223 ↔ tkV B n s = 10 := by
  unfold wdV
  by_cases hs : s < n
  · by_cases h : isL (B s) = true
    · rw [if_pos ⟨hs, h⟩, tk_L hs h, wT_10]
    · rw [if_neg (fun z => h z.2)]
      refine ⟨fun z => absurd z (by decide), fun z => ?_⟩
      by_cases h2 : isD (B s) = true
      · rw [tk_D hs h2] at z
        split at z <;> omega
      · rw [tk_X hs h h2] at z
        have := chT_b (B s)
        omega
  · rw [if_neg (fun z => hs z.1), tk_n hs]
    exact ⟨fun z => absurd z (by decide), fun z => absurd z (by decide)⟩
theorem wT_11 (v : Nat) : wordT v = 11 ↔ v = 6194 := by
  constructor
  · intro h
    rcases wT_all v with ⟨z, y⟩ | ⟨z, y⟩ | ⟨z, y⟩ | ⟨z, y⟩ | ⟨z, y⟩ | ⟨z, y⟩ | ⟨z, y⟩ | ⟨z, y⟩ | ⟨z, y⟩ | ⟨z, y⟩ | ⟨z, y⟩ | ⟨z, y⟩ | ⟨z, y⟩ | ⟨z, y⟩ | ⟨z, y⟩ | ⟨z, y⟩ | ⟨z, y⟩ | ⟨z, y⟩ | z <;> omega
  · intro h; subst h; decide
theorem tk_w11 {B : Nat → Nat} {n s : Nat} : wdV B n s = 6194 ↔ tkV B n s = 11 := by
  unfold wdV
  by_cases hs : s < n
  · by_cases h : isL (B s) = true
    · rw [if_pos ⟨hs, h⟩, tk_L hs h, wT_11]
    · rw [if_neg (fun z => h z.2)]
      refine ⟨fun z => absurd z (by decide), fun z => ?_⟩
      by_cases h2 : isD (B s) = true
      · rw [tk_D hs h2] at z
        split at z <;> omega
      · rw [tk_X hs h h2] at z
        have := chT_b (B s)
        omega
  · rw [if_neg (fun z => hs z.1), tk_n hs]
    exact ⟨fun z => absurd z (by decide), fun z => absurd z (by decide)⟩
theorem wT_12 (v : Nat) : wordT v = 12 ↔ v = 460197 := by
  constructor
  · intro h
    rcases wT_all v with ⟨z, y⟩ | ⟨z, y⟩ | ⟨z, y⟩ | ⟨z, y⟩ | ⟨z, y⟩ | ⟨z, y⟩ | ⟨z, y⟩ | ⟨z, y⟩ | ⟨z, y⟩ | ⟨z, y⟩ | ⟨z, y⟩ | ⟨z, y⟩ | ⟨z, y⟩ | ⟨z, y⟩ | ⟨z, y⟩ | ⟨z, y⟩ | ⟨z, y⟩ | ⟨z, y⟩ | z <;> omega
  · intro h; subst h; decide
theorem tk_w12 {B : Nat → Nat} {n s : Nat} : wdV B n s = 460197 ↔ tkV B n s = 12 := by
  unfold wdV
  by_cases hs : s < n
  · by_cases h : isL (B s) = true
    · rw [if_pos ⟨hs, h⟩, tk_L hs h, wT_12]
    · rw [if_neg (fun z => h z.2)]
      refine ⟨fun z => absurd z (by decide), fun z => ?_⟩
      by_cases h2 : isD (B s) = true
      · rw [tk_D hs h2] at z
        split at z <;> omega
      · rw [tk_X hs h h2] at z
        have := chT_b (B s)
        omega
  · rw [if_neg (fun z => hs z.1), tk_n hs]
    exact ⟨fun z => absurd z (by decide), fun z => absurd z (by decide)⟩
theorem wT_13 (v : Nat) : wordT v = 13 ↔ v = 492210354 := by
  constructor
  · intro h
    rcases wT_all v with ⟨z, y⟩ | ⟨z, y⟩ | ⟨z, y⟩ | ⟨z, y⟩ | ⟨z, y⟩ | ⟨z, y⟩ | ⟨z, y⟩ | ⟨z, y⟩ | ⟨z, y⟩ | ⟨z, y⟩ | ⟨z, y⟩ | ⟨z, y⟩ | ⟨z, y⟩ | ⟨z, y⟩ | ⟨z, y⟩ | ⟨z, y⟩ | ⟨z, y⟩ | ⟨z, y⟩ | z <;> omega
  · intro h; subst h; decide
theorem tk_w13 {B : Nat → Nat} {n s : Nat} : wdV B n s = 492210354 ↔ tkV B n s = 13 := by
  unfold wdV
  by_cases hs : s < n
  · by_cases h : isL (B s) = true
    · rw [if_pos ⟨hs, h⟩, tk_L hs h, wT_13]
    · rw [if_neg (fun z => h z.2)]
      refine ⟨fun z => absurd z (by decide), fun z => ?_⟩
      by_cases h2 : isD (B s) = true
      · rw [tk_D hs h2] at z
        split at z <;> omega
      · rw [tk_X hs h h2] at z
        have := chT_b (B s)
        omega
  · rw [if_neg (fun z => hs z.1), tk_n hs]
    exact ⟨fun z => absurd z (by decide), fun z => absurd z (by decide)⟩
theorem wT_14 (v : Nat) : wordT v = 14 ↔ v = 294 := by
  constructor
  · intro h
    rcases wT_all v with ⟨z, y⟩ | ⟨z, y⟩ | ⟨z, y⟩ | ⟨z, y⟩ | ⟨z, y⟩ | ⟨z, y⟩ | ⟨z, y⟩ | ⟨z, y⟩ | ⟨z, y⟩ | ⟨z, y⟩ | ⟨z, y⟩ | ⟨z, y⟩ | ⟨z, y⟩ | ⟨z, y⟩ | ⟨z, y⟩ | ⟨z, y⟩ | ⟨z, y⟩ | ⟨z, y⟩ | z <;> omega
  · intro h; subst h; decide
theorem tk_w14 {B : Nat → Nat} {n s : Nat} : wdV B n s = 294 ↔ tkV B n s = 14 := by
  unfold wdV
  by_cases hs : s < n
  · by_cases h : isL (B s) = true
    · rw [if_pos ⟨hs, h⟩, tk_L hs h, wT_14]
    · rw [if_neg (fun z => h z.2)]
      refine ⟨fun z => absurd z (by decide), fun z => ?_⟩
      by_cases h2 : isD (B s) = true
      · rw [tk_D hs h2] at z
        split at z <;> omega
      · rw [tk_X hs h h2] at z
        have := chT_b (B s)
        omega
  · rw [if_neg (fun z => hs z.1), tk_n hs]
    exact ⟨fun z => absurd z (by decide), fun z => absurd z (by decide)⟩
theorem wT_15 (v : Nat) : wordT v = 15 ↔ v = 498 := by
  constructor
  · intro h
    rcases wT_all v with ⟨z, y⟩ | ⟨z, y⟩ | ⟨z, y⟩ | ⟨z, y⟩ | ⟨z, y⟩ | ⟨z, y⟩ | ⟨z, y⟩ | ⟨z, y⟩ | ⟨z, y⟩ | ⟨z, y⟩ | ⟨z, y⟩ | ⟨z, y⟩ | ⟨z, y⟩ | ⟨z, y⟩ | ⟨z, y⟩ | ⟨z, y⟩ | ⟨z, y⟩ | ⟨z, y⟩ | z <;> omega
  · intro h; subst h; decide
theorem tk_w15 {B : Nat → Nat} {n s : Nat} : wdV B n s = 498 ↔ tkV B n s = 15 := by
  unfold wdV
  by_cases hs : s < n
  · by_cases h : isL (B s) = true
    · rw [if_pos ⟨hs, h⟩, tk_L hs h, wT_15]
    · rw [if_neg (fun z => h z.2)]
      refine ⟨fun z => absurd z (by decide), fun z => ?_⟩
      by_cases h2 : isD (B s) = true
      · rw [tk_D hs h2] at z
        split at z <;> omega
      · rw [tk_X hs h h2] at z
        have := chT_b (B s)
        omega
  · rw [if_neg (fun z => hs z.1), tk_n hs]
    exact ⟨fun z => absurd z (by decide), fun z => absurd z (by decide)⟩
theorem wT_16 (v : Nat) : wordT v = 16 ↔ v = 1476 := by
  constructor
  · intro h
    rcases wT_all v with ⟨z, y⟩ | ⟨z, y⟩ | ⟨z, y⟩ | ⟨z, y⟩ | ⟨z, y⟩ | ⟨z, y⟩ | ⟨z, y⟩ | ⟨z, y⟩ | ⟨z, y⟩ | ⟨z, y⟩ | ⟨z, y⟩ | ⟨z, y⟩ | ⟨z, y⟩ | ⟨z, y⟩ | ⟨z, y⟩ | ⟨z, y⟩ | ⟨z, y⟩ | ⟨z, y⟩ | z <;> omega
  · intro h; subst h; decide
theorem tk_w16 {B : Nat → Nat} {n s : Nat} : wdV B n s = 1476 ↔ tkV B n s = 16 := by
  unfold wdV
  by_cases hs : s < n
  · by_cases h : isL (B s) = true
    · rw [if_pos ⟨hs, h⟩, tk_L hs h, wT_16]
    · rw [if_neg (fun z => h z.2)]
      refine ⟨fun z => absurd z (by decide), fun z => ?_⟩
      by_cases h2 : isD (B s) = true
      · rw [tk_D hs h2] at z
        split at z <;> omega
      · rw [tk_X hs h h2] at z
        have := chT_b (B s)
        omega
  · rw [if_neg (fun z => hs z.1), tk_n hs]
    exact ⟨fun z => absurd z (by decide), fun z => absurd z (by decide)⟩
theorem wT_17 (v : Nat) : wordT v = 17 ↔ v = 14836 := by
  constructor
  · intro h
    rcases wT_all v with ⟨z, y⟩ | ⟨z, y⟩ | ⟨z, y⟩ | ⟨z, y⟩ | ⟨z, y⟩ | ⟨z, y⟩ | ⟨z, y⟩ | ⟨z, y⟩ | ⟨z, y⟩ | ⟨z, y⟩ | ⟨z, y⟩ | ⟨z, y⟩ | ⟨z, y⟩ | ⟨z, y⟩ | ⟨z, y⟩ | ⟨z, y⟩ | ⟨z, y⟩ | ⟨z, y⟩ | z <;> omega
  · intro h; subst h; decide
theorem tk_w17 {B : Nat → Nat} {n s : Nat} : wdV B n s = 14836 ↔ tkV B n s = 17 := by
  unfold wdV
  by_cases hs : s < n
  · by_cases h : isL (B s) = true
    · rw [if_pos ⟨hs, h⟩, tk_L hs h, wT_17]
    · rw [if_neg (fun z => h z.2)]
      refine ⟨fun z => absurd z (by decide), fun z => ?_⟩
      by_cases h2 : isD (B s) = true
      · rw [tk_D hs h2] at z
        split at z <;> omega
      · rw [tk_X hs h h2] at z
        have := chT_b (B s)
        omega
  · rw [if_neg (fun z => hs z.1), tk_n hs]
    exact ⟨fun z => absurd z (by decide), fun z => absurd z (by decide)⟩
