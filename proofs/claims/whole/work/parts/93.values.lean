/-! values and comparisons: both parsers -/
theorem tw0 {B : Nat → Nat} {n s : Nat} : lg_cmp (lN (wdV B n s)) (370309 : Int64) = 0 ↔ tkV B n s = 0 := (lg_n (c := 370309) (by have := wd_b (B := B) (n := n) (s := s); omega) (by decide)).trans tk_w0
theorem tw1 {B : Nat → Nat} {n s : Nat} : lg_cmp (lN (wdV B n s)) (18596 : Int64) = 0 ↔ tkV B n s = 1 := (lg_n (c := 18596) (by have := wd_b (B := B) (n := n) (s := s); omega) (by decide)).trans tk_w1
theorem tw2 {B : Nat → Nat} {n s : Nat} : lg_cmp (lN (wdV B n s)) (8554201 : Int64) = 0 ↔ tkV B n s = 2 := (lg_n (c := 8554201) (by have := wd_b (B := B) (n := n) (s := s); omega) (by decide)).trans tk_w2
theorem tw3 {B : Nat → Nat} {n s : Nat} : lg_cmp (lN (wdV B n s)) (11178213 : Int64) = 0 ↔ tkV B n s = 3 := (lg_n (c := 11178213) (by have := wd_b (B := B) (n := n) (s := s); omega) (by decide)).trans tk_w3
theorem tw4 {B : Nat → Nat} {n s : Nat} : lg_cmp (lN (wdV B n s)) (2552 : Int64) = 0 ↔ tkV B n s = 4 := (lg_n (c := 2552) (by have := wd_b (B := B) (n := n) (s := s); omega) (by decide)).trans tk_w4
theorem tw5 {B : Nat → Nat} {n s : Nat} : lg_cmp (lN (wdV B n s)) (15748 : Int64) = 0 ↔ tkV B n s = 5 := (lg_n (c := 15748) (by have := wd_b (B := B) (n := n) (s := s); omega) (by decide)).trans tk_w5
theorem tw6 {B : Nat → Nat} {n s : Nat} : lg_cmp (lN (wdV B n s)) (20105925 : Int64) = 0 ↔ tkV B n s = 6 := (lg_n (c := 20105925) (by have := wd_b (B := B) (n := n) (s := s); omega) (by decide)).trans tk_w6
theorem tw7 {B : Nat → Nat} {n s : Nat} : lg_cmp (lN (wdV B n s)) (277892 : Int64) = 0 ↔ tkV B n s = 7 := (lg_n (c := 277892) (by have := wd_b (B := B) (n := n) (s := s); omega) (by decide)).trans tk_w7
theorem tw8 {B : Nat → Nat} {n s : Nat} : lg_cmp (lN (wdV B n s)) (3764 : Int64) = 0 ↔ tkV B n s = 8 := (lg_n (c := 3764) (by have := wd_b (B := B) (n := n) (s := s); omega) (by decide)).trans tk_w8
theorem tw9 {B : Nat → Nat} {n s : Nat} : lg_cmp (lN (wdV B n s)) (251508 : Int64) = 0 ↔ tkV B n s = 9 := (lg_n (c := 251508) (by have := wd_b (B := B) (n := n) (s := s); omega) (by decide)).trans tk_w9
theorem tw10 {B : Nat → Nat} {n s : Nat} : lg_cmp (lN (wdV B n s)) (659105223 : Int64) = 0 ↔ tkV B n s = 10 := (lg_n (c := 659105223) (by have := wd_b (B := B) (n := n) (s := s); omega) (by decide)).trans tk_w10
theorem tw11 {B : Nat → Nat} {n s : Nat} : lg_cmp (lN (wdV B n s)) (6194 : Int64) = 0 ↔ tkV B n s = 11 := (lg_n (c := 6194) (by have := wd_b (B := B) (n := n) (s := s); omega) (by decide)).trans tk_w11
theorem tw12 {B : Nat → Nat} {n s : Nat} : lg_cmp (lN (wdV B n s)) (460197 : Int64) = 0 ↔ tkV B n s = 12 := (lg_n (c := 460197) (by have := wd_b (B := B) (n := n) (s := s); omega) (by decide)).trans tk_w12
theorem tw13 {B : Nat → Nat} {n s : Nat} : lg_cmp (lN (wdV B n s)) (492210354 : Int64) = 0 ↔ tkV B n s = 13 := (lg_n (c := 492210354) (by have := wd_b (B := B) (n := n) (s := s); omega) (by decide)).trans tk_w13
theorem tw14 {B : Nat → Nat} {n s : Nat} : lg_cmp (lN (wdV B n s)) (294 : Int64) = 0 ↔ tkV B n s = 14 := (lg_n (c := 294) (by have := wd_b (B := B) (n := n) (s := s); omega) (by decide)).trans tk_w14
theorem tw15 {B : Nat → Nat} {n s : Nat} : lg_cmp (lN (wdV B n s)) (498 : Int64) = 0 ↔ tkV B n s = 15 := (lg_n (c := 498) (by have := wd_b (B := B) (n := n) (s := s); omega) (by decide)).trans tk_w15
theorem tw16 {B : Nat → Nat} {n s : Nat} : lg_cmp (lN (wdV B n s)) (1476 : Int64) = 0 ↔ tkV B n s = 16 := (lg_n (c := 1476) (by have := wd_b (B := B) (n := n) (s := s); omega) (by decide)).trans tk_w16
theorem tw17 {B : Nat → Nat} {n s : Nat} : lg_cmp (lN (wdV B n s)) (14836 : Int64) = 0 ↔ tkV B n s = 17 := (lg_n (c := 14836) (by have := wd_b (B := B) (n := n) (s := s); omega) (by decide)).trans tk_w17
theorem opOk_dec {B : Nat → Nat} {n s : Nat} : tkV B n s < 10100 ∨ tkV B n s ≥ 10100 := by omega
theorem tk_top {B : Nat → Nat} {n s : Nat} : tkV B n s < 10100 := by
  by_cases hs : s < n
  · by_cases h : isL (B s) = true
    · rw [tk_L hs h]
      have := wordT_b (vN B s (endR B n s - s))
      omega
    · by_cases h2 : isD (B s) = true
      · rw [tk_D hs h2]
        split
        · have := num_b (B := B) (s := s) (L := endR B n s - s) (by assumption) (fun k hk => (isD_b (row_D hs h2 k (by omega))).2)
          omega
        · omega
      · rw [tk_X hs h h2]
        have := chT_b (B s)
        omega
  · rw [tk_n hs]; omega
theorem c_isValue {t : Nat} (ht : t < 10100) (σ : Sg) : (opOk t → f_X8_isValue (nI t) σ = true) ∧ (¬ opOk t → f_X8_isValue (nI t) σ = false) := by
  unfold f_X8_isValue opOk
  by_cases h1 : 100 ≤ t
  · rw [if_pos (show (100 : Int32) ≤ nI t from nI_le (a := 100) h1 (by omega))]
    exact ⟨fun _ => rfl, fun z => absurd (Or.inr ⟨h1, ht⟩) z⟩
  · rw [if_neg (show ¬ (100 : Int32) ≤ nI t from nI_ge (b := 100) (by omega) (by decide))]
    by_cases h2 : t < 9
    · rw [if_pos (show nI t < (9 : Int32) from nI_lt (b := 9) h2 (by decide))]
      exact ⟨fun z => by omega, fun _ => rfl⟩
    · rw [if_neg (show ¬ nI t < (9 : Int32) from nI_nlt (b := 9) (by omega) (by omega))]
      by_cases h3 : 13 < t
      · rw [if_pos (show (13 : Int32) < nI t from nI_lt (a := 13) h3 (by omega))]
        exact ⟨fun z => by omega, fun _ => rfl⟩
      · rw [if_neg (show ¬ (13 : Int32) < nI t from nI_nlt (a := 13) (by omega) (by decide))]
        exact ⟨fun _ => rfl, fun z => absurd (Or.inl ⟨by omega, by omega⟩) z⟩
theorem c_operand {t : Nat} (h : opOk t) (σ : Sg) : f_X8_operandOf (nI t) σ = opC t := by
  unfold f_X8_operandOf opC
  rcases h with ⟨t1, t2⟩ | ⟨t1, t2⟩
  · rw [if_pos (show nI t < (100 : Int32) from nI_lt (b := 100) (by omega) (by decide)), if_pos (by omega), show (10000 : Int32) + nI t = nI (10000 + t) from nI_add 10000 t, show nI (10000 + t) - 9 = nI (10000 + t - 9) from pk_sub (b := 9) (by omega)]
  · rw [if_neg (show ¬ nI t < (100 : Int32) from nI_nlt (b := 100) (by omega) (by omega)), if_neg (by omega), show nI t - 100 = nI (t - 100) from pk_sub (b := 100) (by omega)]
theorem m_factHere {B : Nat → Nat} {n j o : Nat} {lm : List Int32} {σ : Sg} (h : OKM B n j o lm σ) : f_X12_factHere σ = some (if 9 ≤ tkV B n (stN B n j) ∧ tkV B n (stN B n j) ≤ 13 then -(nI (tkV B n (stN B n j) - 8)) else 0) := by
  unfold f_X12_factHere
  rw [word_ok h, bnd_some]
  by_cases q9 : tkV B n (stN B n j) = 9
  · rw [if_neg (show ¬ ¬ lg_cmp (lN (wdV B n (stN B n j))) (251508 : Int64) = 0 from fun z => z (tw9.mpr q9)), if_pos (by omega), q9]; rfl
  rw [if_pos (show ¬ lg_cmp (lN (wdV B n (stN B n j))) (251508 : Int64) = 0 from fun z => q9 (tw9.mp z))]
  by_cases q10 : tkV B n (stN B n j) = 10
  · rw [if_neg (show ¬ ¬ lg_cmp (lN (wdV B n (stN B n j))) (659105223 : Int64) = 0 from fun z => z (tw10.mpr q10)), if_pos (by omega), q10]; rfl
  rw [if_pos (show ¬ lg_cmp (lN (wdV B n (stN B n j))) (659105223 : Int64) = 0 from fun z => q10 (tw10.mp z))]
  by_cases q11 : tkV B n (stN B n j) = 11
  · rw [if_neg (show ¬ ¬ lg_cmp (lN (wdV B n (stN B n j))) (6194 : Int64) = 0 from fun z => z (tw11.mpr q11)), if_pos (by omega), q11]; rfl
  rw [if_pos (show ¬ lg_cmp (lN (wdV B n (stN B n j))) (6194 : Int64) = 0 from fun z => q11 (tw11.mp z))]
  by_cases q12 : tkV B n (stN B n j) = 12
  · rw [if_neg (show ¬ ¬ lg_cmp (lN (wdV B n (stN B n j))) (460197 : Int64) = 0 from fun z => z (tw12.mpr q12)), if_pos (by omega), q12]; rfl
  rw [if_pos (show ¬ lg_cmp (lN (wdV B n (stN B n j))) (460197 : Int64) = 0 from fun z => q12 (tw12.mp z))]
  by_cases q13 : tkV B n (stN B n j) = 13
  · rw [if_neg (show ¬ ¬ lg_cmp (lN (wdV B n (stN B n j))) (492210354 : Int64) = 0 from fun z => z (tw13.mpr q13)), if_pos (by omega), q13]; rfl
  rw [if_pos (show ¬ lg_cmp (lN (wdV B n (stN B n j))) (492210354 : Int64) = 0 from fun z => q13 (tw13.mp z))]
  rw [if_neg (by omega)]
theorem m_factHere_w {B : Nat → Nat} {n p : Nat} {σ : Sg} (h : WRM B n p σ) : f_X12_factHere σ = some 0 := by
  unfold f_X12_factHere
  rw [word_w h, bnd_some, if_pos (by decide), if_pos (by decide), if_pos (by decide), if_pos (by decide), if_pos (by decide)]
theorem m_value_w {B : Nat → Nat} {n p : Nat} {σ : Sg} (h : WRM B n p σ) : f_X12_valueHere σ = some σ := by
  unfold f_X12_valueHere
  rw [m_factHere_w h, bnd_some, if_pos (by decide), if_pos (show ¬ σ 0 27 = 0 by rw [h.2.1]; decide)]
theorem OKM.u24 {B : Nat → Nat} {n j o : Nat} {lm : List Int32} {σ : Sg} (h : OKM B n j o lm σ) (v : Int32) : OKM B n j o lm (upS σ 0 24 v) := by
  obtain ⟨t, ⟨e27, e22, e23, e25⟩, c⟩ := h
  exact ⟨t.up (by decide) _, ⟨by rw [upS_nj (by omega)]; exact e27, by rw [upS_nj (by omega)]; exact e22, by rw [upS_nj (by omega)]; exact e23, by rw [upS_nj (by omega)]; exact e25⟩, c.mono (upS_nj (by omega)) (fun i _ => by rw [upS_ne (by decide)])⟩
theorem wM_1x {B : Nat → Nat} {n j o : Nat} {lm : List Int32} {σ : Sg} (h : OKM B n j o lm σ) : ∃ σ', f_X12_wants 1 σ = some σ' ∧ OKM B n (j + 1) o lm σ' ∧ frm σ σ' ∧ σ' 0 24 = σ 0 24 := by
  obtain ⟨t, ⟨e27, e22, e23, e25⟩, c⟩ := h
  obtain ⟨σ', p1, p2, p3, p4⟩ := m_token (σ := upS σ 0 27 0) (B := B) (n := n) (j := j + 1) (t.up (by decide) _) (by rw [upS_nj (by omega)]; exact e23)
  unfold f_X12_wants f_X12_wants_b17
  rw [if_neg (fun z => z e27), if_pos (show ¬ (1 : Int32) = 0 by decide), if_neg (show ¬ ¬ ((0 : Int32) = 0 ∨ (0 : Int32) = 1) by decide), lt_ap, upS_at, if_neg (show ¬ ¬ (0 : Int32) = 0 from fun z => z rfl), p1, bnd_some]
  exact ⟨σ', rfl, ⟨p4.tp (t.up (by decide) _), ⟨by rw [p4.2 27 (by decide) (by decide), upS_at], p2, p3, by rw [p4.2 25 (by decide) (by decide), upS_nj (by omega)]; exact e25⟩, c.mono (by rw [p4.2 26 (by decide) (by decide), upS_nj (by omega)]) (fun i _ => by rw [p4.1 1 (by decide), upS_ne (by decide)])⟩, (frm.u (by decide) (by decide)).tr p4.f, by rw [p4.2 24 (by decide) (by decide), upS_nj (by omega)]⟩
theorem m_num_l {B : Nat → Nat} {n j o : Nat} {lm : List Int32} (hD : ∀ k, stN B n j + k < eN B n (j + 1) → 48 ≤ B (stN B n j + k) ∧ B (stN B n j + k) ≤ 57) (h4 : eN B n (j + 1) - stN B n j ≤ 4) : ∀ d k m (σ : Sg), stN B n j + k + d = eN B n (j + 1) → d < m → OKM B n j o lm σ → σ 0 24 = nI (numV B (stN B n j) k) →
    ∃ σ', f_X12_number_l43 9999 1 m (nI (stN B n j + k)) σ = f_X12_number_b82 9999 1 σ' ∧ OKM B n j o lm σ' ∧ frm σ σ' ∧ σ' 0 24 = nI (numV B (stN B n j) (eN B n (j + 1) - stN B n j))
  | d, k, 0, σ, _, hm, _, _ => absurd hm (by omega)
  | d, k, m + 1, σ, hd, hm, h, e24 => by
    have hn := h.1.1
    have he := eN_le B n (j + 1)
    show ∃ σ', f_X12_number_b43 (f_X12_number_l43 9999 1 m) 9999 1 (nI (stN B n j + k)) σ = _ ∧ _
    unfold f_X12_number_b43
    rw [h.2.1.2.2.1]
    cases d with
    | zero =>
      rw [if_pos (nI_le (by omega) (by omega))]
      exact ⟨σ, rfl, h, frm.rf σ, by rw [e24, show eN B n (j + 1) - stN B n j = k by omega]⟩
    | succ d =>
      obtain ⟨d1, d2⟩ := hD k (by omega)
      rw [if_neg (nI_ge (by omega) (by omega)), if_neg (show ¬ (1 : Int32) = 0 by decide), rd_nI (by omega) (by decide), bnd_some, (h.1.2.1 _ (by omega)).2, e24, lt_ap, nI_1, show (10 : Int32) * nI (numV B (stN B n j) k) + nI (B (stN B n j + k)) - 48 = nI (numV B (stN B n j) (k + 1)) by
        rw [show (10 : Int32) * nI (numV B (stN B n j) k) = nI (10 * numV B (stN B n j) k) from pk_mul 10 _, nI_add, show (48 : Int32) = nI 48 from rfl, pk_sub (by omega)]
        exact congrArg nI (by show _ = 10 * numV B (stN B n j) k + (B (stN B n j + k) - 48); omega)]
      obtain ⟨σ', p1, p2, p3, p4⟩ := m_num_l hD h4 d (k + 1) m (upS σ 0 24 (nI (numV B (stN B n j) (k + 1)))) (by omega) (by omega) (h.u24 _) upS_at
      exact ⟨σ', p1, p2, (frm.u (by decide) (by decide)).tr p3, p4⟩
theorem m_value {B : Nat → Nat} {n j o : Nat} {lm : List Int32} {σ : Sg} (h : OKM B n j o lm σ) (hl : opOk (tkV B n (stN B n j)) → lm.length < 200) :
    (opOk (tkV B n (stN B n j)) ∧ ∃ σ', f_X12_valueHere σ = some σ' ∧ OKM B n (j + 1) o (lm ++ [opM (tkV B n (stN B n j))]) σ' ∧ frm σ σ') ∨ (¬ opOk (tkV B n (stN B n j)) ∧ ∃ σ', f_X12_valueHere σ = some σ' ∧ WRM B n (stN B n j) σ' ∧ frm σ σ') := by
  have hst := h.st
  have hn := h.1.1
  unfold f_X12_valueHere
  rw [m_factHere h, bnd_some]
  by_cases q : 9 ≤ tkV B n (stN B n j) ∧ tkV B n (stN B n j) ≤ 13
  · refine Or.inl ⟨Or.inl q, ?_⟩
    obtain ⟨σ1, p1, p2, p3⟩ := wM_1 h
    obtain ⟨σ2, q1, q2, q3⟩ := wrM p2 (hl (Or.inl q)) (opM (tkV B n (stN B n j)))
    have ng : ∀ c, c < 6 → 1 ≤ c → ¬ (0 : Int32) ≤ -(nI c) := by decide
    rw [if_pos q, if_neg (ng _ (by omega) (by omega)), p1, bnd_some]
    have eo : -(nI (tkV B n (stN B n j) - 8)) = opM (tkV B n (stN B n j)) := by unfold opM; rw [if_pos (by omega)]
    rw [eo, q1, bnd_some]
    exact ⟨σ2, rfl, q2, p3.tr q3⟩
  · rw [if_neg q, if_pos (by decide), if_neg (fun z => z h.2.1.1)]
    unfold f_X12_number f_X12_number_b32
    rw [byte_ok h, bnd_some]
    -- not a number
    have bad : ∀ σ0 : Sg, σ0 = σ → ∃ σ', (Option.bind (lt (upS σ0 0 24 0) fun σ2 => lt (σ2 0 22) fun vq3 => f_X12_number_l43 9999 0 400 vq3 σ2) fun σ2 => Option.bind (f_X12_writes (σ2 0 24) σ2) fun σ3 => some σ3) = some σ' ∧ WRM B n (stN B n j) σ' ∧ frm σ σ' := fun σ0 e0 => by
      subst e0
      obtain ⟨σ1, p1, p2, p3⟩ := wM_0 (h.u24 0)
      have e : f_X12_number_l43 9999 0 400 (nI (stN B n j)) (upS σ0 0 24 0) = some σ1 := by
        show f_X12_number_b43 (f_X12_number_l43 9999 0 399) 9999 0 (nI (stN B n j)) (upS σ0 0 24 0) = _
        unfold f_X12_number_b43 f_X12_number_b82
        rw [if_pos (show (0 : Int32) = 0 from rfl), p1, bnd_some]
        split
        · rfl
        · rw [if_pos (show (0 : Int32) = 0 from rfl)]
      rw [lt_ap, lt_ap, upS_nj (j := 22) (by omega), h.2.1.2.1, e, bnd_some, wrM_w p2, bnd_some]
      exact ⟨σ1, rfl, p2, (frm.u (by decide) (by decide)).tr p3⟩
    by_cases hs : stN B n j < n
    · have hb := (h.1.2.1 (stN B n j) (by omega)).1
      unfold chV
      rw [if_pos hs, m_isD hb]
      by_cases hD : isD (B (stN B n j)) = true
      · have hDk : ∀ k, stN B n j + k < eN B n (j + 1) → 48 ≤ B (stN B n j + k) ∧ B (stN B n j + k) ≤ 57 := fun k hk => isD_b (row_D hs hD k hk)
        have htk : tkV B n (stN B n j) = if eN B n (j + 1) - stN B n j ≤ 4 then 100 + numV B (stN B n j) (eN B n (j + 1) - stN B n j) else 26 := tk_D hs hD
        have hlt := (stN_lt hs).1
        have hen := eN_le B n (j + 1)
        rw [if_pos hD, h.2.1.2.1, h.2.1.2.2.1, pk_sub (by omega)]
        by_cases q4 : eN B n (j + 1) - stN B n j ≤ 4
        · rw [if_pos q4] at htk
          have hb9 := num_b (B := B) (s := stN B n j) q4 (fun k hk => (hDk k (by omega)).2)
          refine Or.inl ⟨Or.inr (by omega), ?_⟩
          obtain ⟨σ1, p1, p2, p3, p4⟩ := m_num_l hDk q4 (eN B n (j + 1) - stN B n j) 0 400 (upS σ 0 24 0) (by omega) (by omega) (h.u24 0) upS_at
          have p1' : f_X12_number_l43 9999 1 400 (nI (stN B n j)) (upS σ 0 24 0) = f_X12_number_b82 9999 1 σ1 := p1
          obtain ⟨σ2, r1, r2, r3, r4⟩ := wM_1x p2
          obtain ⟨σ3, s1, s2, s3⟩ := wrM r2 (hl (Or.inr (by omega))) (opM (tkV B n (stN B n j)))
          rw [if_neg (show ¬ (5 : Int32) ≤ nI (eN B n (j + 1) - stN B n j) from nI_ge (b := 5) (by omega) (by decide)), lt_ap, lt_ap, upS_nj (j := 22) (by omega), h.2.1.2.1, p1']
          unfold f_X12_number_b82
          have eo : σ2 0 24 = opM (tkV B n (stN B n j)) := by
            rw [r4, p4, htk]
            unfold opM
            rw [if_neg (by omega), Nat.add_sub_cancel_left]
          rw [if_neg (show ¬ (1 : Int32) = 0 by decide), p4, if_neg (show ¬ (9999 : Int32) < nI (numV B (stN B n j) (eN B n (j + 1) - stN B n j)) from nI_nlt (a := 9999) (by omega) (by decide)), r1, bnd_some, bnd_some, eo, s1, bnd_some]
          exact ⟨σ3, rfl, s2, (frm.u (by decide) (by decide)).tr (p3.tr (r3.tr s3))⟩
        · rw [if_neg q4] at htk
          rw [if_pos (show (5 : Int32) ≤ nI (eN B n (j + 1) - stN B n j) from nI_le (a := 5) (by omega) (by omega))]
          exact Or.inr ⟨fun z => by unfold opOk at z; omega, bad σ rfl⟩
      · rw [if_neg hD]
        refine Or.inr ⟨fun z => ?_, bad σ rfl⟩
        rcases z with z | z
        · exact q z
        · by_cases hL : isL (B (stN B n j)) = true
          · rw [tk_L hs hL] at z
            have := wordT_b (vN B (stN B n j) (endR B n (stN B n j) - stN B n j))
            omega
          · rw [tk_X hs hL hD] at z
            have := chT_b (B (stN B n j))
            omega
    · unfold chV
      rw [if_neg hs, m_isDn, if_neg (show ¬ false = true by decide)]
      refine Or.inr ⟨fun z => ?_, bad σ rfl⟩
      rcases z with z | z
      · exact q z
      · rw [tk_n hs] at z
        omega
