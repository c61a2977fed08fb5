/-! the parsers' states, and their small steps -/
def codM (l : List Int32) (σ : Sg) : Prop := σ 0 26 = nI l.length ∧ ∀ i, i < l.length → σ 1 (119 + i) = l.getD i 0
def codC (l : List Int32) (σ : Sg) : Prop := σ 71 1 = nI l.length ∧ ∀ i, i < l.length → σ 76 i = l.getD i 0
def OKM (B : Nat → Nat) (n j o : Nat) (lm : List Int32) (σ : Sg) : Prop := tpM B n σ ∧ (σ 0 27 = 0 ∧ σ 0 22 = nI (stN B n j) ∧ σ 0 23 = nI (eN B n (j + 1)) ∧ σ 0 25 = nI o) ∧ codM lm σ
def OKC (B : Nat → Nat) (n la j : Nat) (lc : List Int32) (σ : Sg) : Prop := TKT B n la σ ∧ j ≤ la ∧ (σ 67 6 = -1 ∧ σ 67 5 = nI j) ∧ codC lc σ ∧ ∃ r, r ≤ 8 ∧ σ 71 0 = nI r
def WRM (B : Nat → Nat) (n p : Nat) (σ : Sg) : Prop := tpM B n σ ∧ σ 0 27 = 1 ∧ σ 0 22 = nI p ∧ ∃ e, p ≤ e ∧ e ≤ n ∧ σ 0 23 = nI e
def WRC (B : Nat → Nat) (n la p : Nat) (σ : Sg) : Prop := TKT B n la σ ∧ p ≤ n ∧ σ 67 6 = nI p ∧ (∃ j, j ≤ la ∧ σ 67 5 = nI j) ∧ (∃ c, c ≤ 200 ∧ σ 71 1 = nI c) ∧ ∃ r, r ≤ 8 ∧ σ 71 0 = nI r
def frm (σ σ' : Sg) : Prop := (∀ p, p ≠ 0 → p ≠ 1 → σ' p = σ p) ∧ (∀ i, i < 22 ∨ 28 ≤ i → σ' 0 i = σ 0 i) ∧ ∀ i, i < 119 ∨ 319 ≤ i → σ' 1 i = σ 1 i
def frc (σ σ' : Sg) : Prop := (∀ p, p ≠ 67 → p ≠ 71 → p ≠ 76 → σ' p = σ p) ∧ (∀ i, i ≠ 5 → i ≠ 6 → σ' 67 i = σ 67 i) ∧ σ' 71 0 = σ 71 0
theorem frm.rf (σ : Sg) : frm σ σ := ⟨fun _ _ _ => rfl, fun _ _ => rfl, fun _ _ => rfl⟩
theorem frc.rf (σ : Sg) : frc σ σ := ⟨fun _ _ _ _ => rfl, fun _ _ _ => rfl, rfl⟩
theorem frm.tr {a b c : Sg} (h : frm a b) (g : frm b c) : frm a c := ⟨fun p x y => (g.1 p x y).trans (h.1 p x y), fun i x => (g.2.1 i x).trans (h.2.1 i x), fun i x => (g.2.2 i x).trans (h.2.2 i x)⟩
theorem frc.tr {a b c : Sg} (h : frc a b) (g : frc b c) : frc a c := ⟨fun p x y z => (g.1 p x y z).trans (h.1 p x y z), fun i x y => (g.2.1 i x y).trans (h.2.1 i x y), g.2.2.trans h.2.2⟩
theorem tkF.f {σ σ' : Sg} (h : tkF σ σ') : frm σ σ' := ⟨fun p a _ => h.1 p a, fun i hi => h.2 i (by omega) (by omega), fun i _ => by rw [h.1 1 (by decide)]⟩
theorem frm.u {σ : Sg} {i : Nat} {v : Int32} (h : 22 ≤ i) (h2 : i < 28) : frm σ (upS σ 0 i v) := ⟨fun p a _ => upS_ne a, fun j hj => upS_nj (by omega), fun j _ => by rw [upS_ne (by decide)]⟩
theorem frc.u {σ : Sg} {i : Nat} {v : Int32} (h : i = 5 ∨ i = 6) : frc σ (upS σ 67 i v) := ⟨fun p a _ _ => upS_ne a, fun j a b => upS_nj (by omega), by rw [upS_ne (by decide)]⟩
theorem codM.mono {l : List Int32} {σ σ' : Sg} (h : codM l σ) (e0 : σ' 0 26 = σ 0 26) (e1 : ∀ i, 119 ≤ i → σ' 1 i = σ 1 i) : codM l σ' := ⟨e0.trans h.1, fun i hi => (e1 _ (by omega)).trans (h.2 i hi)⟩
theorem codC.mono {l : List Int32} {σ σ' : Sg} (h : codC l σ) (e0 : σ' 71 1 = σ 71 1) (e1 : σ' 76 = σ 76) : codC l σ' := ⟨e0.trans h.1, fun i hi => by rw [e1]; exact h.2 i hi⟩
theorem TKT.mono {B : Nat → Nat} {n la : Nat} {σ σ' : Sg} (h : TKT B n la σ) (e1 : σ' 69 = σ 69) (e2 : σ' 70 = σ 70) (e3 : σ' 67 4 = σ 67 4) : TKT B n la σ' := by
  unfold TKT
  rw [e1, e2, e3]
  exact h
theorem getD_snoc (l : List Int32) (x : Int32) {i : Nat} (h : i < l.length + 1) : (l ++ [x]).getD i 0 = if i < l.length then l.getD i 0 else x := by
  by_cases q : i < l.length
  · rw [if_pos q, List.getD_eq_getElem?_getD, List.getD_eq_getElem?_getD, List.getElem?_append_left q]
  · rw [if_neg q, show i = l.length by omega, List.getD_eq_getElem?_getD, List.getElem?_append_right (Nat.le_refl _), Nat.sub_self]
    rfl
theorem OKM.st {B : Nat → Nat} {n j o : Nat} {lm : List Int32} {σ : Sg} (h : OKM B n j o lm σ) : stN B n j ≤ n := (stN_le B n j).2
theorem b2i_01 (b : Bool) : b2i b = 0 ∨ b2i b = 1 := by cases b <;> decide
/-! the reference -/
theorem wM_w {B : Nat → Nat} {n p : Nat} {σ : Sg} (h : WRM B n p σ) (x : Int32) : ∃ σ', f_X12_wants x σ = some σ' ∧ WRM B n p σ' ∧ frm σ σ' := by
  obtain ⟨t, e27, e22, e, e1, e2, e23⟩ := h
  unfold f_X12_wants f_X12_wants_b17
  rw [if_pos (show ¬ σ 0 27 = 0 by rw [e27]; decide), if_neg (show ¬ ¬ ((1 : Int32) = 0 ∨ (1 : Int32) = 1) by decide), lt_ap, upS_at, if_pos (show ¬ (1 : Int32) = 0 by decide)]
  exact ⟨_, rfl, ⟨t.up (by decide) _, upS_at, by rw [upS_nj (by omega)]; exact e22, e, e1, e2, by rw [upS_nj (by omega)]; exact e23⟩, frm.u (by decide) (by decide)⟩
theorem wM_0 {B : Nat → Nat} {n j o : Nat} {lm : List Int32} {σ : Sg} (h : OKM B n j o lm σ) : ∃ σ', f_X12_wants 0 σ = some σ' ∧ WRM B n (stN B n j) σ' ∧ frm σ σ' := by
  obtain ⟨t, ⟨e27, e22, e23, e25⟩, c⟩ := h
  have a := stN_le B n j
  have b : stN B n j ≤ eN B n (j + 1) := by
    by_cases q : stN B n j < n
    · exact Nat.le_of_lt (stN_lt q).1
    · rw [(stN_end (B := B) (n := n) (j := j) (by omega)).2]; exact a.2
  unfold f_X12_wants f_X12_wants_b17
  rw [if_neg (fun z => z e27), if_neg (show ¬ ¬ (0 : Int32) = 0 from fun z => z rfl), if_neg (show ¬ ¬ ((1 : Int32) = 0 ∨ (1 : Int32) = 1) by decide), lt_ap, upS_at, if_pos (show ¬ (1 : Int32) = 0 by decide)]
  exact ⟨_, rfl, ⟨t.up (by decide) _, upS_at, by rw [upS_nj (by omega)]; exact e22, _, b, eN_le B n _, by rw [upS_nj (by omega)]; exact e23⟩, frm.u (by decide) (by decide)⟩
theorem wM_1 {B : Nat → Nat} {n j o : Nat} {lm : List Int32} {σ : Sg} (h : OKM B n j o lm σ) : ∃ σ', f_X12_wants 1 σ = some σ' ∧ OKM B n (j + 1) o lm σ' ∧ frm σ σ' := by
  obtain ⟨t, ⟨e27, e22, e23, e25⟩, c⟩ := h
  obtain ⟨σ', p1, p2, p3, p4⟩ := m_token (σ := upS σ 0 27 0) (B := B) (n := n) (j := j + 1) (t.up (by decide) _) (by rw [upS_nj (by omega)]; exact e23)
  unfold f_X12_wants f_X12_wants_b17
  rw [if_neg (fun z => z e27), if_pos (show ¬ (1 : Int32) = 0 by decide), if_neg (show ¬ ¬ ((0 : Int32) = 0 ∨ (0 : Int32) = 1) by decide), lt_ap, upS_at, if_neg (show ¬ ¬ (0 : Int32) = 0 from fun z => z rfl), p1, bnd_some]
  refine ⟨σ', rfl, ⟨p4.tp (t.up (by decide) _), ⟨by rw [p4.2 27 (by decide) (by decide), upS_at], p2, p3, by rw [p4.2 25 (by decide) (by decide), upS_nj (by omega)]; exact e25⟩, c.mono (by rw [p4.2 26 (by decide) (by decide), upS_nj (by omega)]) (fun i _ => by rw [p4.1 1 (by decide), upS_ne (by decide)])⟩, (frm.u (by decide) (by decide)).tr p4.f⟩
theorem wrM {B : Nat → Nat} {n j o : Nat} {lm : List Int32} {σ : Sg} (h : OKM B n j o lm σ) (hl : lm.length < 200) (x : Int32) : ∃ σ', f_X12_writes x σ = some σ' ∧ OKM B n j o (lm ++ [x]) σ' ∧ frm σ σ' := by
  obtain ⟨t, ⟨e27, e22, e23, e25⟩, c1, c2⟩ := h
  unfold f_X12_writes
  rw [if_neg (fun z => z e27), c1, show (119 : Int32) + nI lm.length = nI (119 + lm.length) from nI_add 119 _, wr_nI (by omega) (by decide), bnd_some, upS_ne (q := 0) (by decide), c1, nI_1, lt_ap]
  refine ⟨_, rfl, ⟨⟨t.1, fun i hi => by rw [upS_ne (by decide), upS_ne (by decide)]; exact t.2.1 i hi, by rw [upS_nj (by omega), upS_ne (by decide)]; exact t.2.2⟩, ⟨by rw [upS_nj (by omega), upS_ne (by decide)]; exact e27, by rw [upS_nj (by omega), upS_ne (by decide)]; exact e22, by rw [upS_nj (by omega), upS_ne (by decide)]; exact e23, by rw [upS_nj (by omega), upS_ne (by decide)]; exact e25⟩, by rw [upS_at, List.length_append]; rfl, fun i hi => ?_⟩, fun p a b => by rw [upS_ne a, upS_ne b], fun i hi => by rw [upS_nj (by omega), upS_ne (by decide)], fun i hi => by rw [upS_ne (by decide), upS_nj (by omega)]⟩
  rw [List.length_append] at hi
  have hi' : i < lm.length + 1 := hi
  rw [getD_snoc _ _ hi', upS_ne (q := 1) (by decide)]
  by_cases q : i < lm.length
  · rw [if_pos q, upS_nj (by omega)]; exact c2 i q
  · rw [if_neg q, show i = lm.length by omega, upS_at]
theorem wrM_w {B : Nat → Nat} {n p : Nat} {σ : Sg} (h : WRM B n p σ) (x : Int32) : f_X12_writes x σ = some σ := by
  unfold f_X12_writes
  rw [if_pos (show ¬ σ 0 27 = 0 by rw [h.2.1]; decide)]
theorem word_ok {B : Nat → Nat} {n j o : Nat} {lm : List Int32} {σ : Sg} (h : OKM B n j o lm σ) : f_X12_word σ = some (lN (wdV B n (stN B n j))) := m_word h.1 h.st h.2.1.1 h.2.1.2.1 h.2.1.2.2.1
theorem word_w {B : Nat → Nat} {n p : Nat} {σ : Sg} (h : WRM B n p σ) : f_X12_word σ = some 0 := by
  obtain ⟨t, e27, e22, e, e1, e2, e23⟩ := h
  exact m_word_w t e1 e2 (by rw [e27]; decide) e22 e23
def chV (B : Nat → Nat) (n s : Nat) : Int32 := if s < n then nI (B s) else -1
theorem byte_ok {B : Nat → Nat} {n j o : Nat} {lm : List Int32} {σ : Sg} (h : OKM B n j o lm σ) : f_X12_byteAt (σ 0 22) σ = some (chV B n (stN B n j)) := by
  have := h.st
  have := h.1.1
  rw [h.2.1.2.1]
  exact m_byte h.1 (by omega)
theorem ch_20 {B : Nat → Nat} {n s : Nat} (hB : ∀ i, i < 200 → B i < 256) (hn : n ≤ 200) : chV B n s = 59 ↔ tkV B n s = 20 := by
  unfold chV
  by_cases hs : s < n
  · have hb := hB s (by omega)
    rw [if_pos hs, show nI (B s) = (59 : Int32) ↔ B s = 59 from nI_eq (b := 59) (by omega) (by decide)]
    by_cases h : isL (B s) = true
    · rw [tk_L hs h]
      have := wordT_b (vN B s (endR B n s - s))
      have := isL_b h
      exact ⟨fun z => by omega, fun z => by omega⟩
    · by_cases h2 : isD (B s) = true
      · rw [tk_D hs h2]
        have := isD_b h2
        refine ⟨fun z => by omega, fun z => ?_⟩
        split at z <;> omega
      · rw [tk_X hs h h2]
        unfold chT
        refine ⟨fun z => by rw [z]; decide, fun z => ?_⟩
        (repeat' split at z) <;> omega
  · rw [if_neg hs, tk_n hs]
    exact ⟨fun z => absurd z (by decide), fun z => absurd z (by decide)⟩
theorem ch_21 {B : Nat → Nat} {n s : Nat} (hB : ∀ i, i < 200 → B i < 256) (hn : n ≤ 200) : chV B n s = 40 ↔ tkV B n s = 21 := by
  unfold chV
  by_cases hs : s < n
  · have hb := hB s (by omega)
    rw [if_pos hs, show nI (B s) = (40 : Int32) ↔ B s = 40 from nI_eq (b := 40) (by omega) (by decide)]
    by_cases h : isL (B s) = true
    · rw [tk_L hs h]
      have := wordT_b (vN B s (endR B n s - s))
      have := isL_b h
      exact ⟨fun z => by omega, fun z => by omega⟩
    · by_cases h2 : isD (B s) = true
      · rw [tk_D hs h2]
        have := isD_b h2
        refine ⟨fun z => by omega, fun z => ?_⟩
        split at z <;> omega
      · rw [tk_X hs h h2]
        unfold chT
        refine ⟨fun z => by rw [z]; decide, fun z => ?_⟩
        (repeat' split at z) <;> omega
  · rw [if_neg hs, tk_n hs]
    exact ⟨fun z => absurd z (by decide), fun z => absurd z (by decide)⟩
theorem ch_22 {B : Nat → Nat} {n s : Nat} (hB : ∀ i, i < 200 → B i < 256) (hn : n ≤ 200) : chV B n s = 41 ↔ tkV B n s = 22 := by
  unfold chV
  by_cases hs : s < n
  · have hb := hB s (by omega)
    rw [if_pos hs, show nI (B s) = (41 : Int32) ↔ B s = 41 from nI_eq (b := 41) (by omega) (by decide)]
    by_cases h : isL (B s) = true
    · rw [tk_L hs h]
      have := wordT_b (vN B s (endR B n s - s))
      have := isL_b h
      exact ⟨fun z => by omega, fun z => by omega⟩
    · by_cases h2 : isD (B s) = true
      · rw [tk_D hs h2]
        have := isD_b h2
        refine ⟨fun z => by omega, fun z => ?_⟩
        split at z <;> omega
      · rw [tk_X hs h h2]
        unfold chT
        refine ⟨fun z => by rw [z]; decide, fun z => ?_⟩
        (repeat' split at z) <;> omega
  · rw [if_neg hs, tk_n hs]
    exact ⟨fun z => absurd z (by decide), fun z => absurd z (by decide)⟩
theorem ch_23 {B : Nat → Nat} {n s : Nat} (hB : ∀ i, i < 200 → B i < 256) (hn : n ≤ 200) : chV B n s = 60 ↔ tkV B n s = 23 := by
  unfold chV
  by_cases hs : s < n
  · have hb := hB s (by omega)
    rw [if_pos hs, show nI (B s) = (60 : Int32) ↔ B s = 60 from nI_eq (b := 60) (by omega) (by decide)]
    by_cases h : isL (B s) = true
    · rw [tk_L hs h]
      have := wordT_b (vN B s (endR B n s - s))
      have := isL_b h
      exact ⟨fun z => by omega, fun z => by omega⟩
    · by_cases h2 : isD (B s) = true
      · rw [tk_D hs h2]
        have := isD_b h2
        refine ⟨fun z => by omega, fun z => ?_⟩
        split at z <;> omega
      · rw [tk_X hs h h2]
        unfold chT
        refine ⟨fun z => by rw [z]; decide, fun z => ?_⟩
        (repeat' split at z) <;> omega
  · rw [if_neg hs, tk_n hs]
    exact ⟨fun z => absurd z (by decide), fun z => absurd z (by decide)⟩
theorem ch_24 {B : Nat → Nat} {n s : Nat} (hB : ∀ i, i < 200 → B i < 256) (hn : n ≤ 200) : chV B n s = 61 ↔ tkV B n s = 24 := by
  unfold chV
  by_cases hs : s < n
  · have hb := hB s (by omega)
    rw [if_pos hs, show nI (B s) = (61 : Int32) ↔ B s = 61 from nI_eq (b := 61) (by omega) (by decide)]
    by_cases h : isL (B s) = true
    · rw [tk_L hs h]
      have := wordT_b (vN B s (endR B n s - s))
      have := isL_b h
      exact ⟨fun z => by omega, fun z => by omega⟩
    · by_cases h2 : isD (B s) = true
      · rw [tk_D hs h2]
        have := isD_b h2
        refine ⟨fun z => by omega, fun z => ?_⟩
        split at z <;> omega
      · rw [tk_X hs h h2]
        unfold chT
        refine ⟨fun z => by rw [z]; decide, fun z => ?_⟩
        (repeat' split at z) <;> omega
  · rw [if_neg hs, tk_n hs]
    exact ⟨fun z => absurd z (by decide), fun z => absurd z (by decide)⟩
theorem ch_25 {B : Nat → Nat} {n s : Nat} (hB : ∀ i, i < 200 → B i < 256) (hn : n ≤ 200) : chV B n s = 62 ↔ tkV B n s = 25 := by
  unfold chV
  by_cases hs : s < n
  · have hb := hB s (by omega)
    rw [if_pos hs, show nI (B s) = (62 : Int32) ↔ B s = 62 from nI_eq (b := 62) (by omega) (by decide)]
    by_cases h : isL (B s) = true
    · rw [tk_L hs h]
      have := wordT_b (vN B s (endR B n s - s))
      have := isL_b h
      exact ⟨fun z => by omega, fun z => by omega⟩
    · by_cases h2 : isD (B s) = true
      · rw [tk_D hs h2]
        have := isD_b h2
        refine ⟨fun z => by omega, fun z => ?_⟩
        split at z <;> omega
      · rw [tk_X hs h h2]
        unfold chT
        refine ⟨fun z => by rw [z]; decide, fun z => ?_⟩
        (repeat' split at z) <;> omega
  · rw [if_neg hs, tk_n hs]
    exact ⟨fun z => absurd z (by decide), fun z => absurd z (by decide)⟩
/-! the class -/
theorem tokC {B : Nat → Nat} {n la j : Nat} {lc : List Int32} {σ : Sg} (h : OKC B n la j lc σ) : f_X8_token σ = some (nI (tkV B n (stN B n j))) := by
  obtain ⟨t, hj, ⟨e6, e5⟩, -⟩ := h
  obtain ⟨hn, hl, -, -, tt, -⟩ := t
  unfold f_X8_token
  rw [e5, rd_nI (by omega) (by decide), bnd_some, (tt j hj).1]
theorem tokC_w {B : Nat → Nat} {n la p : Nat} {σ : Sg} (h : WRC B n la p σ) : ∃ j, j ≤ la ∧ f_X8_token σ = some (nI (tkV B n (stN B n j))) := by
  obtain ⟨t, hp, e6, ⟨j, hj, e5⟩, -⟩ := h
  obtain ⟨hn, hl, -, -, tt, -⟩ := t
  refine ⟨j, hj, ?_⟩
  unfold f_X8_token
  rw [e5, rd_nI (by omega) (by decide), bnd_some, (tt j hj).1]
theorem stillC {B : Nat → Nat} {n la j : Nat} {lc : List Int32} {σ : Sg} (h : OKC B n la j lc σ) : f_X8_isStill σ = true := by
  unfold f_X8_isStill
  rw [if_neg (fun z => z h.2.2.1.1)]
theorem m1_p {p : Nat} (h : p ≤ 200) : ¬ nI p = (-1 : Int32) := ne_m1 (by omega)
theorem stillC_w {B : Nat → Nat} {n la p : Nat} {σ : Sg} (h : WRC B n la p σ) : f_X8_isStill σ = false := by
  unfold f_X8_isStill
  rw [h.2.2.1, if_pos (m1_p (by have := h.1.1; have := h.2.1; omega))]
theorem pC_1 {B : Nat → Nat} {n la j : Nat} {lc : List Int32} {σ : Sg} (h : OKC B n la j lc σ) (hj : j < la) : ∃ σ', f_X8_pass 1 σ = some σ' ∧ OKC B n la (j + 1) lc σ' ∧ frc σ σ' := by
  obtain ⟨t, -, ⟨e6, e5⟩, c, r⟩ := h
  have hn := t.1
  have hla := t.2.1
  unfold f_X8_pass
  rw [if_pos e6, if_pos (show ¬ (1 : Int32) = 0 by decide), t.2.2.2.2.2, e5, if_neg (nI_ge (by omega) (by omega)), lt_ap, nI_1]
  exact ⟨_, rfl, ⟨t.mono (upS_ne (by decide)) (upS_ne (by decide)) (upS_nj (by omega)), hj, ⟨by rw [upS_nj (by omega)]; exact e6, upS_at⟩, c.mono (by rw [upS_ne (by decide)]) (upS_ne (by decide)), by rw [upS_ne (by decide)]; exact r⟩, frc.u (Or.inl rfl)⟩
theorem pC_0 {B : Nat → Nat} {n la j : Nat} {lc : List Int32} {σ : Sg} (h : OKC B n la j lc σ) (hl : lc.length ≤ 200) : ∃ σ', f_X8_pass 0 σ = some σ' ∧ WRC B n la (stN B n j) σ' ∧ frc σ σ' := by
  obtain ⟨t, hj, ⟨e6, e5⟩, c, r⟩ := h
  have hn := t.1
  have hla := t.2.1
  unfold f_X8_pass
  rw [if_pos e6, if_neg (show ¬ ¬ (0 : Int32) = 0 from fun z => z rfl), e5, rd_nI (by omega) (by decide), bnd_some, lt_ap, (t.2.2.2.2.1 j hj).2]
  exact ⟨_, rfl, ⟨t.mono (upS_ne (by decide)) (upS_ne (by decide)) (upS_nj (by omega)), (stN_le B n j).2, upS_at, ⟨j, hj, by rw [upS_nj (by omega)]; exact e5⟩, ⟨lc.length, hl, by rw [upS_ne (by decide)]; exact c.1⟩, by rw [upS_ne (by decide)]; exact r⟩, frc.u (Or.inr rfl)⟩
theorem pC_w {B : Nat → Nat} {n la p : Nat} {σ : Sg} (h : WRC B n la p σ) (x : Int32) : f_X8_pass x σ = some σ := by
  unfold f_X8_pass
  rw [h.2.2.1, if_neg (m1_p (by have := h.1.1; have := h.2.1; omega))]
theorem aC {B : Nat → Nat} {n la j : Nat} {lc : List Int32} {σ : Sg} (h : OKC B n la j lc σ) (hl : lc.length < 200) (x : Int32) : ∃ σ', f_X9_addCode x σ = some σ' ∧ OKC B n la j (lc ++ [x]) σ' ∧ frc σ σ' := by
  obtain ⟨t, hj, ⟨e6, e5⟩, ⟨c1, c2⟩, r⟩ := h
  unfold f_X9_addCode
  rw [c1, if_neg (show ¬ (200 : Int32) ≤ nI lc.length from nI_ge (b := 200) hl (by decide)), wr_nI hl (by decide), bnd_some, upS_ne (q := 71) (by decide), c1, nI_1, lt_ap]
  refine ⟨_, rfl, ⟨t.mono (by rw [upS_ne (by decide), upS_ne (by decide)]) (by rw [upS_ne (by decide), upS_ne (by decide)]) (by rw [upS_ne (by decide), upS_ne (by decide)]), hj, ⟨by rw [upS_ne (by decide), upS_ne (by decide)]; exact e6, by rw [upS_ne (by decide), upS_ne (by decide)]; exact e5⟩, ⟨by rw [upS_at, List.length_append]; rfl, fun i hi => ?_⟩, by rw [upS_nj (by omega), upS_ne (by decide)]; exact r⟩, fun p a b e => by rw [upS_ne b, upS_ne e], fun i a b => by rw [upS_ne (by decide), upS_ne (by decide)], by rw [upS_nj (by omega), upS_ne (by decide)]⟩
  rw [List.length_append] at hi
  have hi' : i < lc.length + 1 := hi
  rw [getD_snoc _ _ hi', upS_ne (q := 76) (by decide)]
  by_cases q : i < lc.length
  · rw [if_pos q, upS_nj (by omega)]; exact c2 i q
  · rw [if_neg q, show i = lc.length by omega, upS_at]
theorem aC_w {B : Nat → Nat} {n la p : Nat} {σ : Sg} (h : WRC B n la p σ) (x : Int32) : ∃ σ', f_X9_addCode x σ = some σ' ∧ WRC B n la p σ' ∧ frc σ σ' := by
  obtain ⟨t, hp, e6, ⟨j, hj, e5⟩, ⟨c, hc, e1⟩, r⟩ := id h
  unfold f_X9_addCode
  rw [e1]
  by_cases q : 200 ≤ c
  · rw [if_pos (show (200 : Int32) ≤ nI c from nI_le (a := 200) q (by omega))]
    exact ⟨σ, rfl, h, frc.rf σ⟩
  · rw [if_neg (show ¬ (200 : Int32) ≤ nI c from nI_ge (b := 200) (by omega) (by decide)), wr_nI (by omega) (by decide), bnd_some, upS_ne (q := 71) (by decide), e1, nI_1, lt_ap]
    exact ⟨_, rfl, ⟨t.mono (by rw [upS_ne (by decide), upS_ne (by decide)]) (by rw [upS_ne (by decide), upS_ne (by decide)]) (by rw [upS_ne (by decide), upS_ne (by decide)]), hp, by rw [upS_ne (by decide), upS_ne (by decide)]; exact e6, ⟨j, hj, by rw [upS_ne (by decide), upS_ne (by decide)]; exact e5⟩, ⟨c + 1, by omega, upS_at⟩, by rw [upS_nj (by omega), upS_ne (by decide)]; exact r⟩, fun p a b e => by rw [upS_ne b, upS_ne e], fun i a b => by rw [upS_ne (by decide), upS_ne (by decide)], by rw [upS_nj (by omega), upS_ne (by decide)]⟩
