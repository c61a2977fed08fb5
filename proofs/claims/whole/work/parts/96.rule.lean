/-! one rule: both parsers in step -/
def sE (en : Nat → Nat) (q : Nat) : Nat := if q = 0 then 0 else en (q - 1)
def RuLq (q : Nat) (lm lc : List Int32) (kd ds en fc tc : Nat → Nat) (φ : Nat → Fct → Bool) (σM σC : Sg) : Prop :=
  (kd q < 6 ∧ ds q ≤ 2) ∧ (σM 1 (95 + 3 * q) = nI (kd q) ∧ σM 1 (95 + 3 * q + 1) = nI (ds q) ∧ σM 1 (95 + 3 * q + 2) = nI (en q)) ∧ (σC 72 q = nI (kd q) ∧ σC 73 q = nI (ds q) ∧ σC 74 q = nI (fc q) ∧ σC 75 q = nI (tc q)) ∧
  ∃ l c, Sem l c (φ q) ∧ (en q = sE en q + l.length ∧ en q ≤ lm.length ∧ ∀ i, i < l.length → lm.getD (sE en q + i) 0 = l.getD i 0) ∧ (tc q = fc q + c.length ∧ tc q ≤ lc.length ∧ ∀ i, i < c.length → lc.getD (fc q + i) 0 = c.getD i 0)
/-- so many rules are read, alike on both sides -/
def RuL (r : Nat) (lm lc : List Int32) (kd ds en fc tc : Nat → Nat) (φ : Nat → Fct → Bool) (σM σC : Sg) : Prop := r ≤ 8 ∧ σM 1 1 = nI r ∧ σC 71 0 = nI r ∧ lm.length = sE en r ∧ ∀ q, q < r → RuLq q lm lc kd ds en fc tc φ σM σC
def frM (σ σ' : Sg) : Prop := (∀ p, p ≠ 0 → p ≠ 1 → σ' p = σ p) ∧ (∀ i, i < 22 ∨ 28 ≤ i → σ' 0 i = σ 0 i) ∧ ∀ i, i ≠ 1 → (i < 95 ∨ 319 ≤ i) → σ' 1 i = σ 1 i
def frC (σ σ' : Sg) : Prop := (∀ p, p ≠ 67 → (p < 71 ∨ 76 < p) → σ' p = σ p) ∧ ∀ i, i ≠ 5 → i ≠ 6 → σ' 67 i = σ 67 i
theorem frM.rf (σ : Sg) : frM σ σ := ⟨fun _ _ _ => rfl, fun _ _ => rfl, fun _ _ _ => rfl⟩
theorem frC.rf (σ : Sg) : frC σ σ := ⟨fun _ _ _ => rfl, fun _ _ _ => rfl⟩
theorem frM.tr {a b c : Sg} (h : frM a b) (g : frM b c) : frM a c := ⟨fun p x y => (g.1 p x y).trans (h.1 p x y), fun i x => (g.2.1 i x).trans (h.2.1 i x), fun i x y => (g.2.2 i x y).trans (h.2.2 i x y)⟩
theorem frC.tr {a b c : Sg} (h : frC a b) (g : frC b c) : frC a c := ⟨fun p x y => (g.1 p x y).trans (h.1 p x y), fun i x y => (g.2 i x y).trans (h.2 i x y)⟩
theorem frm.f {σ σ' : Sg} (h : frm σ σ') : frM σ σ' := ⟨h.1, h.2.1, fun i _ hi => h.2.2 i (by omega)⟩
theorem frc.f {σ σ' : Sg} (h : frc σ σ') : frC σ σ' := ⟨fun p a b => h.1 p a (by omega) (by omega), h.2.1⟩
section PR
variable {B : Nat → Nat} {n la : Nat}
theorem m_kind {j o : Nat} {lm : List Int32} {σ : Sg} (h : OKM B n j o lm σ) : f_X12_kindHere σ = some (if tkV B n (stN B n j) ≤ 5 then nI (tkV B n (stN B n j)) else -1) := by
  unfold f_X12_kindHere
  rw [word_ok h, bnd_some]
  by_cases q0 : tkV B n (stN B n j) = 0
  · rw [if_neg (show ¬ ¬ lg_cmp (lN (wdV B n (stN B n j))) (370309 : Int64) = 0 from fun z => z (tw0.mpr q0)), if_pos (by omega), q0]; rfl
  rw [if_pos (show ¬ lg_cmp (lN (wdV B n (stN B n j))) (370309 : Int64) = 0 from fun z => q0 (tw0.mp z))]
  by_cases q1 : tkV B n (stN B n j) = 1
  · rw [if_neg (show ¬ ¬ lg_cmp (lN (wdV B n (stN B n j))) (18596 : Int64) = 0 from fun z => z (tw1.mpr q1)), if_pos (by omega), q1]; rfl
  rw [if_pos (show ¬ lg_cmp (lN (wdV B n (stN B n j))) (18596 : Int64) = 0 from fun z => q1 (tw1.mp z))]
  by_cases q2 : tkV B n (stN B n j) = 2
  · rw [if_neg (show ¬ ¬ lg_cmp (lN (wdV B n (stN B n j))) (8554201 : Int64) = 0 from fun z => z (tw2.mpr q2)), if_pos (by omega), q2]; rfl
  rw [if_pos (show ¬ lg_cmp (lN (wdV B n (stN B n j))) (8554201 : Int64) = 0 from fun z => q2 (tw2.mp z))]
  by_cases q3 : tkV B n (stN B n j) = 3
  · rw [if_neg (show ¬ ¬ lg_cmp (lN (wdV B n (stN B n j))) (11178213 : Int64) = 0 from fun z => z (tw3.mpr q3)), if_pos (by omega), q3]; rfl
  rw [if_pos (show ¬ lg_cmp (lN (wdV B n (stN B n j))) (11178213 : Int64) = 0 from fun z => q3 (tw3.mp z))]
  by_cases q4 : tkV B n (stN B n j) = 4
  · rw [if_neg (show ¬ ¬ lg_cmp (lN (wdV B n (stN B n j))) (2552 : Int64) = 0 from fun z => z (tw4.mpr q4)), if_pos (by omega), q4]; rfl
  rw [if_pos (show ¬ lg_cmp (lN (wdV B n (stN B n j))) (2552 : Int64) = 0 from fun z => q4 (tw4.mp z))]
  by_cases q5 : tkV B n (stN B n j) = 5
  · rw [if_neg (show ¬ ¬ lg_cmp (lN (wdV B n (stN B n j))) (15748 : Int64) = 0 from fun z => z (tw5.mpr q5)), if_pos (by omega), q5]; rfl
  rw [if_pos (show ¬ lg_cmp (lN (wdV B n (stN B n j))) (15748 : Int64) = 0 from fun z => q5 (tw5.mp z))]
  rw [if_neg (by omega)]
theorem b133_w {p : Nat} {σ : Sg} (h : WRM B n p σ) (x y t : Int32) : ∃ σ', f_X12_rule_b133 x y t σ = some σ' ∧ WRM B n p σ' ∧ frm σ σ' := by
  obtain ⟨σ1, a1, a2, a3⟩ := wM_w h t
  unfold f_X12_rule_b133
  rw [a1, bnd_some, if_pos (show ¬ σ1 0 27 = 0 by rw [a2.2.1]; decide)]
  exact ⟨σ1, rfl, a2, a3⟩
theorem b104_w {p : Nat} {σ : Sg} (h : WRM B n p σ) (x y t : Int32) : ∃ σ', f_X12_rule_b104 x y t σ = some σ' ∧ WRM B n p σ' ∧ frm σ σ' := by
  obtain ⟨σ1, a1, a2, a3⟩ := wM_w h t
  unfold f_X12_rule_b104
  rw [a1, bnd_some, if_pos (show ¬ σ1 0 27 = 0 by rw [a2.2.1]; decide)]
  obtain ⟨σ2, b1, b2, b3⟩ := b133_w a2 x y 0
  exact ⟨σ2, b1, b2, a3.tr b3⟩
theorem b49_w {p : Nat} {σ : Sg} (h : WRM B n p σ) (x : Int32) : ∃ σ', f_X12_rule_b49 x σ = some σ' ∧ WRM B n p σ' ∧ frm σ σ' := by
  unfold f_X12_rule_b49 f_X12_rule_b91
  rw [word_w h, bnd_some, if_pos (by decide), if_pos (by decide), if_pos (by decide), if_pos (by decide)]
  exact b104_w h x _ _
theorem addR_w {p : Nat} {σ : Sg} (h : WRC B n la p σ) (x y z : Int32) : ∃ σ', f_X9_addRule x y z σ = some σ' ∧ WRC B n la p σ' ∧ frC σ σ' := by
  obtain ⟨t, hp, e6, ⟨j, hj, e5⟩, ⟨c, hc, e1⟩, r, hr, e0⟩ := id h
  unfold f_X9_addRule
  rw [e0]
  by_cases q : 8 ≤ r
  · rw [if_pos (show (8 : Int32) ≤ nI r from nI_le (a := 8) q (by omega))]
    exact ⟨σ, rfl, h, frC.rf σ⟩
  · rw [if_neg (show ¬ (8 : Int32) ≤ nI r from nI_ge (b := 8) (by omega) (by decide)), wr_nI (by omega) (by decide), bnd_some, upS_ne (q := 71) (by decide), e0, wr_nI (by omega) (by decide), bnd_some, upS_ne (q := 71) (by decide), upS_ne (q := 71) (by decide), e0, wr_nI (by omega) (by decide), bnd_some, upS_ne (q := 71) (by decide), upS_ne (q := 71) (by decide), upS_ne (q := 71) (by decide), e0, e1, wr_nI (by omega) (by decide), bnd_some, upS_ne (q := 71) (by decide), upS_ne (q := 71) (by decide), upS_ne (q := 71) (by decide), upS_ne (q := 71) (by decide), e0, nI_1, lt_ap]
    have k : ∀ p, p ≠ 71 → p ≠ 72 → p ≠ 73 → p ≠ 74 → p ≠ 75 → upS (upS (upS (upS (upS σ 72 r x) 73 r y) 74 r z) 75 r (nI c)) 71 0 (nI (r + 1)) p = σ p := fun p a b c d e => by rw [upS_ne a, upS_ne e, upS_ne d, upS_ne c, upS_ne b]
    refine ⟨_, rfl, ⟨t.mono (k 69 (by decide) (by decide) (by decide) (by decide) (by decide)) (k 70 (by decide) (by decide) (by decide) (by decide) (by decide)) (by rw [k 67 (by decide) (by decide) (by decide) (by decide) (by decide)]), hp, by rw [k 67 (by decide) (by decide) (by decide) (by decide) (by decide)]; exact e6, ⟨j, hj, by rw [k 67 (by decide) (by decide) (by decide) (by decide) (by decide)]; exact e5⟩, ⟨c, hc, ?_⟩, r + 1, by omega, upS_at⟩, fun p a b => k p (by omega) (by omega) (by omega) (by omega) (by omega), fun i a b => by rw [k 67 (by decide) (by decide) (by decide) (by decide) (by decide)]⟩
    rw [upS_nj (by omega), upS_ne (by decide), upS_ne (by decide), upS_ne (by decide), upS_ne (by decide)]
    exact e1
theorem b102_w {p : Nat} {σ : Sg} (h : WRC B n la p σ) (x y z t : Int32) : ∃ σ', f_X8_readRule_b102 x y z t σ = some σ' ∧ WRC B n la p σ' ∧ frC σ σ' := by
  unfold f_X8_readRule_b102
  rw [pC_w h, bnd_some]
  obtain ⟨σ1, a1, a2, a3⟩ := addR_w h x z y
  rw [a1, bnd_some]
  exact ⟨σ1, rfl, a2, a3⟩
theorem b69_w {p : Nat} {σ : Sg} (h : WRC B n la p σ) (x y : Int32) : ∃ σ', f_X8_readRule_b69 x y σ = some σ' ∧ WRC B n la p σ' ∧ frC σ σ' := by
  obtain ⟨j, -, e⟩ := tokC_w h
  unfold f_X8_readRule_b69
  rw [e, bnd_some, lt_ap, pC_w h, bnd_some, e, bnd_some]
  split
  · exact b102_w h _ _ _ _
  · exact b102_w h _ _ _ _
/-- a rule is told -/
theorem addR {j r : Nat} {lc : List Int32} {σ : Sg} (h : OKC B n la j lc σ) (e0 : σ 71 0 = nI r) (hr : r < 8) (x y z : Int32) : ∃ σ', f_X9_addRule x y z σ = some σ' ∧ OKC B n la j lc σ' ∧ frC σ σ' ∧ σ' 71 0 = nI (r + 1) ∧ σ' 72 r = x ∧ σ' 73 r = y ∧ σ' 74 r = z ∧ σ' 75 r = nI lc.length ∧ ∀ q, q < r → σ' 72 q = σ 72 q ∧ σ' 73 q = σ 73 q ∧ σ' 74 q = σ 74 q ∧ σ' 75 q = σ 75 q := by
  obtain ⟨t, hj, ⟨e6, e5⟩, ⟨c1, c2⟩, -⟩ := h
  unfold f_X9_addRule
  rw [e0, if_neg (show ¬ (8 : Int32) ≤ nI r from nI_ge (b := 8) hr (by decide)), wr_nI hr (by decide), bnd_some, upS_ne (q := 71) (by decide), e0, wr_nI hr (by decide), bnd_some, upS_ne (q := 71) (by decide), upS_ne (q := 71) (by decide), e0, wr_nI hr (by decide), bnd_some, upS_ne (q := 71) (by decide), upS_ne (q := 71) (by decide), upS_ne (q := 71) (by decide), e0, c1, wr_nI hr (by decide), bnd_some, upS_ne (q := 71) (by decide), upS_ne (q := 71) (by decide), upS_ne (q := 71) (by decide), upS_ne (q := 71) (by decide), e0, nI_1, lt_ap]
  have k : ∀ p, p ≠ 71 → p ≠ 72 → p ≠ 73 → p ≠ 74 → p ≠ 75 → upS (upS (upS (upS (upS σ 72 r x) 73 r y) 74 r z) 75 r (nI lc.length)) 71 0 (nI (r + 1)) p = σ p := fun p a b c d e => by rw [upS_ne a, upS_ne e, upS_ne d, upS_ne c, upS_ne b]
  have e67 := k 67 (by decide) (by decide) (by decide) (by decide) (by decide)
  refine ⟨_, rfl, ⟨t.mono (k 69 (by decide) (by decide) (by decide) (by decide) (by decide)) (k 70 (by decide) (by decide) (by decide) (by decide) (by decide)) (by rw [e67]), hj, ⟨by rw [e67]; exact e6, by rw [e67]; exact e5⟩, ⟨?_, fun i hi => by rw [k 76 (by decide) (by decide) (by decide) (by decide) (by decide)]; exact c2 i hi⟩, r + 1, by omega, upS_at⟩, ⟨fun p a b => k p (by omega) (by omega) (by omega) (by omega) (by omega), fun i a b => by rw [e67]⟩, upS_at, ?_, ?_, ?_, ?_, fun q hq => ⟨?_, ?_, ?_, ?_⟩⟩
  · rw [upS_nj (by omega), upS_ne (by decide), upS_ne (by decide), upS_ne (by decide), upS_ne (by decide)]; exact c1
  · rw [upS_ne (by decide), upS_ne (by decide), upS_ne (by decide), upS_ne (by decide), upS_at]
  · rw [upS_ne (by decide), upS_ne (by decide), upS_ne (by decide), upS_at]
  · rw [upS_ne (by decide), upS_ne (by decide), upS_at]
  · rw [upS_ne (by decide), upS_at]
  · rw [upS_ne (by decide), upS_ne (by decide), upS_ne (by decide), upS_ne (by decide), upS_nj (by omega)]
  · rw [upS_ne (by decide), upS_ne (by decide), upS_ne (by decide), upS_nj (by omega), upS_ne (by decide)]
  · rw [upS_ne (by decide), upS_ne (by decide), upS_nj (by omega), upS_ne (by decide), upS_ne (by decide)]
  · rw [upS_ne (by decide), upS_nj (by omega), upS_ne (by decide), upS_ne (by decide), upS_ne (by decide)]
theorem tellR {j o r : Nat} {lm : List Int32} {σ : Sg} (h : OKM B n j o lm σ) (e1 : σ 1 1 = nI r) (hr : r < 8) (x y : Int32) : ∃ σ', (lt (95 + (3 * (σ 1 1))) fun vq10 => Option.bind (wr σ 1 319 (vq10 + 0) x) fun σ11 => Option.bind (wr σ11 1 319 (vq10 + 1) y) fun σ12 => Option.bind (wr σ12 1 319 (vq10 + 2) (σ12 0 26)) fun σ13 => lt (upS σ13 1 1 ((σ13 1 1) + 1)) fun σ14 => some σ14) = some σ' ∧ OKM B n j o lm σ' ∧ frM σ σ' ∧ σ' 1 1 = nI (r + 1) ∧ σ' 1 (95 + 3 * r) = x ∧ σ' 1 (95 + 3 * r + 1) = y ∧ σ' 1 (95 + 3 * r + 2) = nI lm.length ∧ ∀ i, 95 ≤ i → i < 95 + 3 * r → σ' 1 i = σ 1 i := by
  obtain ⟨t, ⟨e27, e22, e23, e25⟩, c1, c2⟩ := h
  rw [e1, lt_ap, show (95 : Int32) + 3 * nI r = nI (95 + 3 * r) by rw [show (3 : Int32) * nI r = nI (3 * r) from pk_mul 3 r]; exact nI_add 95 _, show nI (95 + 3 * r) + 0 = nI (95 + 3 * r) from Int32.add_zero _, nI_1, show nI (95 + 3 * r) + 2 = nI (95 + 3 * r + 2) from nI_add _ 2, wr_nI (by omega) (by decide), bnd_some, wr_nI (by omega) (by decide), bnd_some, upS_ne (q := 0) (by decide), upS_ne (q := 0) (by decide), c1, wr_nI (by omega) (by decide), bnd_some, upS_nj (j := 1) (by omega), upS_nj (j := 1) (by omega), upS_nj (j := 1) (by omega), e1, nI_1, lt_ap]
  have k : ∀ p, p ≠ 1 → upS (upS (upS (upS σ 1 (95 + 3 * r) x) 1 (95 + 3 * r + 1) y) 1 (95 + 3 * r + 2) (nI lm.length)) 1 1 (nI (r + 1)) p = σ p := fun p a => by rw [upS_ne a, upS_ne a, upS_ne a, upS_ne a]
  refine ⟨_, rfl, ⟨⟨t.1, fun i hi => by rw [k 9 (by decide)]; exact t.2.1 i hi, by rw [k 0 (by decide)]; exact t.2.2⟩, ⟨by rw [k 0 (by decide)]; exact e27, by rw [k 0 (by decide)]; exact e22, by rw [k 0 (by decide)]; exact e23, by rw [k 0 (by decide)]; exact e25⟩, by rw [k 0 (by decide)]; exact c1, fun i hi => ?_⟩, ⟨fun p a b => k p b, fun i hi => by rw [k 0 (by decide)], fun i a b => ?_⟩, upS_at, ?_, ?_, ?_, fun i a b => ?_⟩
  · rw [upS_nj (by omega), upS_nj (by omega), upS_nj (by omega), upS_nj (by omega)]; exact c2 i hi
  · rw [upS_nj (by omega), upS_nj (by omega), upS_nj (by omega), upS_nj (by omega)]
  · rw [upS_nj (by omega), upS_nj (by omega), upS_nj (by omega), upS_at]
  · rw [upS_nj (by omega), upS_nj (by omega), upS_at]
  · rw [upS_nj (by omega), upS_at]
  · rw [upS_nj (by omega), upS_nj (by omega), upS_nj (by omega), upS_nj (by omega)]
/-- what becomes of a rule -/
def RuleOut (B : Nat → Nat) (n la j r : Nat) (lm lc : List Int32) (kd ds en fc tc : Nat → Nat) (φ : Nat → Fct → Bool) (σM σC : Sg) (M C : Option Sg) : Prop := ∃ σM' σC', M = some σM' ∧ C = some σC' ∧ frM σM σM' ∧ frC σC σC' ∧ ((∃ p, WRM B n p σM' ∧ WRC B n la p σC') ∨
  ∃ j' lm' lc' kd' ds' en' fc' tc' φ', j < j' ∧ lm'.length ≤ j' ∧ lc'.length ≤ j' ∧ OKM B n j' 0 lm' σM' ∧ OKC B n la j' lc' σC' ∧ RuL (r + 1) lm' lc' kd' ds' en' fc' tc' φ' σM' σC')
theorem sE_up {en : Nat → Nat} {r v q : Nat} (h : q ≤ r) : sE (up1 en r v) q = sE en q := by
  unfold sE
  by_cases q0 : q = 0
  · rw [if_pos q0, if_pos q0]
  · rw [if_neg q0, if_neg q0, up1_ne (by omega)]
/-- from behind the condition on -/
theorem rule_do {j0 j r t : Nat} {lm lc l c : List Int32} {kd ds en fc tc : Nat → Nat} {φ : Nat → Fct → Bool} {ψ : Fct → Bool} {σM0 σC0 σM σC : Sg} (hj : j0 < j) (h : OKM B n j 0 (lm ++ l) σM) (g : OKC B n la j (lc ++ c) σC) (fM : frM σM0 σM) (fCC : frC σC0 σC) (hml : (lm ++ l).length ≤ j) (hcl : (lc ++ c).length ≤ j) (ht : t ≤ 5) (hr : r < 8)
    (R : RuL r lm lc kd ds en fc tc φ σM σC) (s : Sem l c ψ) : RuleOut B n la j0 r lm lc kd ds en fc tc φ σM0 σC0 (f_X12_rule_b49 (nI t) σM) (f_X8_readRule_b69 (nI t) (nI lc.length) σC) := by
  obtain ⟨l200, jla⟩ := la_b g
  have tt := tk_top (B := B) (n := n) (s := stN B n j)
  have hB : ∀ i, i < 200 → B i < 256 := fun i hi => (h.1.2.1 i hi).1
  have lml : (lm ++ l).length = lm.length + l.length := List.length_append
  have lcl : (lc ++ c).length = lc.length + c.length := List.length_append
  -- a fault at the doing
  have bad : ¬ (6 ≤ tkV B n (stN B n j) ∧ tkV B n (stN B n j) ≤ 8) → RuleOut B n la j0 r lm lc kd ds en fc tc φ σM0 σC0 (f_X12_rule_b91 (nI t) (-1) σM) (f_X8_readRule_b69 (nI t) (nI lc.length) σC) := fun q => by
    obtain ⟨σ1, a1, a2, a3⟩ := wM_0 h
    obtain ⟨τ1, c1, c2, c3⟩ := pC_0 g (by omega)
    have hd : f_X11_within (nI (tkV B n (stN B n j)) - 6) 0 2 σC = false := by
      rw [c_in]
      cases e : rng (nI (tkV B n (stN B n j)) - 6) 0 2 with
      | false => rfl
      | true =>
        obtain ⟨k, -, k2, k3⟩ := (rng_nI (lo := 0) (hi := 2) (by decide) (by decide)).mp e
        have : nI (tkV B n (stN B n j)) = nI (6 + k) := by
          have := congrArg (· + (6 : Int32)) k3
          simp only [Int32.sub_add_cancel] at this
          rw [this, show nI k + 6 = nI (k + 6) from nI_add k 6, Nat.add_comm]
        have := (nI_eq (by omega) (by omega)).mp this
        exact absurd ⟨by omega, by omega⟩ q
    unfold f_X12_rule_b91 f_X12_rule_b104 f_X8_readRule_b69
    rw [if_pos (show (-1 : Int32) < 0 by decide), a1, bnd_some, if_pos (show ¬ σ1 0 27 = 0 by rw [a2.2.1]; decide), tokC g, bnd_some, lt_ap, hd, show f_X8_pass (b2i false) σC = some τ1 from c1, bnd_some]
    obtain ⟨σ2, b1, b2, b3⟩ := b133_w a2 (nI t) (-1) 0
    obtain ⟨k, -, e⟩ := tokC_w c2
    rw [b1, e, bnd_some]
    obtain ⟨τ2, d1, d2, d3⟩ := b102_w c2 (nI t) (nI lc.length) (nI (tkV B n (stN B n j)) - 6) (if ¬ nI (tkV B n (stN B n k)) = 20 then 0 else 1)
    refine ⟨σ2, τ2, rfl, ?_, fM.tr (a3.f.tr b3.f), fCC.tr (c3.f.tr d3), Or.inl ⟨_, b2, d2⟩⟩
    by_cases q9 : nI (tkV B n (stN B n k)) = 20
    · rw [if_neg (fun z => z q9)]
      rw [if_neg (fun z => z q9)] at d1
      exact d1
    · rw [if_pos q9]
      rw [if_pos q9] at d1
      exact d1
  have good : ∀ d, d ≤ 2 → tkV B n (stN B n j) = 6 + d → RuleOut B n la j0 r lm lc kd ds en fc tc φ σM0 σC0 (f_X12_rule_b91 (nI t) (nI d) σM) (f_X8_readRule_b69 (nI t) (nI lc.length) σC) := fun d hd e => by
    have hjl := jl g (by omega)
    obtain ⟨σ1, a1, a2, a3⟩ := wM_1 h
    obtain ⟨τ1, c1, c2, c3⟩ := pC_1 g hjl
    have tt2 := tk_top (B := B) (n := n) (s := stN B n (j + 1))
    have c59 := ch_20 (s := stN B n (j + 1)) hB h.1.1
    have t20 : nI (tkV B n (stN B n (j + 1))) = 20 ↔ tkV B n (stN B n (j + 1)) = 20 := nI_eq (b := 20) (by omega) (by decide)
    unfold f_X12_rule_b91 f_X12_rule_b104 f_X8_readRule_b69
    rw [if_neg (nI_m1 (by omega)), a1, bnd_some, if_neg (fun z => z a2.2.1.1), byte_ok a2, bnd_some, tokC g, bnd_some, lt_ap, e, show nI (6 + d) - 6 = nI d by rw [show (6 : Int32) = nI 6 from rfl, pk_sub (by omega), Nat.add_sub_cancel_left], show f_X11_within (nI d) 0 2 σC = true from (c_in _ _ _ _).trans ((rng_nI (lo := 0) (hi := 2) (by decide) (by decide)).mpr ⟨d, by omega, hd, rfl⟩), show f_X8_pass (b2i true) σC = some τ1 from c1, bnd_some, tokC c2, bnd_some]
    unfold f_X12_rule_b133 f_X8_readRule_b102
    by_cases q : tkV B n (stN B n (j + 1)) = 20
    · have hjl2 := jl c2 (by omega)
      obtain ⟨σ2, b1, b2, b3⟩ := wM_1 a2
      obtain ⟨τ2, d1, d2, d3⟩ := pC_1 c2 hjl2
      have em : σ2 1 1 = nI r := by rw [b3.2.2 1 (by decide), a3.2.2 1 (by decide)]; exact R.2.1
      have ec : τ2 71 0 = nI r := by rw [d3.2.2, c3.2.2]; exact R.2.2.1
      obtain ⟨σ3, x1, x2, x3, x4, x5, x6, x7, x8⟩ := tellR b2 em hr (nI t) (nI d)
      obtain ⟨τ3, y1, y2, y3, y4, y5, y6, y7, y8, y9⟩ := addR d2 ec hr (nI t) (nI d) (nI lc.length)
      rw [if_neg (show ¬ ¬ chV B n (stN B n (j + 1)) = 59 from fun z => z (c59.mpr q)), if_neg (show ¬ ¬ nI (tkV B n (stN B n (j + 1))) = 20 from fun z => z (t20.mpr q)), b1, bnd_some, if_neg (fun z => z b2.2.1.1), x1, d1, bnd_some, y1, bnd_some]
      refine ⟨σ3, τ3, rfl, rfl, fM.tr (a3.f.tr (b3.f.tr x3)), fCC.tr (c3.f.tr (d3.f.tr y3)), Or.inr ⟨j + 1 + 1, lm ++ l, lc ++ c, up1 kd r t, up1 ds r d, up1 en r (lm ++ l).length, up1 fc r lc.length, up1 tc r (lc ++ c).length, fun q => if q = r then ψ else φ q, by omega, by omega, by omega, x2, y2, by omega, x4, y4, ?_, fun k hk => ?_⟩⟩
      · unfold sE
        rw [if_neg (by omega), Nat.add_sub_cancel, up1_at]
      · by_cases ek : k = r
        · subst ek
          unfold RuLq
          rw [up1_at, up1_at, up1_at, up1_at, up1_at, sE_up (Nat.le_refl _), ← R.2.2.2.1]
          refine ⟨⟨by omega, hd⟩, ⟨x5, x6, x7⟩, ⟨y5, y6, y7, y8⟩, l, c, by show Sem l c (if k = k then ψ else φ k); rw [if_pos rfl]; exact s, ⟨lml, Nat.le_refl _, fun i hi => getD_r lm l i⟩, lcl, Nat.le_refl _, fun i hi => getD_r lc c i⟩
        · obtain ⟨⟨o1, o2⟩, ⟨o3, o4, o5⟩, ⟨o6, o7, o8, o9⟩, l9, c9, o10, ⟨o11, o12, o13⟩, o14, o15, o16⟩ := R.2.2.2.2 k (by omega)
          obtain ⟨z1, z2, z3, z4⟩ := y9 k (by omega)
          have eM : ∀ i, 95 ≤ i → i < 95 + 3 * r → σ3 1 i = σM 1 i := fun i i1 i2 => by rw [x8 i i1 i2, b3.2.2 i (by omega), a3.2.2 i (by omega)]
          have eC : ∀ p, p = 72 ∨ p = 73 ∨ p = 74 ∨ p = 75 → τ2 p = σC p := fun p hp => by rw [d3.1 p (by omega) (by omega) (by omega), c3.1 p (by omega) (by omega) (by omega)]
          unfold RuLq
          rw [up1_ne ek, up1_ne ek, up1_ne ek, up1_ne ek, up1_ne ek, sE_up (by omega), z1, z2, z3, z4, eC 72 (by omega), eC 73 (by omega), eC 74 (by omega), eC 75 (by omega), eM _ (by omega) (by omega), eM _ (by omega) (by omega), eM _ (by omega) (by omega)]
          exact ⟨⟨o1, o2⟩, ⟨o3, o4, o5⟩, ⟨o6, o7, o8, o9⟩, l9, c9, by show Sem l9 c9 (if k = r then ψ else φ k); rw [if_neg ek]; exact o10, ⟨o11, by omega, fun i hi => by rw [getD_l lm l (by omega)]; exact o13 i hi⟩, o14, by omega, fun i hi => by rw [getD_l lc c (by omega)]; exact o16 i hi⟩
    · obtain ⟨σ2, b1, b2, b3⟩ := wM_0 a2
      obtain ⟨τ2, d1, d2, d3⟩ := pC_0 c2 (by omega)
      obtain ⟨τ3, y1, y2, y3⟩ := addR_w d2 (nI t) (nI d) (nI lc.length)
      rw [if_pos (show ¬ chV B n (stN B n (j + 1)) = 59 from fun z => q (c59.mp z)), if_pos (show ¬ nI (tkV B n (stN B n (j + 1))) = 20 from fun z => q (t20.mp z)), b1, bnd_some, if_pos (show ¬ σ2 0 27 = 0 by rw [b2.2.1]; decide), d1, bnd_some, y1, bnd_some]
      exact ⟨σ2, τ3, rfl, rfl, fM.tr (a3.f.tr b3.f), fCC.tr (c3.f.tr (d3.f.tr y3)), Or.inl ⟨_, b2, y2⟩⟩
  unfold f_X12_rule_b49
  rw [word_ok h, bnd_some]
  by_cases q6 : tkV B n (stN B n j) = 6
  · rw [if_neg (show ¬ ¬ lg_cmp (lN (wdV B n (stN B n j))) (20105925 : Int64) = 0 from fun z => z (tw6.mpr q6))]
    exact good 0 (by decide) q6
  rw [if_pos (show ¬ lg_cmp (lN (wdV B n (stN B n j))) (20105925 : Int64) = 0 from fun z => q6 (tw6.mp z))]
  by_cases q7 : tkV B n (stN B n j) = 7
  · rw [if_neg (show ¬ ¬ lg_cmp (lN (wdV B n (stN B n j))) (277892 : Int64) = 0 from fun z => z (tw7.mpr q7))]
    exact good 1 (by decide) q7
  rw [if_pos (show ¬ lg_cmp (lN (wdV B n (stN B n j))) (277892 : Int64) = 0 from fun z => q7 (tw7.mp z))]
  by_cases q8 : tkV B n (stN B n j) = 8
  · rw [if_neg (show ¬ ¬ lg_cmp (lN (wdV B n (stN B n j))) (3764 : Int64) = 0 from fun z => z (tw8.mpr q8))]
    exact good 2 (by decide) q8
  rw [if_pos (show ¬ lg_cmp (lN (wdV B n (stN B n j))) (3764 : Int64) = 0 from fun z => q8 (tw8.mp z))]
  exact bad (by omega)
theorem eq_rule {j r : Nat} {lm lc : List Int32} {kd ds en fc tc : Nat → Nat} {φ : Nat → Fct → Bool} {σM σC : Sg} (h : OKM B n j 0 lm σM) (g : OKC B n la j lc σC) (hm : lm.length ≤ j) (hc : lc.length ≤ j) (R : RuL r lm lc kd ds en fc tc φ σM σC) : RuleOut B n la j r lm lc kd ds en fc tc φ σM σC (f_X12_rule σM) (f_X8_readRule σC) := by
  obtain ⟨l200, jla⟩ := la_b g
  have tt := tk_top (B := B) (n := n) (s := stN B n j)
  have hr8 := R.1
  unfold f_X12_rule f_X8_readRule
  rw [m_kind h, bnd_some, R.2.1, tokC g, bnd_some, lt_ap, g.2.2.2.1.1, R.2.2.1, show f_X11_within (nI (tkV B n (stN B n j))) 0 5 σC = decide (0 ≤ tkV B n (stN B n j) ∧ tkV B n (stN B n j) ≤ 5) from (c_in _ _ _ _).trans (rng_dec (b := 0) (c := 5) (by omega) (by decide) (by decide))]
  have bad : ∀ x y, RuleOut B n la j r lm lc kd ds en fc tc φ σM σC (f_X12_rule_b26 x 0 σM) (f_X8_readRule_b40 y (nI lc.length) 0 σC) := fun x y => by
    obtain ⟨σ1, a1, a2, a3⟩ := wM_0 h
    obtain ⟨τ1, c1, c2, c3⟩ := pC_0 g (by omega)
    obtain ⟨σ2, b1, b2, b3⟩ := b49_w a2 x
    obtain ⟨τ2, d1, d2, d3⟩ := b69_w c2 y (nI lc.length)
    unfold f_X12_rule_b26 f_X8_readRule_b40
    rw [a1, bnd_some, word_w a2, bnd_some, if_pos (by decide), b1, c1, bnd_some, if_neg (show ¬ f_X8_isStill τ1 = true by rw [stillC_w c2]; decide), d1]
    exact ⟨σ2, τ2, rfl, rfl, a3.f.tr b3.f, c3.f.tr d3, Or.inl ⟨_, b2, d2⟩⟩
  by_cases q : tkV B n (stN B n j) ≤ 5
  · rw [if_pos q, if_neg (nI_m1 (by omega)), decide_eq_true (show 0 ≤ tkV B n (stN B n j) ∧ tkV B n (stN B n j) ≤ 5 from ⟨Nat.zero_le _, q⟩), if_pos rfl]
    by_cases q8 : 8 ≤ r
    · rw [if_pos (show (8 : Int32) ≤ nI r from nI_le (a := 8) q8 (by omega)), if_pos (show (8 : Int32) ≤ nI r from nI_le (a := 8) q8 (by omega))]
      exact bad _ _
    · rw [if_neg (show ¬ (8 : Int32) ≤ nI r from nI_ge (b := 8) (by omega) (by decide)), if_neg (show ¬ (8 : Int32) ≤ nI r from nI_ge (b := 8) (by omega) (by decide))]
      obtain ⟨σ1, a1, a2, a3⟩ := wM_1 h
      obtain ⟨τ1, c1, c2, c3⟩ := pC_1 g (jl g (by omega))
      have tt2 := tk_top (B := B) (n := n) (s := stN B n (j + 1))
      have t14 : nI (tkV B n (stN B n (j + 1))) = 14 ↔ tkV B n (stN B n (j + 1)) = 14 := nI_eq (b := 14) (by omega) (by decide)
      have keep : ∀ {σ τ : Sg}, frm σM σ → frc σC τ → RuL r lm lc kd ds en fc tc φ σ τ := fun {σ τ} f1 f2 => by
        refine ⟨hr8, by rw [f1.2.2 1 (by decide)]; exact R.2.1, by rw [f2.2.2]; exact R.2.2.1, R.2.2.2.1, fun k hk => ?_⟩
        obtain ⟨o1, ⟨o3, o4, o5⟩, ⟨o6, o7, o8, o9⟩, o10⟩ := R.2.2.2.2 k hk
        exact ⟨o1, ⟨by rw [f1.2.2 _ (by omega)]; exact o3, by rw [f1.2.2 _ (by omega)]; exact o4, by rw [f1.2.2 _ (by omega)]; exact o5⟩, ⟨by rw [f2.1 72 (by decide) (by decide) (by decide)]; exact o6, by rw [f2.1 73 (by decide) (by decide) (by decide)]; exact o7, by rw [f2.1 74 (by decide) (by decide) (by decide)]; exact o8, by rw [f2.1 75 (by decide) (by decide) (by decide)]; exact o9⟩, o10⟩
      unfold f_X12_rule_b26 f_X8_readRule_b40
      rw [a1, bnd_some, word_ok a2, bnd_some, c1, bnd_some, if_pos (stillC c2), tokC c2, bnd_some]
      by_cases q14 : tkV B n (stN B n (j + 1)) = 14
      · obtain ⟨σ2, b1, b2, b3⟩ := wM_1 a2
        obtain ⟨τ2, d1, d2, d3⟩ := pC_1 c2 (jl c2 (by omega))
        obtain ⟨σ3, τ3, e1, e2, e3, e4, S⟩ := eq_cond 6 0 (by omega) (by omega) (j + 1 + 1) lm lc σ2 τ2 b2 d2 (by omega) (by omega)
        rw [if_neg (show ¬ ¬ lg_cmp (lN (wdV B n (stN B n (j + 1)))) (294 : Int64) = 0 from fun z => z (tw14.mpr q14)), if_neg (show ¬ ¬ nI (tkV B n (stN B n (j + 1))) = 14 from fun z => z (t14.mpr q14)), b1, bnd_some, e1, bnd_some, d1, bnd_some, show f_X8_readAny 6 0 τ2 = some τ3 from e2, bnd_some]
        rcases S with ⟨p, w1, w2⟩ | ⟨j', lm', lc', ψ, h1, h2, h3, h4, h5, h6, h7, h8⟩
        · obtain ⟨σ4, x1, x2, x3⟩ := b49_w w1 (nI (tkV B n (stN B n j)))
          obtain ⟨τ4, y1, y2, y3⟩ := b69_w w2 (nI (tkV B n (stN B n j))) (nI lc.length)
          exact ⟨σ4, τ4, x1, y1, a3.f.tr (b3.f.tr (e3.f.tr x3.f)), c3.f.tr (d3.f.tr (e4.f.tr y3)), Or.inl ⟨p, x2, y2⟩⟩
        · have b0 : bb false = 0 := rfl
          exact rule_do (by omega) h5 h6 (a3.f.tr (b3.f.tr e3.f)) (c3.f.tr (d3.f.tr e4.f)) (by rw [List.length_append]; omega) (by rw [List.length_append]; omega) q (by omega) (keep (a3.tr (b3.tr e3)) (c3.tr (d3.tr e4))) (Or.inr ⟨h2, h7, h8⟩)
      · rw [if_pos (show ¬ lg_cmp (lN (wdV B n (stN B n (j + 1)))) (294 : Int64) = 0 from fun z => q14 (tw14.mp z)), if_pos (show ¬ nI (tkV B n (stN B n (j + 1))) = 14 from fun z => q14 (t14.mp z))]
        refine rule_do (l := []) (c := []) (j := j + 1) (by omega) ?_ ?_ a3.f c3.f (by rw [List.append_nil]; omega) (by rw [List.append_nil]; omega) q (by omega) (keep a3 c3) (Or.inl ⟨rfl, rfl, rfl⟩)
        · rw [List.append_nil]; exact a2
        · rw [List.append_nil]; exact c2
  · rw [if_neg q, if_pos (show (-1 : Int32) < 0 by decide), decide_eq_false (fun z => q z.2), if_neg (show ¬ false = true by decide)]
    exact bad _ _
end PR
