/-! what codes mean -/
abbrev Fct : Type := Nat → Nat
def facA (A : Nat → Nat) (k : Nat) : Fct := fun q => if q = 0 then A 3 else if q = 1 then A (35 + 6 * k + 2) else if q = 2 then farA A k else if q = 3 then A (35 + 6 * k + 3) else k
def SemM (lm : List Int32) (φ : Fct → Bool) : Prop := ∀ (σ : Sg) (A : Nat → Nat) (k tO i d m : Nat), rM σ A → okA A → k < 6 → i + lm.length ≤ tO → tO ≤ 200 → d + lm.length ≤ 200 → (∀ j, j < lm.length → σ 1 (119 + (i + j)) = lm.getD j 0) →
  ∃ σ', f_X12_isSo_l6 (nI tO) (nI k) (m + lm.length) (nI d) (nI i) σ = f_X12_isSo_l6 (nI tO) (nI k) m (nI (d + 1)) (nI (i + lm.length)) σ' ∧ σ' 4 d = b2i (φ (facA A k)) ∧ (∀ j, j < d → σ' 4 j = σ 4 j) ∧ ∀ p, p ≠ 4 → σ' p = σ p
def SemC (D : Nat) (lc : List Int32) (φ : Fct → Bool) : Prop := ∀ (σ : Sg) (F : Fct) (r tO i m s : Nat), r < 8 → (∀ q, q < 5 → F q < 100 ∧ σ 40 q = nI (F q)) → σ 38 r = nI tO → i + lc.length ≤ tO → tO ≤ 200 → s < 2 ^ (30 - D) → (∀ j, j < lc.length → σ 39 (i + j) = lc.getD j 0) →
  ∃ m', m ≤ m' ∧ f_X9_isSo_l9 (nI r) σ (m + lc.length) (nI s) (nI i) = f_X9_isSo_l9 (nI r) σ m' (nI (2 * s + (if φ F = true then 1 else 0))) (nI (i + lc.length))
theorem getD_l (l1 l2 : List Int32) {j : Nat} (h : j < l1.length) : (l1 ++ l2).getD j 0 = l1.getD j 0 := by
  rw [List.getD_eq_getElem?_getD, List.getD_eq_getElem?_getD, List.getElem?_append_left h]
theorem getD_r (l1 l2 : List Int32) (j : Nat) : (l1 ++ l2).getD (l1.length + j) 0 = l2.getD j 0 := by
  rw [List.getD_eq_getElem?_getD, List.getD_eq_getElem?_getD, List.getElem?_append_right (Nat.le_add_right _ _), Nat.add_sub_cancel_left]
/-! the reference's items -/
def opM (t : Nat) : Int32 := if t < 100 then -(nI (t - 8)) else nI (t - 100)
def opC (t : Nat) : Int32 := if t < 100 then nI (10000 + t - 9) else nI (t - 100)
def opV (t : Nat) (F : Fct) : Nat := if t < 100 then F (t - 9) else t - 100
def opOk (t : Nat) : Prop := (9 ≤ t ∧ t ≤ 13) ∨ (100 ≤ t ∧ t < 10100)
theorem m_fact {σ : Sg} {A : Nat → Nat} (h : rM σ A) (ok : okA A) {k t : Nat} (hk : k < 6) (ht : opOk t) : f_X12_fact (opM t) (nI k) σ = some (nI (opV t (facA A k))) ∧ ¬ opM t ≤ -10 := by
  unfold f_X12_fact
  rcases ht with ⟨t1, t2⟩ | ⟨t1, t2⟩
  · have e0 : σ 1 3 = nI (A 3) := h 3 (by decide) (by decide) (by decide) (by decide)
    have e1 : f_X12_its (nI k) 2 σ = some (nI (A (35 + 6 * k + 2))) := m_its h hk (by decide)
    have e2 := m_farOf h ok hk
    have e3 : f_X12_its (nI k) 3 σ = some (nI (A (35 + 6 * k + 3))) := m_its h hk (by decide)
    rw [e1, e2, e3, e0]
    obtain ⟨c, hc, rfl⟩ : ∃ c, c < 5 ∧ t = 9 + c := ⟨t - 9, by omega, by omega⟩
    match c, hc with
    | 0, _ => exact ⟨rfl, by decide⟩
    | 1, _ => exact ⟨rfl, by decide⟩
    | 2, _ => exact ⟨rfl, by decide⟩
    | 3, _ => exact ⟨rfl, by decide⟩
    | 4, _ => exact ⟨rfl, by decide⟩
    | c + 5, hc => exact absurd hc (by omega)
  · have e : opM t = nI (t - 100) := by unfold opM; rw [if_neg (by omega)]
    have hp : ¬ nI (t - 100) < (0 : Int32) := nI_m1 (by omega)
    have ne : ∀ c : Int32, c < 0 → ¬ nI (t - 100) = c := fun c hc z => hp (by rw [z]; exact hc)
    rw [e, if_neg (ne _ (by decide)), if_neg (ne _ (by decide)), if_neg (ne _ (by decide)), if_neg (ne _ (by decide)), if_neg (ne _ (by decide))]
    refine ⟨by unfold opV; rw [if_neg (by omega)], fun z => hp ?_⟩
    rw [Int32.lt_iff_toInt_lt]
    have a := Int32.le_iff_toInt_le.mp z
    have b : (-10 : Int32).toInt = -10 := rfl
    have c : (0 : Int32).toInt = 0 := rfl
    omega
theorem m_val {σ : Sg} {A : Nat → Nat} (h : rM σ A) (ok : okA A) {k t tO i d m : Nat} (hk : k < 6) (ht : opOk t) (hi : i < tO) (hO : tO ≤ 200) (hd : d < 200) (hc : σ 1 (119 + i) = opM t) :
    f_X12_isSo_l6 (nI tO) (nI k) (m + 1) (nI d) (nI i) σ = f_X12_isSo_l6 (nI tO) (nI k) m (nI (d + 1)) (nI (i + 1)) (upS σ 4 d (nI (opV t (facA A k)))) := by
  obtain ⟨f1, f2⟩ := m_fact h ok hk ht
  show f_X12_isSo_b6 (f_X12_isSo_l6 (nI tO) (nI k) m) (nI tO) (nI k) (nI d) (nI i) σ = _
  unfold f_X12_isSo_b6
  rw [if_neg (nI_ge hi (by omega)), show (119 : Int32) + nI i = nI (119 + i) from nI_add 119 _, rd_nI (by omega) (by decide), bnd_some, hc, if_neg f2, f1, bnd_some, wr_nI hd (by decide), bnd_some, nI_1, nI_1]
theorem m_bin {σ : Sg} {k tO i d m : Nat} {x : Int32} (hi : i < tO) (hO : tO ≤ 200) (hd : d + 1 < 200) (hc : σ 1 (119 + i) = x) (hx : x ≤ -10) (hx2 : ¬ x = -20) :
    f_X12_isSo_l6 (nI tO) (nI k) (m + 1) (nI (d + 2)) (nI i) σ = f_X12_isSo_l6 (nI tO) (nI k) m (nI (d + 1)) (nI (i + 1)) (upS σ 4 d (b2i (f_X12_isHolding x (σ 4 d) (σ 4 (d + 1)) σ))) := by
  show f_X12_isSo_b6 (f_X12_isSo_l6 (nI tO) (nI k) m) (nI tO) (nI k) (nI (d + 2)) (nI i) σ = _
  unfold f_X12_isSo_b6
  rw [if_neg (nI_ge hi (by omega)), show (119 : Int32) + nI i = nI (119 + i) from nI_add 119 _, rd_nI (by omega) (by decide), bnd_some, hc, if_pos hx, if_pos hx2, show nI (d + 2) + (-1) = nI (d + 1) from pk_m1 (d + 1), show nI (d + 1) - 1 = nI d from nI_pred d, rd_nI (by omega) (by decide), bnd_some, rd_nI (by omega) (by decide), bnd_some, wr_nI (by omega) (by decide), wr_nI (by omega) (by decide), bnd_some, bnd_some, nI_1]
  cases q : f_X12_isHolding x (σ 4 d) (σ 4 (d + 1)) σ with
  | true => rw [if_pos rfl]; rfl
  | false => rw [if_neg (show ¬ false = true by decide)]; rfl
theorem m_not {σ : Sg} {k tO i d m : Nat} (hi : i < tO) (hO : tO ≤ 200) (hd : d < 200) (hc : σ 1 (119 + i) = -20) :
    f_X12_isSo_l6 (nI tO) (nI k) (m + 1) (nI (d + 1)) (nI i) σ = f_X12_isSo_l6 (nI tO) (nI k) m (nI (d + 1)) (nI (i + 1)) (upS σ 4 d (1 - σ 4 d)) := by
  show f_X12_isSo_b6 (f_X12_isSo_l6 (nI tO) (nI k) m) (nI tO) (nI k) (nI (d + 1)) (nI i) σ = _
  unfold f_X12_isSo_b6
  rw [if_neg (nI_ge hi (by omega)), show (119 : Int32) + nI i = nI (119 + i) from nI_add 119 _, rd_nI (by omega) (by decide), bnd_some, hc, if_pos (by decide), if_neg (by decide), show nI (d + 1) - 1 = nI d from nI_pred d, rd_nI (by omega) (by decide), bnd_some, wr_nI (by omega) (by decide), bnd_some, nI_1]
def sgM (g : Nat) : Int32 := -(nI (g - 12))
def cmpV (g a b : Nat) : Bool := if g = 23 then decide (a < b) else if g = 24 then decide (a = b) else decide (b < a)
theorem hold_cmp {g a b : Nat} (hg : g = 23 ∨ g = 24 ∨ g = 25) (ha : a < 2 ^ 31) (hb : b < 2 ^ 31) (σ : Sg) : f_X12_isHolding (sgM g) (nI a) (nI b) σ = cmpV g a b := by
  unfold f_X12_isHolding
  rcases hg with rfl | rfl | rfl
  · rw [if_neg (by decide), if_neg (by decide), if_neg (by decide), if_pos (by decide), show cmpV 23 a b = decide (a < b) from rfl]
    by_cases q : a < b
    · rw [if_neg (nI_ge q hb), decide_eq_true q]
    · rw [if_pos (nI_le (by omega) ha), decide_eq_false q]
  · rw [if_neg (by decide), if_neg (by decide), if_pos (by decide), show cmpV 24 a b = decide (a = b) from rfl]
    by_cases q : a = b
    · rw [if_neg (show ¬ ¬ nI a = nI b from fun z => z (by rw [q])), decide_eq_true q]
    · rw [if_pos (show ¬ nI a = nI b from fun z => q ((nI_eq ha hb).mp z)), decide_eq_false q]
  · rw [if_neg (by decide), if_pos (by decide), show cmpV 25 a b = decide (b < a) from rfl]
    by_cases q : b < a
    · rw [if_neg (nI_ge q ha), decide_eq_true q]
    · rw [if_pos (nI_le (by omega) hb), decide_eq_false q]
theorem opV_b {t : Nat} (ht : opOk t) {F : Fct} (hF : ∀ q, q < 5 → F q < 100) : opV t F < 10000 := by
  unfold opV
  rcases ht with ⟨t1, t2⟩ | ⟨t1, t2⟩
  · rw [if_pos (by omega)]
    have := hF (t - 9) (by omega)
    omega
  · rw [if_neg (by omega)]; omega
theorem fac_b {A : Nat → Nat} (ok : okA A) {k : Nat} (hk : k < 6) : ∀ q, q < 5 → facA A k q < 100 := by
  intro q hq
  have h16 := ok.1.2.2.2.1
  obtain ⟨c0, c1, c2, c3, -⟩ := ok.2.2.2.1 k hk
  have hf := far_b ok hk
  match q, hq with
  | 0, _ => show A 3 < 100; omega
  | 1, _ => show A (35 + 6 * k + 2) < 100; omega
  | 2, _ => show farA A k < 100; omega
  | 3, _ => show A (35 + 6 * k + 3) < 100; omega
  | 4, _ => show k < 100; omega
  | q + 5, h => exact absurd h (by omega)
theorem rM.s4 {σ : Sg} {A : Nat → Nat} (h : rM σ A) {i : Nat} {v : Int32} : rM (upS σ 4 i v) A := fun j a b c d => by rw [upS_ne (by decide)]; exact h j a b c d
theorem semM_cmp {x y g : Nat} (hx : opOk x) (hy : opOk y) (hg : g = 23 ∨ g = 24 ∨ g = 25) : SemM [opM x, opM y, sgM g] (fun F => cmpV g (opV x F) (opV y F)) := by
  intro σ A k tO i d m h ok hk hi hO hd hc
  have hl : ([opM x, opM y, sgM g] : List Int32).length = 3 := rfl
  rw [hl] at hi hd
  have h0 : σ 1 (119 + i) = opM x := hc 0 (by rw [hl]; omega)
  have h1 : σ 1 (119 + (i + 1)) = opM y := hc 1 (by rw [hl]; omega)
  have h2 : σ 1 (119 + (i + 2)) = sgM g := hc 2 (by rw [hl]; omega)
  have bx := opV_b hx (fac_b ok hk)
  have bY := opV_b hy (fac_b ok hk)
  have sg : sgM g ≤ -10 ∧ ¬ sgM g = -20 := by rcases hg with rfl | rfl | rfl <;> decide
  show ∃ σ', f_X12_isSo_l6 (nI tO) (nI k) (m + 2 + 1) (nI d) (nI i) σ = f_X12_isSo_l6 (nI tO) (nI k) m (nI (d + 1)) (nI (i + 3)) σ' ∧ _
  rw [m_val (m := m + 2) h ok hk hx (by omega) hO (by omega) h0, m_val (m := m + 1) h.s4 ok hk hy (by omega) hO (by omega) (by rw [upS_ne (by decide)]; exact h1), m_bin (m := m) (d := d) (i := i + 1 + 1) (by omega) hO (by omega) (by rw [upS_ne (by decide), upS_ne (by decide)]; exact h2) sg.1 sg.2,
    upS_nj (q := 4) (j := d) (by omega), upS_at, upS_at, hold_cmp hg (by omega) (by omega)]
  exact ⟨_, rfl, upS_at, fun j hj => by rw [upS_nj (by omega), upS_nj (by omega), upS_nj (by omega)], fun p hp => by rw [upS_ne hp, upS_ne hp, upS_ne hp]⟩
theorem semM_not {l : List Int32} {φ : Fct → Bool} (h : SemM l φ) : SemM (l ++ [-20]) (fun F => !φ F) := by
  intro σ A k tO i d m hr ok hk hi hO hd hc
  have hl : (l ++ [-20] : List Int32).length = l.length + 1 := by rw [List.length_append]; rfl
  rw [hl] at hi hd hc ⊢
  obtain ⟨σ1, p1, p2, p3, p4⟩ := h σ A k tO i d (m + 1) hr ok hk (by omega) hO (by omega) (fun j hj => by rw [hc j (by omega), getD_l l _ hj])
  have hx : σ1 1 (119 + (i + l.length)) = -20 := by
    rw [p4 1 (by decide), hc l.length (by omega)]
    have := getD_r l [-20] 0
    rw [Nat.add_zero] at this
    exact this
  rw [show m + (l.length + 1) = m + 1 + l.length by omega, p1, m_not (by omega) hO (by omega) hx, p2, show i + l.length + 1 = i + (l.length + 1) by omega]
  refine ⟨_, rfl, ?_, fun j hj => by rw [upS_nj (by omega)]; exact p3 j hj, fun p hp => by rw [upS_ne hp]; exact p4 p hp⟩
  rw [upS_at]
  show 1 - b2i (φ (facA A k)) = b2i (!φ (facA A k))
  cases φ (facA A k) <;> rfl
theorem semM_bin {l1 l2 : List Int32} {φ1 φ2 : Fct → Bool} {x : Int32} {op : Bool → Bool → Bool} (n1 : 1 ≤ l1.length) (n2 : 1 ≤ l2.length) (hx : x ≤ -10) (hx2 : ¬ x = -20) (ho : ∀ a b σ, f_X12_isHolding x (b2i a) (b2i b) σ = op a b) (h1 : SemM l1 φ1) (h2 : SemM l2 φ2) : SemM (l1 ++ l2 ++ [x]) (fun F => op (φ1 F) (φ2 F)) := by
  intro σ A k tO i d m hr ok hk hi hO hd hc
  have hl : (l1 ++ l2 ++ [x] : List Int32).length = l1.length + l2.length + 1 := by rw [List.length_append, List.length_append]; rfl
  have hl2 : (l1 ++ l2 : List Int32).length = l1.length + l2.length := List.length_append
  rw [hl] at hi hd hc ⊢
  obtain ⟨σ1, p1, p2, p3, p4⟩ := h1 σ A k tO i d (m + 1 + l2.length) hr ok hk (by omega) hO (by omega) (fun j hj => by rw [hc j (by omega), getD_l _ _ (by omega), getD_l l1 _ hj])
  obtain ⟨σ2, q1, q2, q3, q4⟩ := h2 σ1 A k tO (i + l1.length) (d + 1) (m + 1) (fun j a b c e => by rw [p4 1 (by decide)]; exact hr j a b c e) ok hk (by omega) hO (by omega) (fun j hj => by rw [p4 1 (by decide), show i + l1.length + j = i + (l1.length + j) by omega, hc (l1.length + j) (by omega), getD_l _ _ (by omega), getD_r])
  have hcx : σ2 1 (119 + (i + l1.length + l2.length)) = x := by
    rw [q4 1 (by decide), p4 1 (by decide), show i + l1.length + l2.length = i + (l1.length + l2.length) by omega, hc (l1.length + l2.length) (by omega), ← hl2]
    have := getD_r (l1 ++ l2) [x] 0
    rw [Nat.add_zero] at this
    exact this
  have e1 : σ2 4 d = b2i (φ1 (facA A k)) := by rw [q3 d (by omega), p2]
  rw [show m + (l1.length + l2.length + 1) = m + 1 + l2.length + l1.length by omega, p1, q1, show d + 1 + 1 = d + 2 from rfl, m_bin (by omega) hO (by omega) hcx hx hx2, e1, q2, ho, show i + l1.length + l2.length + 1 = i + (l1.length + l2.length + 1) by omega]
  exact ⟨_, rfl, upS_at, fun j hj => by rw [upS_nj (by omega), q3 j (by omega), p3 j hj], fun p hp => by rw [upS_ne hp, q4 p hp, p4 p hp]⟩
theorem hold_and (a b : Bool) (σ : Sg) : f_X12_isHolding (-21) (b2i a) (b2i b) σ = (a && b) := by
  cases a <;> cases b <;> rfl
theorem hold_or (a b : Bool) (σ : Sg) : f_X12_isHolding (-22) (b2i a) (b2i b) σ = (a || b) := by
  cases a <;> cases b <;> rfl
/-! the class's items -/
theorem c_oper {σ : Sg} {F : Fct} (hF : ∀ q, q < 5 → F q < 100 ∧ σ 40 q = nI (F q)) {t : Nat} (ht : opOk t) {α : Type} {K : Int32 → Option α} : (if opC t < 10000 then K (opC t) else if 10005 ≤ opC t then K (opC t) else Option.bind (rd σ 40 5 (opC t - 10000)) K) = K (nI (opV t F)) := by
  unfold opC opV
  rcases ht with ⟨t1, t2⟩ | ⟨t1, t2⟩
  · rw [if_pos (show t < 100 by omega), if_pos (show t < 100 by omega), if_neg (show ¬ nI (10000 + t - 9) < (10000 : Int32) from nI_nlt (b := 10000) (by omega) (by omega)), if_neg (show ¬ (10005 : Int32) ≤ nI (10000 + t - 9) from nI_ge (b := 10005) (by omega) (by decide)), show nI (10000 + t - 9) - 10000 = nI (t - 9) by rw [show (10000 : Int32) = nI 10000 from rfl, pk_sub (by omega)]; exact congrArg nI (by omega), rd_nI (by omega) (by decide), bnd_some, (hF (t - 9) (by omega)).2]
  · rw [if_neg (show ¬ t < 100 by omega), if_neg (show ¬ t < 100 by omega), if_pos (show nI (t - 100) < (10000 : Int32) from nI_lt (b := 10000) (by omega) (by decide))]
theorem c_cmp58 {g a b : Nat} (hg : g = 23 ∨ g = 24 ∨ g = 25) (ha : a < 2 ^ 31) (hb : b < 2 ^ 31) (σ : Sg) : f_X9_compares_b58 (nI g) (nI a) (nI b) σ = some (cmpV g a b) := by
  unfold f_X9_compares_b58
  rcases hg with rfl | rfl | rfl
  · rw [if_neg (show ¬ ¬ nI 23 = (23 : Int32) by decide), show cmpV 23 a b = decide (a < b) from rfl]
    by_cases q : a < b
    · rw [if_neg (nI_ge q hb), decide_eq_true q]
    · rw [if_pos (nI_le (by omega) ha), decide_eq_false q]
  · rw [if_pos (show ¬ nI 24 = (23 : Int32) by decide), if_neg (show ¬ ¬ nI 24 = (24 : Int32) by decide), show cmpV 24 a b = decide (a = b) from rfl]
    by_cases q : a = b
    · rw [if_neg (show ¬ ¬ nI a = nI b from fun z => z (by rw [q])), decide_eq_true q]
    · rw [if_pos (show ¬ nI a = nI b from fun z => q ((nI_eq ha hb).mp z)), decide_eq_false q]
  · rw [if_pos (show ¬ nI 25 = (23 : Int32) by decide), if_pos (show ¬ nI 25 = (24 : Int32) by decide), show cmpV 25 a b = decide (b < a) from rfl]
    by_cases q : b < a
    · rw [if_neg (nI_ge q ha), decide_eq_true q]
    · rw [if_pos (nI_le (by omega) hb), decide_eq_false q]
theorem c_compares {σ : Sg} {F : Fct} (hF : ∀ q, q < 5 → F q < 100 ∧ σ 40 q = nI (F q)) {x y g : Nat} (hx : opOk x) (hy : opOk y) (hg : g = 23 ∨ g = 24 ∨ g = 25) : f_X9_compares (nI g) (opC x) (opC y) σ = some (cmpV g (opV x F) (opV y F)) := by
  have bx := opV_b hx (fun q hq => (hF q hq).1)
  have bY := opV_b hy (fun q hq => (hF q hq).1)
  have e1 := c_oper hF hx (K := fun v => f_X9_compares_b28 (nI g) (opC y) v σ)
  have e2 := c_oper hF hy (K := fun v => f_X9_compares_b58 (nI g) (nI (opV x F)) v σ)
  unfold f_X9_compares
  refine e1.trans ?_
  unfold f_X9_compares_b28
  refine e2.trans ?_
  exact c_cmp58 hg (by omega) (by omega) σ
theorem c_push : ∀ b : Bool, ∀ s, s < 2 ^ 29 → (if b = true then (shl32 (nI s) 1) ||| 1 else (shl32 (nI s) 1) ||| 0) = nI (2 * s + (if b = true then 1 else 0)) := by
  intro b s hs
  have e : shl32 (nI s) 1 = nI (2 * s) := by
    show nI s <<< ((1 : Int32) &&& 31) = _
    rw [pk_shlN _ 1 (by decide) (by omega)]
    exact congrArg nI (by omega)
  have e2 : (nI (2 * s)) ||| 1 = nI (2 * s + 1) := by
    apply Int32.toBitVec_inj.mp
    apply BitVec.eq_of_toNat_eq
    rw [Int32.toBitVec_or, BitVec.toNat_or, pk_tn (by omega), pk_tn (by omega)]
    show 2 * s ||| 1 = 2 * s + 1
    have := Nat.two_pow_add_eq_or_of_lt (i := 1) (b := 1) (by decide) s
    rw [Nat.pow_one] at this
    exact this.symm
  cases b with
  | true => rw [if_pos rfl, if_pos rfl, e, e2]
  | false => rw [if_neg (by decide), if_neg (by decide), e]; exact Int32.or_zero
theorem c_low {s : Nat} (hs : s < 2 ^ 31) : nI s &&& 1 = nI (s % 2) := by
  rw [pk_andN (by omega) 1 (by decide)]
theorem c_shr1 {s : Nat} (hs : s < 2 ^ 31) : ushr32 (nI s) 1 = nI (s / 2) := by
  show ((nI s).toUInt32 >>> ((1 : Int32).toUInt32 &&& Int32.toUInt32 31)).toInt32 = _
  rw [pk_ushrN (by omega) 1 1 (by decide)]
theorem c_xor1 {s : Nat} (b : Bool) (hs : s < 2 ^ 29) : nI (2 * s + (if b = true then 1 else 0)) ^^^ 1 = nI (2 * s + (if (!b) = true then 1 else 0)) := by
  have h1 : (2 * s) ^^^ 1 = 2 * s + 1 := by
    have := Nat.two_pow_add_eq_or_of_lt (i := 1) (b := 1) (by decide) s
    rw [Nat.pow_one] at this
    rw [this]
    apply Nat.eq_of_testBit_eq
    intro i
    rw [Nat.testBit_xor, Nat.testBit_or]
    cases i with
    | zero => simp
    | succ i => simp [Nat.testBit_succ]
  have h2 : (2 * s + 1) ^^^ 1 = 2 * s := by rw [← h1, Nat.xor_assoc, Nat.xor_self, Nat.xor_zero]
  apply Int32.toBitVec_inj.mp
  apply BitVec.eq_of_toNat_eq
  rw [Int32.toBitVec_xor, BitVec.toNat_xor]
  cases b with
  | true => rw [if_pos rfl, if_neg (by decide), pk_tn (by omega), pk_tn (by omega)]; exact h2
  | false => rw [if_neg (by decide), if_pos (by decide), pk_tn (by omega), pk_tn (by omega)]; exact h1
theorem c_andm2 {s : Nat} (hs : s < 2 ^ 30) : nI s &&& (-2) = nI (s / 2 * 2) := by
  have e : nI s &&& 1 = nI (s % 2) := c_low (by omega)
  have key : ∀ x : Int32, x &&& (-2) = x - (x &&& 1) := by
    intro x
    apply Int32.toBitVec_inj.mp
    rw [Int32.toBitVec_and, Int32.toBitVec_sub, Int32.toBitVec_and]
    show x.toBitVec &&& 4294967294#32 = x.toBitVec - (x.toBitVec &&& 1#32)
    apply BitVec.eq_of_toNat_eq
    rw [BitVec.toNat_sub, BitVec.toNat_and, BitVec.toNat_and]
    have hx := x.toBitVec.isLt
    generalize x.toBitVec.toNat = y at hx
    have e1 : y &&& (1#32).toNat = y % 2 := Nat.and_two_pow_sub_one_eq_mod y 1
    have e2 : y &&& (4294967294#32).toNat = y / 2 * 2 := by
      show y &&& 4294967294 = y / 2 * 2
      apply Nat.eq_of_testBit_eq
      intro i
      rw [Nat.testBit_and]
      cases i with
      | zero =>
        have : (4294967294 : Nat).testBit 0 = false := by decide
        rw [this, Bool.and_false, Nat.testBit_zero]
        symm
        exact decide_eq_false (by omega)
      | succ i =>
        rw [Nat.testBit_succ, Nat.testBit_succ, Nat.testBit_succ, show y / 2 * 2 / 2 = y / 2 by omega, show 4294967294 / 2 = 2 ^ 31 - 1 by decide, Nat.testBit_two_pow_sub_one]
        by_cases q : i < 31
        · rw [decide_eq_true q, Bool.and_true]
        · rw [decide_eq_false q, Bool.and_false]
          symm
          exact Nat.testBit_lt_two_pow (Nat.lt_of_lt_of_le (show y / 2 < 2 ^ 31 by omega) (Nat.pow_le_pow_right (by decide) (by omega)))
    rw [e1, e2]
    omega
  rw [key, e, pk_sub (by omega)]
  exact congrArg nI (by omega)
