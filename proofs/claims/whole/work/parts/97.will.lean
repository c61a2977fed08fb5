/-! what read rules do, on both sides -/
def fct5 (g st fa nm k : Nat) : Fct := fun q => if q = 0 then g else if q = 1 then st else if q = 2 then fa else if q = 3 then nm else k
def wilN (kR ds : Nat → Nat) (φ : Nat → Fct → Bool) (kd : Nat) (F : Fct) : Nat → Nat → Nat
  | 0, _ => 0
  | d + 1, q => if underN kd (kR q) = true ∧ φ q F = true then ds q else wilN kR ds φ kd F d (q + 1)
theorem wil_t {kR ds : Nat → Nat} {φ : Nat → Fct → Bool} {kd d q : Nat} {F : Fct} (h : underN kd (kR q) = true ∧ φ q F = true) : wilN kR ds φ kd F (d + 1) q = ds q := if_pos h
theorem wil_f {kR ds : Nat → Nat} {φ : Nat → Fct → Bool} {kd d q : Nat} {F : Fct} (h : ¬ (underN kd (kR q) = true ∧ φ q F = true)) : wilN kR ds φ kd F (d + 1) q = wilN kR ds φ kd F d (q + 1) := if_neg h
theorem wil_le {kR ds : Nat → Nat} {φ : Nat → Fct → Bool} {kd r : Nat} {F : Fct} (h : ∀ q, q < r → ds q ≤ 2) : ∀ d q, q + d = r → wilN kR ds φ kd F d q ≤ 2
  | 0, _, _ => Nat.zero_le _
  | d + 1, q, hd => by
    by_cases c : underN kd (kR q) = true ∧ φ q F = true
    · rw [wil_t c]; exact h q (by omega)
    · rw [wil_f c]; exact wil_le h d (q + 1) (by omega)
def WR (kR ds : Nat → Nat) (φ : Nat → Fct → Bool) (r : Nat) : WT := fun kd g st fa nm k => wilN kR ds φ kd (fct5 g st fa nm k) r 0
theorem WR_ok {kR ds : Nat → Nat} {φ : Nat → Fct → Bool} {r : Nat} (h : ∀ q, q < r → ds q ≤ 2) : okW (WR kR ds φ r) := fun _ _ _ _ _ _ => wil_le h r 0 (by omega)
/-- the reference holds so many rules -/
def RuM (r : Nat) (kR ds en : Nat → Nat) (φ : Nat → Fct → Bool) (σ : Sg) : Prop := r ≤ 8 ∧ σ 1 1 = nI r ∧ ∀ q, q < r → (kR q < 6 ∧ ds q ≤ 2) ∧ (σ 1 (95 + 3 * q) = nI (kR q) ∧ σ 1 (95 + 3 * q + 1) = nI (ds q) ∧ σ 1 (95 + 3 * q + 2) = nI (en q)) ∧ ∃ l c, Sem l c (φ q) ∧ en q = sE en q + l.length ∧ en q ≤ 200 ∧ ∀ i, i < l.length → σ 1 (119 + (sE en q + i)) = l.getD i 0
def RuC (r : Nat) (kR ds : Nat → Nat) (φ : Nat → Fct → Bool) (σ : Sg) : Prop := r ≤ 8 ∧ σ 34 0 = nI r ∧ ∀ q, q < r → (kR q < 6 ∧ ds q ≤ 2) ∧ (σ 35 q = nI (kR q) ∧ σ 36 q = nI (ds q)) ∧ ∃ l c fc, Sem l c (φ q) ∧ σ 37 q = nI fc ∧ σ 38 q = nI (fc + c.length) ∧ fc + c.length ≤ 200 ∧ ∀ i, i < c.length → σ 39 (fc + i) = c.getD i 0
theorem RuM.eq {r : Nat} {kR ds en : Nat → Nat} {φ : Nat → Fct → Bool} {σ σ' : Sg} (h : RuM r kR ds en φ σ) (e : eqM σ σ') : RuM r kR ds en φ σ' := by
  obtain ⟨h1, h2, h3⟩ := h
  refine ⟨h1, (e 1 (by omega) (by omega)).trans h2, fun q hq => ?_⟩
  obtain ⟨o1, ⟨o2, o3, o4⟩, l, c, o5, o6, o7, o8⟩ := h3 q hq
  exact ⟨o1, ⟨(e _ (by omega) (by omega)).trans o2, (e _ (by omega) (by omega)).trans o3, (e _ (by omega) (by omega)).trans o4⟩, l, c, o5, o6, o7, fun i hi => (e _ (by omega) (by omega)).trans (o8 i hi)⟩
theorem RuM.s4 {r : Nat} {kR ds en : Nat → Nat} {φ : Nat → Fct → Bool} {σ σ' : Sg} (h : RuM r kR ds en φ σ) (e : ∀ p, p ≠ 4 → σ' p = σ p) : RuM r kR ds en φ σ' := h.eq (fun i _ _ => by rw [e 1 (by decide)])
theorem RuC.eq {r : Nat} {kR ds : Nat → Nat} {φ : Nat → Fct → Bool} {σ σ' : Sg} (h : RuC r kR ds φ σ) (e : eqR σ σ') : RuC r kR ds φ σ' := by
  obtain ⟨h1, h2, h3⟩ := h
  refine ⟨h1, e.1.trans h2, fun q hq => ?_⟩
  obtain ⟨o1, ⟨o2, o3⟩, l, c, fc, o5, o6, o7, o8, o9⟩ := h3 q hq
  obtain ⟨a1, a2, a3, a4⟩ := e.2.1 q (by omega)
  exact ⟨o1, ⟨a1.trans o2, a2.trans o3⟩, l, c, fc, o5, a3.trans o6, a4.trans o7, o8, fun i hi => (e.2.2 _ (by omega)).trans (o9 i hi)⟩
theorem sE_s (en : Nat → Nat) (q : Nat) : sE en (q + 1) = en q := by
  unfold sE
  rw [if_neg (by omega), Nat.add_sub_cancel]
theorem m_will_e {n r d : Nat} {x1 x2 x4 : Int32} {σ : Sg} (hd : d ≤ 2) : f_X12_will_l15 x1 x2 (n + 1) (nI d) x4 (nI r) σ = some (nI d, σ) := by
  show f_X12_will_b15 (f_X12_will_l15 x1 x2 n) x1 x2 (nI d) x4 (nI r) σ = _
  unfold f_X12_will_b15 f_X12_will_b105
  have h0 : (0 : Int32) ≤ nI d := nI_le (a := 0) (by omega) (by omega)
  simp only [if_pos h0, ite_self]
theorem m_will_l {r : Nat} {kR ds en : Nat → Nat} {φ : Nat → Fct → Bool} {A : Nat → Nat} (ok : okA A) {k : Nat} (hk : k < 6) : ∀ (d q n : Nat) (σ : Sg), q + d = r → d + 1 < n → RuM r kR ds en φ σ → rM σ A → ∃ σ', f_X12_will_l15 (nI k) (nI (A (35 + 6 * k + 0))) n (-1) (nI (sE en q)) (nI q) σ = some (nI (wilN kR ds φ (A (35 + 6 * k + 0)) (facA A k) d q), σ') ∧ ∀ p, p ≠ 4 → σ' p = σ p
  | d, q, 0, σ, _, h, _, _ => absurd h (by omega)
  | d, q, n + 1, σ, hd, hn, R, hr => by
    obtain ⟨r8, r1, r2⟩ := id R
    have hkk := (ok.2.2.2.1 k hk).1
    show ∃ σ', f_X12_will_b15 (f_X12_will_l15 (nI k) (nI (A (35 + 6 * k + 0))) n) (nI k) (nI (A (35 + 6 * k + 0))) (-1) (nI (sE en q)) (nI q) σ = some (_, σ') ∧ _
    unfold f_X12_will_b15
    rw [r1]
    cases d with
    | zero =>
      rw [if_pos (nI_le (by omega) (by omega))]
      unfold f_X12_will_b105
      rw [if_neg (by decide)]
      exact ⟨σ, rfl, fun _ _ => rfl⟩
    | succ d =>
      obtain ⟨⟨o1, o1'⟩, ⟨o2, o3, o4⟩, l, c, o5, o6, o7, o8⟩ := r2 q (by omega)
      have e95 : (95 : Int32) + 3 * nI q = nI (95 + 3 * q) := by
        rw [show (3 : Int32) * nI q = nI (3 * q) from pk_mul 3 q]
        exact nI_add 95 _
      rw [if_neg (nI_ge (by omega) (by omega)), if_neg (by decide), lt_ap, e95, show nI (95 + 3 * q) + 0 = nI (95 + 3 * q) from Int32.add_zero _, nI_1, show nI (95 + 3 * q) + 2 = nI (95 + 3 * q + 2) from nI_add _ 2, rd_nI (by omega) (by decide), bnd_some, o2, m_under (by omega) o1]
      have next : ∀ σ1 : Sg, (∀ p, p ≠ 4 → σ1 p = σ p) → ¬ (underN (A (35 + 6 * k + 0)) (kR q) = true ∧ φ q (facA A k) = true) → ∃ σ', f_X12_will_b87 (f_X12_will_l15 (nI k) (nI (A (35 + 6 * k + 0))) n) (nI k) (nI (A (35 + 6 * k + 0))) (nI q) (nI (95 + 3 * q)) (-1) σ1 = some (nI (wilN kR ds φ (A (35 + 6 * k + 0)) (facA A k) (d + 1) q), σ') ∧ ∀ p, p ≠ 4 → σ' p = σ p := fun σ1 e1 no => by
        unfold f_X12_will_b87
        rw [show nI (95 + 3 * q) + 2 = nI (95 + 3 * q + 2) from nI_add _ 2, rd_nI (by omega) (by decide), bnd_some, e1 1 (by decide), o4, nI_1, wil_f no, ← sE_s en q]
        obtain ⟨σ', p1, p2⟩ := m_will_l ok hk d (q + 1) n σ1 (by omega) (by omega) (R.s4 e1) (hr.stk e1)
        exact ⟨σ', p1, fun p hp => (p2 p hp).trans (e1 p hp)⟩
      by_cases u : underN (A (35 + 6 * k + 0)) (kR q) = true
      · obtain ⟨σ1, s1, s2⟩ := m_isSo o5 hr ok hk (fr := sE en q) (by omega) o8
        rw [if_pos u, rd_nI (by omega) (by decide), bnd_some, o4, o6, s1, bd2_some]
        by_cases v : φ q (facA A k) = true
        · rw [if_pos v, rd_nI (by omega) (by decide), bnd_some, s2 1 (by decide), o3]
          unfold f_X12_will_b87
          rw [show nI (95 + 3 * q) + 2 = nI (95 + 3 * q + 2) from nI_add _ 2, rd_nI (by omega) (by decide), bnd_some, nI_1]
          obtain ⟨n', rfl⟩ : ∃ n', n = n' + 1 := ⟨n - 1, by omega⟩
          rw [m_will_e o1', wil_t ⟨u, v⟩]
          exact ⟨σ1, rfl, s2⟩
        · rw [if_neg v]
          exact next σ1 s2 (fun z => v z.2)
      · rw [if_neg u]
        exact next σ (fun _ _ => rfl) (fun z => u z.1)
theorem RuM.w {r : Nat} {kR ds en : Nat → Nat} {φ : Nat → Fct → Bool} {σ : Sg} (h : RuM r kR ds en φ σ) : rulM σ (WR kR ds φ r) := by
  intro σ' e A hr ok k hk
  have R := h.eq e
  unfold f_X12_will
  rw [show f_X12_its (nI k) 0 σ' = some (nI (A (35 + 6 * k + 0))) from m_its hr hk (by decide), bnd_some]
  have hr8 := R.1
  obtain ⟨σ2, p1, p2⟩ := m_will_l ok hk r 0 400 σ' (by omega) (by omega) R hr
  exact ⟨σ2, p1, p2⟩
theorem c_do_l {r : Nat} {kR ds : Nat → Nat} {φ : Nat → Fct → Bool} {σ : Sg} (R : RuC r kR ds φ σ) {kd : Nat} (hk : kd < 6) {F : Fct} (hF : ∀ q, q < 5 → F q < 100 ∧ σ 40 q = nI (F q)) : ∀ d q n, q + d = r → d < n → f_X9_doFor_l2 (nI kd) σ n (nI q) = some (nI (wilN kR ds φ kd F d q))
  | d, q, 0, _, h => absurd h (by omega)
  | d, q, n + 1, hd, hn => by
    obtain ⟨r8, r1, r2⟩ := id R
    show f_X9_doFor_b2 (f_X9_doFor_l2 (nI kd) σ n) (nI kd) σ (nI q) = _
    unfold f_X9_doFor_b2
    rw [r1]
    cases d with
    | zero => rw [if_pos (nI_le (by omega) (by omega))]; rfl
    | succ d =>
      obtain ⟨⟨o1, o1'⟩, ⟨o2, o3⟩, l, c, fc, o5, o6, o7, o8, o9⟩ := r2 q (by omega)
      have ih := c_do_l R hk hF d (q + 1) n (by omega) (by omega)
      rw [if_neg (nI_ge (by omega) (by omega)), rd_nI (by omega) (by decide), bnd_some, o2, c_under hk o1, nI_1]
      by_cases u : underN kd (kR q) = true
      · rw [if_pos u, c_isSo o5 (by omega) hF o6 o7 o8 o9, bnd_some]
        by_cases v : φ q F = true
        · rw [if_pos v, rd_nI (by omega) (by decide), bnd_some, o3, wil_t ⟨u, v⟩]
        · rw [if_neg v, wil_f (fun z => v z.2)]; exact ih
      · rw [if_neg u, wil_f (fun z => u z.1)]; exact ih
theorem RuC.w {r : Nat} {kR ds : Nat → Nat} {φ : Nat → Fct → Bool} {σ : Sg} (h : RuC r kR ds φ σ) : rulC σ (WR kR ds φ r) := by
  intro σ' e kd g st fa nm k hk hg hst hfa hnm hk6 e0 e1 e2 e3 e4
  have R := h.eq e
  have r8 := R.1
  unfold f_X9_doFor
  refine c_do_l R hk (F := fct5 g st fa nm k) (fun q hq => ?_) r 0 400 (by omega) (by omega)
  match q, hq with
  | 0, _ => exact ⟨by show g < 100; omega, e0⟩
  | 1, _ => exact ⟨by show st < 100; omega, e1⟩
  | 2, _ => exact ⟨by show fa < 100; omega, e2⟩
  | 3, _ => exact ⟨by show nm < 100; omega, e3⟩
  | 4, _ => exact ⟨by show k < 100; omega, e4⟩
  | q + 5, h => exact absurd h (by omega)
