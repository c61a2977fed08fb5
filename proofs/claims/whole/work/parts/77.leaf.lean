/-! plans: what both sides have found, at a leaf -/
theorem told_w {W : WT} {A : Nat → Nat} (ok : okA A) {k : Nat} (hk : k < 6) : (toldA W A k).1 ≤ 27 := by
  have h0 := (ok.2.2.2.1 k hk).1
  have hfe := fee_le _ (show A (35 + 6 * k + 0) < 6 by omega) k hk
  by_cases h : willA W A k = 0 ∧ farA A k ≤ A (23 + 2 * A (35 + 6 * k + 3) + 1)
  · rw [told_a h.1 h.2]
    dsimp only
    omega
  · rw [told_b h]
    dsimp only
    split <;> omega
theorem goes_w {W : WT} {A : Nat → Nat} (ok : okA A) (hg : A 3 < 16) {act : Nat} (ha : act ≤ A 0) : (goesA W A act).1 ≤ 27 := by
  have hm := ok.1.1
  by_cases h0 : act = 0
  · subst h0
    rw [goes_0]
    exact Nat.zero_le _
  · by_cases h4 : gustA A (35 + 6 * (act - 1) + 4) = 1
    · rw [goes_a h0 h4]
      exact told_w (gust_ok ok hg) (by omega)
    · rw [goes_b h0 h4]
      exact Nat.zero_le _
/-- how many acts aren't 0, of so many from k on -/
def cntF (P : Nat → Nat) : Nat → Nat → Nat
  | 0, _ => 0
  | d + 1, k => (if P k = 0 then 0 else 1) + cntF P d (k + 1)
theorem cnt_s (P : Nat → Nat) : ∀ d k, cntF P (d + 1) k = cntF P d k + (if P (k + d) = 0 then 0 else 1)
  | 0, k => by
    show (if P k = 0 then 0 else 1) + 0 = 0 + _
    rw [Nat.add_zero, Nat.add_zero, Nat.zero_add]
  | d + 1, k => by
    show (if P k = 0 then 0 else 1) + cntF P (d + 1) (k + 1) = ((if P k = 0 then 0 else 1) + cntF P d (k + 1)) + _
    rw [cnt_s P d (k + 1), show k + 1 + d = k + (d + 1) by omega, Nat.add_assoc]
theorem cnt_le (P : Nat → Nat) : ∀ d k, cntF P d k ≤ d
  | 0, _ => Nat.le_refl _
  | d + 1, k => by
    have := cnt_le P d (k + 1)
    show (if P k = 0 then 0 else 1) + cntF P d (k + 1) ≤ d + 1
    split <;> omega
theorem cnt_eq {P Q : Nat → Nat} : ∀ d k, (∀ j, j < k + d → P j = Q j) → cntF P d k = cntF Q d k
  | 0, _, _ => rfl
  | d + 1, k, h => by
    show (if P k = 0 then 0 else 1) + cntF P d (k + 1) = (if Q k = 0 then 0 else 1) + cntF Q d (k + 1)
    rw [h k (by omega), cnt_eq d (k + 1) (fun j hj => h j (by omega))]
/-- what both sides have found -/
def PlR (A : Nat → Nat) (u v : Nat) (σM σC : Sg) : Prop :=
  ((σM 0 8 = -1 ∧ σC 78 5 = -1) ∨ ∃ w, w < 1000 ∧ σM 0 8 = nI w ∧ σC 78 5 = nI w ∧ σC 78 6 = σM 0 9 ∧ ∃ L, L ≤ 4 ∧ A 3 + L ≤ 16 ∧ σM 0 13 = nI L ∧ σC 78 4 = nI L ∧ ∀ k, k < L → ∃ a, a ≤ A 0 ∧ σM 7 k = nI a ∧ σC 81 k = nI a) ∧
  (∃ s, s < 64 ∧ σM 0 11 = nI s ∧ σC 78 9 = nI s) ∧ (σM 0 12 = nI u ∧ σC 78 8 = nI v ∧ u < 64 ∧ v < 64) ∧ (u = v → (σM 0 10 = nI 5 ∧ σC 78 7 = -3) ∨ ∃ t, t ≤ 4 ∧ σM 0 10 = nI t ∧ σC 78 7 = nI t)
/-- the reference's leaf, from where the acts are counted -/
def lastM (t : Int32) (σ : Sg) : Option Sg :=
    Option.bind (f_X12_those 5 σ) fun vq7 =>
    lt (upS σ 0 11 ((σ 0 11) ||| vq7)) fun σ8 =>
    if ¬ ((σ8 0 12) &&& (vq7 ^^^ (-1))) = 0 then
      lt (upS σ8 0 10 (σ8 0 10)) fun σ9 =>
      some σ9
    else
      if (σ8 0 10) ≤ t then
        lt (upS σ8 0 10 (σ8 0 10)) fun σ10 =>
        some σ10
      else
        lt (upS σ8 0 10 t) fun σ11 =>
        some σ11
theorem m_last {σ : Sg} {B : Nat → Nat} (h : rM σ B) (ok : okA B) {s u : Nat} (hs : s < 64) (e11 : σ 0 11 = nI s) (e12 : σ 0 12 = nI u) (t : Int32) :
    ∃ σ', lastM t σ = some σ' ∧ σ' 0 11 = nI (s ||| setN B 5) ∧ ((nI u &&& (nI (setN B 5) ^^^ (-1)) = 0 ∧ ¬ σ 0 10 ≤ t ∧ σ' 0 10 = t) ∨ (¬ (nI u &&& (nI (setN B 5) ^^^ (-1)) = 0 ∧ ¬ σ 0 10 ≤ t) ∧ σ' 0 10 = σ 0 10)) ∧ (∀ i, i ≠ 10 → i ≠ 11 → σ' 0 i = σ 0 i) ∧ ∀ p, p ≠ 0 → σ' p = σ p := by
  have hB := set_lt (ok_sv ok)
  unfold lastM
  rw [show f_X12_those 5 σ = some (nI (setN B 5)) from m_those h ok (Or.inr rfl), bnd_some, lt_ap, e11, (or_on s hs _ hB).1, upS_nj (j := 12) (by omega), e12, upS_nj (j := 10) (by omega)]
  by_cases q : nI u &&& (nI (setN B 5) ^^^ (-1)) = 0
  · rw [if_neg (fun z => z q)]
    by_cases q2 : σ 0 10 ≤ t
    · rw [if_pos q2, lt_ap]
      refine ⟨_, rfl, by rw [upS_nj (by omega), upS_at], Or.inr ⟨fun z => z.2 q2, upS_at⟩, fun i h1 h2 => by rw [upS_nj (by omega), upS_nj (by omega)], fun p hp => by rw [upS_ne hp, upS_ne hp]⟩
    · rw [if_neg q2, lt_ap]
      refine ⟨_, rfl, by rw [upS_nj (by omega), upS_at], Or.inl ⟨q, q2, upS_at⟩, fun i h1 h2 => by rw [upS_nj (by omega), upS_nj (by omega)], fun p hp => by rw [upS_ne hp, upS_ne hp]⟩
  · rw [if_pos q, lt_ap]
    refine ⟨_, rfl, by rw [upS_nj (by omega), upS_at], Or.inr ⟨fun z => q z.1, upS_at⟩, fun i h1 h2 => by rw [upS_nj (by omega), upS_nj (by omega)], fun p hp => by rw [upS_ne hp, upS_ne hp]⟩
theorem m_cnt_l {P : Nat → Nat} {d : Nat} (hd4 : d ≤ 4) {σ : Sg} (hP : ∀ k, k < d → P k ≤ 6 ∧ σ 6 k = nI (P k)) : ∀ j k n acc, k + j = d → j < n → f_X12_ended_l75 (nI d) n (nI acc) (nI k) σ = lastM (nI (acc + cntF P j k)) σ
  | j, k, 0, acc, _, h => absurd h (by omega)
  | j, k, n + 1, acc, hj, hn => by
    show f_X12_ended_b75 (f_X12_ended_l75 (nI d) n) (nI d) (nI acc) (nI k) σ = _
    unfold f_X12_ended_b75
    cases j with
    | zero => rw [if_pos (nI_le (by omega) (by omega))]; rfl
    | succ j =>
      obtain ⟨p1, p2⟩ := hP k (by omega)
      rw [if_neg (nI_ge (by omega) (by omega)), rd_nI (by omega) (by decide), bnd_some, p2, nI_1]
      show _ = lastM (nI (acc + ((if P k = 0 then 0 else 1) + cntF P j (k + 1)))) σ
      by_cases q : P k = 0
      · rw [q, if_pos (show nI 0 ≤ (0 : Int32) by decide), lt_ap, if_pos rfl, Nat.zero_add, show nI acc + 0 = nI acc from Int32.add_zero _]
        exact m_cnt_l hd4 hP j (k + 1) n acc (by omega) (by omega)
      · rw [if_neg (nI_nle (by omega) (by omega)), lt_ap, if_neg q, nI_1, m_cnt_l hd4 hP j (k + 1) n (acc + 1) (by omega) (by omega), Nat.add_assoc]
theorem m_b48 {P : Nat → Nat} {d : Nat} (hd4 : d ≤ 4) {σ : Sg} (hP : ∀ k, k < d → P k ≤ 6 ∧ σ 6 k = nI (P k)) (w : Int32) : f_X12_ended_b48 (nI d) w σ = lastM (nI (cntF P d 0)) (upS σ 0 9 (σ 0 9 + (if w = σ 0 8 then 1 else 0))) := by
  have e := m_cnt_l hd4 (σ := upS σ 0 9 (σ 0 9 + (if w = σ 0 8 then 1 else 0))) (P := P) (fun k hk => by rw [upS_ne (by decide)]; exact hP k hk) d 0 400 0 (by omega) (by omega)
  rw [Nat.zero_add] at e
  unfold f_X12_ended_b48 f_X12_ended_b66
  by_cases q : w = σ 0 8
  · rw [if_neg (fun z => z q), lt_ap]
    rw [if_pos q] at e ⊢
    exact e
  · rw [if_pos q, lt_ap]
    rw [if_neg q] at e ⊢
    exact e
theorem m_line_l {d : Nat} (hd4 : d ≤ 4) (w : Int32) : ∀ j k n (σ : Sg), k + j = d → j < n → ∃ σ', f_X12_ended_l25 (nI d) w n (nI k) σ = f_X12_ended_b48 (nI d) w σ' ∧ (∀ i, k ≤ i → i < d → σ' 7 i = σ 6 i) ∧ (∀ i, i < k → σ' 7 i = σ 7 i) ∧ ∀ p, p ≠ 7 → σ' p = σ p
  | j, k, 0, σ, _, h => absurd h (by omega)
  | j, k, n + 1, σ, hj, hn => by
    show ∃ σ', f_X12_ended_b25 (f_X12_ended_l25 (nI d) w n) (nI d) w (nI k) σ = _ ∧ _
    unfold f_X12_ended_b25
    cases j with
    | zero =>
      rw [if_pos (nI_le (by omega) (by omega))]
      exact ⟨σ, rfl, fun i h1 h2 => absurd h2 (by omega), fun _ _ => rfl, fun _ _ => rfl⟩
    | succ j =>
      rw [if_neg (nI_ge (by omega) (by omega)), rd_nI (by omega) (by decide), bnd_some, wr_nI (by omega) (by decide), bnd_some, nI_1]
      obtain ⟨σ', p1, p2, p3, p4⟩ := m_line_l hd4 w j (k + 1) n (upS σ 7 k (σ 6 k)) (by omega) (by omega)
      refine ⟨σ', p1, fun i h1 h2 => ?_, fun i h1 => ?_, fun p hp => by rw [p4 p hp, upS_ne hp]⟩
      · by_cases e : i = k
        · subst e
          rw [p3 i (by omega), upS_at]
        · rw [p2 i (by omega) h2, upS_ne (by decide)]
      · rw [p3 i (by omega), upS_nj (by omega)]
/-- the reference's leaf -/
theorem m_ended {σ : Sg} {B P : Nat → Nat} (h : rM σ B) (ok : okA B) {d s u : Nat} (hd4 : d ≤ 4) (hP : ∀ k, k < d → P k ≤ 6 ∧ σ 6 k = nI (P k)) (hs : s < 64) (e11 : σ 0 11 = nI s) (e12 : σ 0 12 = nI u) (w : Int32) :
    ∃ σ', f_X12_ended (nI d) w σ = some σ' ∧ σ' 0 11 = nI (s ||| setN B 5) ∧ σ' 0 12 = σ 0 12 ∧
      ((nI u &&& (nI (setN B 5) ^^^ (-1)) = 0 ∧ ¬ σ 0 10 ≤ nI (cntF P d 0) ∧ σ' 0 10 = nI (cntF P d 0)) ∨ (¬ (nI u &&& (nI (setN B 5) ^^^ (-1)) = 0 ∧ ¬ σ 0 10 ≤ nI (cntF P d 0)) ∧ σ' 0 10 = σ 0 10)) ∧
      ((w ≤ σ 0 8 ∧ σ' 0 8 = σ 0 8 ∧ σ' 0 9 = σ 0 9 + (if w = σ 0 8 then 1 else 0) ∧ σ' 0 13 = σ 0 13 ∧ σ' 7 = σ 7) ∨ (¬ w ≤ σ 0 8 ∧ σ' 0 8 = w ∧ σ' 0 9 = 1 ∧ σ' 0 13 = nI d ∧ ∀ k, k < d → σ' 7 k = σ 6 k)) ∧
      (∀ i, i < 8 ∨ 14 ≤ i → σ' 0 i = σ 0 i) ∧ ∀ p, p ≠ 0 → p ≠ 7 → σ' p = σ p := by
  unfold f_X12_ended
  by_cases q : w ≤ σ 0 8
  · rw [if_pos q, m_b48 hd4 hP w]
    obtain ⟨σ', p1, p2, p3, p4, p5⟩ := m_last (σ := upS σ 0 9 (σ 0 9 + (if w = σ 0 8 then 1 else 0))) (B := B) (fun i a b c d => by rw [upS_ne (by decide)]; exact h i a b c d) ok hs (by rw [upS_nj (by omega)]; exact e11) (by rw [upS_nj (by omega)]; exact e12) (nI (cntF P d 0))
    rw [upS_nj (j := 10) (by omega)] at p3
    refine ⟨σ', p1, p2, by rw [p4 12 (by decide) (by decide), upS_nj (by omega)], p3, Or.inl ⟨q, by rw [p4 8 (by decide) (by decide), upS_nj (by omega)], by rw [p4 9 (by decide) (by decide), upS_at], by rw [p4 13 (by decide) (by decide), upS_nj (by omega)], by rw [p5 7 (by decide), upS_ne (by decide)]⟩, fun i hi => by rw [p4 i (by omega) (by omega), upS_nj (by omega)], fun p h1 h2 => by rw [p5 p h1, upS_ne h1]⟩
  · rw [if_neg q, lt_ap, lt_ap, lt_ap]
    obtain ⟨σ2, r1, r2, -, r4⟩ := m_line_l hd4 w d 0 400 (upS (upS (upS σ 0 8 w) 0 9 0) 0 13 (nI d)) (by omega) (by omega)
    have r1' : f_X12_ended_l25 (nI d) w 400 0 (upS (upS (upS σ 0 8 w) 0 9 0) 0 13 (nI d)) = _ := r1
    have z8 : σ2 0 8 = w := by rw [r4 0 (by decide), upS_nj (by omega), upS_nj (by omega), upS_at]
    have z9 : σ2 0 9 = 0 := by rw [r4 0 (by decide), upS_nj (by omega), upS_at]
    have z13 : σ2 0 13 = nI d := by rw [r4 0 (by decide), upS_at]
    have zo : ∀ i, i ≠ 8 → i ≠ 9 → i ≠ 13 → σ2 0 i = σ 0 i := fun i a b c => by rw [r4 0 (by decide), upS_nj (by omega), upS_nj (by omega), upS_nj (by omega)]
    have zp : ∀ p, p ≠ 0 → p ≠ 7 → σ2 p = σ p := fun p a b => by rw [r4 p b, upS_ne a, upS_ne a, upS_ne a]
    have z7 : ∀ k, k < d → σ2 7 k = σ 6 k := fun k hk => by rw [r2 k (by omega) hk, upS_ne (by decide), upS_ne (by decide), upS_ne (by decide)]
    rw [r1', m_b48 hd4 (σ := σ2) (P := P) (fun k hk => by rw [zp 6 (by decide) (by decide)]; exact hP k hk) w]
    obtain ⟨σ', p1, p2, p3, p4, p5⟩ := m_last (σ := upS σ2 0 9 (σ2 0 9 + (if w = σ2 0 8 then 1 else 0))) (B := B) (fun i a b c d => by rw [upS_ne (by decide), zp 1 (by decide) (by decide)]; exact h i a b c d) ok hs (by rw [upS_nj (by omega), zo 11 (by decide) (by decide) (by decide)]; exact e11) (by rw [upS_nj (by omega), zo 12 (by decide) (by decide) (by decide)]; exact e12) (nI (cntF P d 0))
    rw [upS_nj (j := 10) (by omega), zo 10 (by decide) (by decide) (by decide)] at p3
    refine ⟨σ', p1, p2, by rw [p4 12 (by decide) (by decide), upS_nj (by omega), zo 12 (by decide) (by decide) (by decide)], p3, Or.inr ⟨q, by rw [p4 8 (by decide) (by decide), upS_nj (by omega), z8], by rw [p4 9 (by decide) (by decide), upS_at, z9, z8, if_pos rfl]; rfl, by rw [p4 13 (by decide) (by decide), upS_nj (by omega), z13], fun k hk => by rw [p5 7 (by decide), upS_ne (by decide)]; exact z7 k hk⟩, fun i hi => by rw [p4 i (by omega) (by omega), upS_nj (by omega), zo i (by omega) (by omega) (by omega)], fun p h1 h2 => by rw [p5 p h1, upS_ne h1, zp p h1 h2]⟩
/-- the class's leaf -/
theorem c_b58 (d w : Int32) (σ : Sg) : ∃ σ', f_X6_weigh_b58 d w σ = some σ' ∧ (∀ i, i = 7 ∨ i = 8 ∨ i = 9 → σ' 78 i = σ 78 i) ∧
    ((w = σ 78 5 ∧ σ' 78 5 = σ 78 5 ∧ σ' 78 6 = σ 78 6 + 1 ∧ σ' 78 4 = σ 78 4 ∧ σ' 81 = σ 81) ∨ (¬ w = σ 78 5 ∧ w ≤ σ 78 5 ∧ σ' 78 5 = σ 78 5 ∧ σ' 78 6 = σ 78 6 ∧ σ' 78 4 = σ 78 4 ∧ σ' 81 = σ 81) ∨ (¬ w = σ 78 5 ∧ ¬ w ≤ σ 78 5 ∧ σ' 78 5 = w ∧ σ' 78 6 = 1 ∧ σ' 78 4 = d ∧ ∀ k, k < 4 → σ' 81 k = σ 80 k)) ∧
    ∀ p, p ≠ 78 → p ≠ 81 → σ' p = σ p := by
  unfold f_X6_weigh_b58
  by_cases q : w = σ 78 5
  · rw [if_neg (fun z => z q), lt_ap]
    exact ⟨_, rfl, fun i hi => upS_nj (by omega), Or.inl ⟨q, upS_nj (by omega), upS_at, upS_nj (by omega), upS_ne (by decide)⟩, fun p h1 h2 => upS_ne h1⟩
  · rw [if_pos q]
    by_cases q2 : w ≤ σ 78 5
    · rw [if_pos q2]
      exact ⟨σ, rfl, fun _ _ => rfl, Or.inr (Or.inl ⟨q, q2, rfl, rfl, rfl, rfl⟩), fun _ _ _ => rfl⟩
    · rw [if_neg q2, lt_ap, lt_ap, lt_ap, lt_ap]
      refine ⟨_, rfl, fun i hi => by rw [cpy_ne (by decide), upS_nj (by omega), upS_nj (by omega), upS_nj (by omega)], Or.inr (Or.inr ⟨q, q2, ?_, ?_, ?_, fun k hk => ?_⟩), fun p h1 h2 => by rw [cpy_ne h2, upS_ne h1, upS_ne h1, upS_ne h1]⟩
      · rw [cpy_ne (by decide), upS_nj (by omega), upS_nj (by omega), upS_at]
      · rw [cpy_ne (by decide), upS_nj (by omega), upS_at]
      · rw [cpy_ne (by decide), upS_at]
      · rw [cpy_at hk, upS_ne (by decide), upS_ne (by decide), upS_ne (by decide)]
theorem c_weigh {σ : Sg} {B : Nat → Nat} {sc : Int32} {d s v : Nat} (hd4 : d ≤ 4) (hr : rCd σ (82 + 3 * d) B sc) (ok : okA B) (hs : s < 64) (e9 : σ 78 9 = nI s) (e8 : σ 78 8 = nI v) (w t : Int32) :
    ∃ σ', f_X6_weigh (nI d) w t σ = some σ' ∧ σ' 78 9 = nI (s ||| setN B 5) ∧ σ' 78 8 = nI v ∧
      ((nI (setN B 5) &&& nI v = nI v ∧ (σ 78 7 = -3 ∨ ¬ σ 78 7 ≤ t) ∧ σ' 78 7 = t) ∨ (¬ (nI (setN B 5) &&& nI v = nI v ∧ (σ 78 7 = -3 ∨ ¬ σ 78 7 ≤ t)) ∧ σ' 78 7 = σ 78 7)) ∧
      ((w = σ 78 5 ∧ σ' 78 5 = σ 78 5 ∧ σ' 78 6 = σ 78 6 + 1 ∧ σ' 78 4 = σ 78 4 ∧ σ' 81 = σ 81) ∨ (¬ w = σ 78 5 ∧ w ≤ σ 78 5 ∧ σ' 78 5 = σ 78 5 ∧ σ' 78 6 = σ 78 6 ∧ σ' 78 4 = σ 78 4 ∧ σ' 81 = σ 81) ∨ (¬ w = σ 78 5 ∧ ¬ w ≤ σ 78 5 ∧ σ' 78 5 = w ∧ σ' 78 6 = 1 ∧ σ' 78 4 = nI d ∧ ∀ k, k < 4 → σ' 81 k = σ 80 k)) ∧
      ∀ p, p ≠ 78 → p ≠ 81 → σ' p = σ p := by
  have hB := set_lt (ok_sv ok)
  have key : ∀ (σ3 : Sg) (x : Int32), σ3 78 9 = nI (s ||| setN B 5) → (∀ i, i ≠ 9 → i ≠ 7 → σ3 78 i = σ 78 i) → σ3 78 7 = x → (∀ p, p ≠ 78 → σ3 p = σ p) →
      ((nI (setN B 5) &&& nI v = nI v ∧ (σ 78 7 = -3 ∨ ¬ σ 78 7 ≤ t) ∧ x = t) ∨ (¬ (nI (setN B 5) &&& nI v = nI v ∧ (σ 78 7 = -3 ∨ ¬ σ 78 7 ≤ t)) ∧ x = σ 78 7)) →
      ∃ σ', f_X6_weigh_b58 (nI d) w σ3 = some σ' ∧ σ' 78 9 = nI (s ||| setN B 5) ∧ σ' 78 8 = nI v ∧
      ((nI (setN B 5) &&& nI v = nI v ∧ (σ 78 7 = -3 ∨ ¬ σ 78 7 ≤ t) ∧ σ' 78 7 = t) ∨ (¬ (nI (setN B 5) &&& nI v = nI v ∧ (σ 78 7 = -3 ∨ ¬ σ 78 7 ≤ t)) ∧ σ' 78 7 = σ 78 7)) ∧
      ((w = σ 78 5 ∧ σ' 78 5 = σ 78 5 ∧ σ' 78 6 = σ 78 6 + 1 ∧ σ' 78 4 = σ 78 4 ∧ σ' 81 = σ 81) ∨ (¬ w = σ 78 5 ∧ w ≤ σ 78 5 ∧ σ' 78 5 = σ 78 5 ∧ σ' 78 6 = σ 78 6 ∧ σ' 78 4 = σ 78 4 ∧ σ' 81 = σ 81) ∨ (¬ w = σ 78 5 ∧ ¬ w ≤ σ 78 5 ∧ σ' 78 5 = w ∧ σ' 78 6 = 1 ∧ σ' 78 4 = nI d ∧ ∀ k, k < 4 → σ' 81 k = σ 80 k)) ∧
      ∀ p, p ≠ 78 → p ≠ 81 → σ' p = σ p := fun σ3 x h9 ho h7 hp hx => by
    obtain ⟨σ', b1, b2, b3, b4⟩ := c_b58 (nI d) w σ3
    rw [ho 5 (by decide) (by decide), ho 6 (by decide) (by decide), ho 4 (by decide) (by decide), hp 81 (by decide), hp 80 (by decide)] at b3
    refine ⟨σ', b1, by rw [b2 9 (by omega), h9], by rw [b2 8 (by omega), ho 8 (by decide) (by decide), e8], ?_, b3, fun p h1 h2 => by rw [b4 p h1 h2, hp p h1]⟩
    rw [b2 7 (by omega), h7]
    exact hx
  unfold f_X6_weigh
  rw [if_neg (show ¬ (nI d < 0 ∨ 5 ≤ (nI d).toNatClampNeg) from nI_in (by omega) (by decide)), nI_clamp (by omega), lt_ap, hr.2.2.2.1, lt_ap, e9, (or_on s hs _ hB).1, upS_nj (j := 8) (by omega), e8, upS_nj (j := 7) (by omega)]
  by_cases q : nI (setN B 5) &&& nI v = nI v
  · rw [if_neg (fun z => z q)]
    by_cases q2 : σ 78 7 = -3
    · rw [if_pos q2, lt_ap]
      exact key _ t (by rw [upS_nj (by omega), upS_at]) (fun i a b => by rw [upS_nj (by omega), upS_nj (by omega)]) upS_at (fun p hp => by rw [upS_ne hp, upS_ne hp]) (Or.inl ⟨q, Or.inl q2, rfl⟩)
    · rw [if_neg q2]
      by_cases q3 : σ 78 7 ≤ t
      · rw [if_pos q3]
        exact key _ _ upS_at (fun i a b => upS_nj (by omega)) (upS_nj (by omega)) (fun p hp => upS_ne hp) (Or.inr ⟨fun z => z.2.elim q2 (fun y => y q3), rfl⟩)
      · rw [if_neg q3, lt_ap]
        exact key _ t (by rw [upS_nj (by omega), upS_at]) (fun i a b => by rw [upS_nj (by omega), upS_nj (by omega)]) upS_at (fun p hp => by rw [upS_ne hp, upS_ne hp]) (Or.inl ⟨q, Or.inr q3, rfl⟩)
  · rw [if_pos q]
    exact key _ _ upS_at (fun i a b => upS_nj (by omega)) (upS_nj (by omega)) (fun p hp => upS_ne hp) (Or.inr ⟨fun z => q z.1, rfl⟩)
theorem wnt0 : ∀ v, v < 64 → ∀ s, s < 64 → (nI s &&& nI v = nI v ↔ nI v &&& (nI s ^^^ (-1)) = 0) := by decide +kernel
/-- a leaf of both sides -/
theorem eq_leaf {σM σC : Sg} {A0 B P : Nat → Nat} {sc : Int32} {d u v w : Nat} (h : rM σM B) (ok : okA B) (hr : rCd σC (82 + 3 * d) B sc) (hd4 : d ≤ 4) (hw : w < 1000) (h0 : A0 0 ≤ 6) (h3 : A0 3 + d ≤ 16)
    (hP : ∀ k, k < d → P k ≤ A0 0 ∧ σM 6 k = nI (P k) ∧ σC 80 k = nI (P k)) (R : PlR A0 u v σM σC) :
    ∃ σM' σC', f_X12_ended (nI d) (nI w) σM = some σM' ∧ f_X6_weigh (nI d) (nI w) (nI (cntF P d 0)) σC = some σC' ∧ PlR A0 u v σM' σC' ∧ ¬ σM' 0 8 = -1 ∧
      ((∀ i, i < 8 ∨ 14 ≤ i → σM' 0 i = σM 0 i) ∧ ∀ p, p ≠ 0 → p ≠ 7 → σM' p = σM p) ∧ ∀ p, p ≠ 78 → p ≠ 81 → σC' p = σC p := by
  obtain ⟨R1, ⟨s, hs, s1, s2⟩, ⟨u1, v1, hu, hv⟩, R4⟩ := R
  have hc := cnt_le P d 0
  obtain ⟨σM', m1, m2, m3, m4, m5, m6, m7⟩ := m_ended h ok hd4 (P := P) (fun k hk => ⟨by have := (hP k hk).1; omega, (hP k hk).2.1⟩) hs s1 u1 (nI w)
  obtain ⟨σC', c1, c2, c3, c4, c5, c6⟩ := c_weigh hd4 hr ok hs s2 v1 (nI w) (nI (cntF P d 0))
  have hB := set_lt (ok_sv ok)
  have nw : ¬ nI w = (-1 : Int32) := ne_m1 (by omega)
  have lw : ¬ nI w ≤ (-1 : Int32) := fun z => by
    have a := Int32.le_iff_toInt_le.mp z
    rw [nI_toInt (by omega)] at a
    have : (-1 : Int32).toInt = -1 := rfl
    omega
  have n3 : ¬ (-3 : Int32) = nI 5 := by decide
  have top : (((σM' 0 8 = -1 ∧ σC' 78 5 = -1) ∨ ∃ w, w < 1000 ∧ σM' 0 8 = nI w ∧ σC' 78 5 = nI w ∧ σC' 78 6 = σM' 0 9 ∧ ∃ L, L ≤ 4 ∧ A0 3 + L ≤ 16 ∧ σM' 0 13 = nI L ∧ σC' 78 4 = nI L ∧ ∀ k, k < L → ∃ a, a ≤ A0 0 ∧ σM' 7 k = nI a ∧ σC' 81 k = nI a) ∧ ¬ σM' 0 8 = -1) := by
    rcases R1 with ⟨r1, r2⟩ | ⟨w0, hw0, r1, r2, r3, L, l1, l2, l3, l4, l5⟩
    · rw [r1] at m5
      rw [r2] at c5
      rcases m5 with ⟨a, -⟩ | ⟨-, a2, a3, a4, a5⟩
      · exact absurd a lw
      rcases c5 with ⟨a, -⟩ | ⟨-, a, -⟩ | ⟨-, -, b2, b3, b4, b5⟩
      · exact absurd a nw
      · exact absurd a lw
      refine ⟨Or.inr ⟨w, hw, a2, b2, by rw [b3, a3], d, hd4, h3, a4, b4, fun k hk => ?_⟩, by rw [a2]; exact nw⟩
      obtain ⟨p1, p2, p3⟩ := hP k hk
      exact ⟨P k, p1, by rw [a5 k hk, p2], by rw [b5 k (by omega), p3]⟩
    · rw [r1] at m5
      rw [r2] at c5
      rcases m5 with ⟨a, a2, a3, a4, a5⟩ | ⟨a, a2, a3, a4, a5⟩
      · have same : ∀ b3 : σC' 78 6 = σM' 0 9, σC' 78 5 = nI w0 → σC' 78 4 = σC 78 4 → σC' 81 = σC 81 → _ := fun b3 b2 b4 b5 => (⟨Or.inr ⟨w0, hw0, a2, b2, b3, L, l1, l2, by rw [a4, l3], by rw [b4, l4], fun k hk => by rw [a5, b5]; exact l5 k hk⟩, by rw [a2]; exact ne_m1 (by omega)⟩ : ((σM' 0 8 = -1 ∧ σC' 78 5 = -1) ∨ ∃ w, w < 1000 ∧ σM' 0 8 = nI w ∧ σC' 78 5 = nI w ∧ σC' 78 6 = σM' 0 9 ∧ ∃ L, L ≤ 4 ∧ A0 3 + L ≤ 16 ∧ σM' 0 13 = nI L ∧ σC' 78 4 = nI L ∧ ∀ k, k < L → ∃ a, a ≤ A0 0 ∧ σM' 7 k = nI a ∧ σC' 81 k = nI a) ∧ ¬ σM' 0 8 = -1)
        rcases c5 with ⟨b, b2, b3, b4, b5⟩ | ⟨b, -, b2, b3, b4, b5⟩ | ⟨-, b, -⟩
        · rw [if_pos b] at a3
          exact same (by rw [b3, a3, r3]) b2 b4 b5
        · rw [if_neg b, show σM 0 9 + 0 = σM 0 9 from Int32.add_zero _] at a3
          exact same (by rw [b3, a3, r3]) b2 b4 b5
        · exact absurd a b
      · rcases c5 with ⟨b, -⟩ | ⟨-, b, -⟩ | ⟨-, -, b2, b3, b4, b5⟩
        · exact absurd (by rw [b]; exact nI_le (Nat.le_refl _) (by omega)) a
        · exact absurd b a
        refine ⟨Or.inr ⟨w, hw, a2, b2, by rw [b3, a3], d, hd4, h3, a4, b4, fun k hk => ?_⟩, by rw [a2]; exact nw⟩
        obtain ⟨p1, p2, p3⟩ := hP k hk
        exact ⟨P k, p1, by rw [a5 k hk, p2], by rw [b5 k (by omega), p3]⟩
  refine ⟨σM', σC', m1, c1, ⟨top.1, ⟨_, (or_on s hs _ hB).2, m2, c2⟩, ⟨by rw [m3, u1], c3, hu, hv⟩, fun e => ?_⟩, top.2, ⟨m6, m7⟩, c6⟩
  subst e
  have hwn := wnt0 u hu (setN B 5) hB
  have step : ∀ x y : Int32, σM 0 10 = x → σC 78 7 = y → (¬ x ≤ nI (cntF P d 0) ↔ (y = -3 ∨ ¬ y ≤ nI (cntF P d 0))) → ((x = nI 5 ∧ y = -3) ∨ ∃ t, t ≤ 4 ∧ x = nI t ∧ y = nI t) → ((σM' 0 10 = nI 5 ∧ σC' 78 7 = -3) ∨ ∃ t, t ≤ 4 ∧ σM' 0 10 = nI t ∧ σC' 78 7 = nI t) := fun x y ex ey hiff old => by
    rw [ex] at m4
    rw [ey] at c4
    rcases m4 with ⟨a1, a2, a3⟩ | ⟨a1, a2⟩
    · rcases c4 with ⟨b1, b2, b3⟩ | ⟨b1, b2⟩
      · exact Or.inr ⟨cntF P d 0, by omega, a3, b3⟩
      · exact absurd ⟨hwn.mpr a1, hiff.mp a2⟩ b1
    · rcases c4 with ⟨b1, b2, b3⟩ | ⟨b1, b2⟩
      · exact absurd ⟨hwn.mp b1, hiff.mpr b2⟩ a1
      · rw [a2, b2]
        exact old
  have old := R4 rfl
  refine step _ _ rfl rfl ?_ old
  rcases old with ⟨o1, o2⟩ | ⟨t, o0, o1, o2⟩
  · rw [o1, o2]
    exact ⟨fun _ => Or.inl rfl, fun _ => nI_ge (by omega) (by omega)⟩
  · rw [o1, o2]
    have n : ¬ nI t = (-3 : Int32) := fun z => by
      have := congrArg Int32.toInt z
      rw [nI_toInt (by omega)] at this
      exact absurd this (by have : (-3 : Int32).toInt = -3 := rfl; omega)
    exact ⟨fun z => Or.inr z, fun z => z.elim (fun y => absurd y n) id⟩
