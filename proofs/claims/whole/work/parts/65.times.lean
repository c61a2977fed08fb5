/-! report, times -/
def repA (A : Nat → Nat) (a b c d : Nat) : Nat → Nat := up1 (up1 (up1 (up1 (up1 A 5 (A 5 + 1)) (71 + 4 * A 5) a) (71 + 4 * A 5 + 1) b) (71 + 4 * A 5 + 2) c) (71 + 4 * A 5 + 3) d
theorem eq_report {σM σC : Sg} (h : Rel σM σC) (x1 x2 x3 x4 : Int32) : ∃ r σM' σC', f_X12_report x1 x2 x3 x4 σM = some (r, σM') ∧ f_X11_report x1 x2 x3 x4 σC = some (r, σC') ∧ Rel σM' σC' := by
  obtain ⟨⟨A, W, g⟩, hk, hr⟩ := id h
  have h5 := g.ok.1.2.2.2.2
  unfold f_X12_report f_X11_report f_X12_isGust
  rw [m_inN 0 15 0 15 rfl rfl, m_inN 0 1 0 1 rfl rfl, m_inN 0 7 0 7 rfl rfl, show f_X12_in x4.toInt64 x3.toInt64 7 σM = rng x4 x3 (nI 7) from m_in x4 x3 (nI 7) σM, show f_X11_within x1 0 15 σC = rng x1 (nI 0) (nI 15) from c_in _ _ _ _, show f_X11_within x2 0 1 σC = rng x2 (nI 0) (nI 1) from c_in _ _ _ _, show f_X11_within x3 0 7 σC = rng x3 (nI 0) (nI 7) from c_in _ _ _ _, show f_X11_within x4 x3 7 σC = rng x4 x3 (nI 7) from c_in _ _ _ _,
    g.m 5 (by decide) (by decide) (by decide) (by decide), g.c.2.2.1]
  by_cases q1 : rng x1 (nI 0) (nI 15) = true
  · rw [if_pos q1, if_pos q1]
    by_cases q2 : rng x2 (nI 0) (nI 1) = true
    · rw [if_pos q2, if_pos q2]
      by_cases q3 : rng x3 (nI 0) (nI 7) = true
      · rw [if_pos q3, if_pos q3]
        by_cases q4 : rng x4 x3 (nI 7) = true
        · rw [if_pos q4, if_pos q4]
          by_cases q5 : A 5 = 6
          · rw [if_neg (show ¬ ¬ nI (A 5) = 6 from fun z => z (by rw [q5]; rfl)), if_neg (show ¬ nI (A 5) < 6 from by rw [q5]; decide)]
            exact ⟨_, σM, σC, rfl, rfl, h⟩
          · have h6 : A 5 < 6 := by omega
            rw [if_pos (show ¬ nI (A 5) = 6 from fun z => q5 ((nI_eq (b := 6) (by omega) (by decide)).mp z)), if_pos (show nI (A 5) < 6 from nI_lt (b := 6) h6 (by decide))]
            obtain ⟨a, -, ha, rfl⟩ := (rng_nI (by decide) (by decide)).mp q1
            obtain ⟨b, -, hb, rfl⟩ := (rng_nI (by decide) (by decide)).mp q2
            obtain ⟨c, -, hc, rfl⟩ := (rng_nI (by decide) (by decide)).mp q3
            obtain ⟨d, -, hd, rfl⟩ := (rng_nI (by decide) (by omega)).mp q4
            have o1 := okA_up (i := 5) (v := A 5 + 1) g.ok (by omega) (by omega) (by omega) (by omega) (by omega) (by omega) (by omega) (by omega)
            have o2 := okA_up (i := 71 + 4 * A 5) (v := a) o1 (by omega) (by omega) (by omega) (by omega) (by omega) (by omega) (by omega) (by omega)
            have o3 := okA_up (i := 71 + 4 * A 5 + 1) (v := b) o2 (by omega) (by omega) (by omega) (by omega) (by omega) (by omega) (by omega) (by omega)
            have o4 := okA_up (i := 71 + 4 * A 5 + 2) (v := c) o3 (by omega) (by omega) (by omega) (by omega) (by omega) (by omega) (by omega) (by omega)
            have o5 : okA (repA A a b c d) := okA_up (i := 71 + 4 * A 5 + 3) (v := d) o4 (by omega) (by omega) (by omega) (by omega) (by omega) (by omega) (by omega) (by omega)
            have s1 := g.c.up (P := 24) (S := 4) (I := 5) (by unfold corr; omega) (A 5 + 1)
            have s2 := s1.up (P := 30) (S := A 5) (I := 71 + 4 * A 5) (by unfold corr; omega) a
            have s3 := s2.up (P := 31) (S := A 5) (I := 71 + 4 * A 5 + 1) (by unfold corr; omega) b
            have s4 := s3.up (P := 32) (S := A 5) (I := 71 + 4 * A 5 + 2) (by unfold corr; omega) c
            have s5 : rCs _ (repA A a b c d) := s4.up (P := 33) (S := A 5) (I := 71 + 4 * A 5 + 3) (by unfold corr; omega) d
            have d5 : rCd σC 41 (repA A a b c d) (σM 1 4) := ((((g.d.lo (i := 5) (v := A 5 + 1) (by omega) (by omega)).lo (i := 71 + 4 * A 5) (v := a) (by omega) (by omega)).lo (i := 71 + 4 * A 5 + 1) (v := b) (by omega) (by omega)).lo (i := 71 + 4 * A 5 + 2) (v := c) (by omega) (by omega)).lo (i := 71 + 4 * A 5 + 3) (v := d) (by omega) (by omega)
            have em : rM (upS (upS (upS (upS (upS σM 1 (71 + 4 * A 5) (nI a)) 1 (71 + 4 * A 5 + 1) (nI b)) 1 (71 + 4 * A 5 + 2) (nI c)) 1 (71 + 4 * A 5 + 3) (nI d)) 1 5 (nI (A 5 + 1))) (repA A a b c d) := by
              have := rM.up (i := 5) (v := A 5 + 1) (rM.up (i := 71 + 4 * A 5 + 3) (v := d) (rM.up (i := 71 + 4 * A 5 + 2) (v := c) (rM.up (i := 71 + 4 * A 5 + 1) (v := b) (rM.up (i := 71 + 4 * A 5) (v := a) g.m))))
              rw [up1_cm (by omega), up1_cm (i := 71 + 4 * A 5 + 2) (j := 5) (by omega), up1_cm (i := 71 + 4 * A 5 + 1) (j := 5) (by omega), up1_cm (i := 71 + 4 * A 5) (j := 5) (by omega)] at this
              exact this
            have e4 : (upS (upS (upS (upS (upS σM 1 (71 + 4 * A 5) (nI a)) 1 (71 + 4 * A 5 + 1) (nI b)) 1 (71 + 4 * A 5 + 2) (nI c)) 1 (71 + 4 * A 5 + 3) (nI d)) 1 5 (nI (A 5 + 1))) 1 4 = σM 1 4 := by rw [upS_nj (by omega), upS_nj (by omega), upS_nj (by omega), upS_nj (by omega), upS_nj (by omega)]
            have sm : ∀ (σ : Sg) (i : Nat) (v : Int32), (71 ≤ i ∧ i < 95 ∨ i = 5) → sameM σ (upS σ 1 i v) := fun σ i v hi => sameM.up (by omega) (by omega) (by omega)
            simp only [lit]
            rw [lt_ap, pk_mul, nI_add, wr_nI (by omega) (by decide), bnd_some, nI_add, wr_nI (by omega) (by decide), bnd_some, nI_add, wr_nI (by omega) (by decide), bnd_some, nI_add, wr_nI (by omega) (by decide), bnd_some, lt_ap,
              upS_at, upS_nj (by omega), upS_nj (by omega), upS_nj (by omega), upS_nj (by omega), g.m 5 (by decide) (by decide) (by decide) (by decide), nI_add, pk_sub (by omega), Nat.add_sub_cancel]
            unfold f_X1_addReport
            rw [lt_ap, lt_ap, g.c.2.2.1, nI_1, wr_nI h6 (by decide), bnd_some, wr_nI h6 (by decide), bnd_some, wr_nI h6 (by decide), bnd_some, wr_nI h6 (by decide), bnd_some, bd2_some]
            refine ⟨_, _, _, rfl, rfl, h.set g o5 em ((sm _ _ _ (by omega)).tr ((sm _ _ _ (by omega)).tr ((sm _ _ _ (by omega)).tr ((sm _ _ _ (by omega)).tr (sm _ _ _ (by omega)))))) s5 ?_ (fun p a b c d => ?_) ?_⟩
            · rw [e4]
              exact d5.mono (by rw [upS_ne (by omega), upS_ne (by omega), upS_ne (by omega), upS_ne (by omega), upS_ne (by omega)]) (by rw [upS_ne (by omega), upS_ne (by omega), upS_ne (by omega), upS_ne (by omega), upS_ne (by omega)]) (by rw [upS_ne (by omega), upS_ne (by omega), upS_ne (by omega), upS_ne (by omega), upS_ne (by omega)])
            · rw [upS_ne (by omega), upS_ne (by omega), upS_ne (by omega), upS_ne (by omega), upS_ne (by omega)]
            · rw [upS_ne (by omega), upS_ne (by omega), upS_ne (by omega), upS_ne (by omega), upS_nj (by omega)]
        · rw [if_neg q4, if_neg q4]
          exact ⟨_, σM, σC, rfl, rfl, h⟩
      · rw [if_neg q3, if_neg q3]
        exact ⟨_, σM, σC, rfl, rfl, h⟩
    · rw [if_neg q2, if_neg q2]
      exact ⟨_, σM, σC, rfl, rfl, h⟩
  · rw [if_neg q1, if_neg q1]
    exact ⟨_, σM, σC, rfl, rfl, h⟩
/-! times -/
/-- so many gusts by lot at most: what they are worth, and the z that is left -/
def lotsN (W : WT) : Nat → (Nat → Nat) → Int32 → Nat × Int32
  | 0, _, z => (0, z)
  | n + 1, A, z => if A 2 ≤ A 3 then (0, z) else ((lotA W A z).1 + (lotsN W n (lotA W A z).2 (nextZ z)).1, (lotsN W n (lotA W A z).2 (nextZ z)).2)
theorem lots_o {W : WT} {n : Nat} {A : Nat → Nat} {z : Int32} (h : A 2 ≤ A 3) : lotsN W n A z = (0, z) := by
  cases n with
  | zero => rfl
  | succ n => exact if_pos h
theorem lots_s {W : WT} {n : Nat} {A : Nat → Nat} {z : Int32} (h : ¬ A 2 ≤ A 3) : lotsN W (n + 1) A z = ((lotA W A z).1 + (lotsN W n (lotA W A z).2 (nextZ z)).1, (lotsN W n (lotA W A z).2 (nextZ z)).2) := if_neg h
def timesN (W : WT) (A : Nat → Nat) (v : Int32) : Nat → Nat → Int32 → Nat
  | 0, c, _ => c
  | n + 1, c, z => timesN W A v n (c + if nI (lotsN W 16 A z).1 < v then 0 else 1) (lotsN W 16 A z).2
theorem lotA_3 (W : WT) (A : Nat → Nat) (z : Int32) : (lotA W A z).2 3 = A 3 + 1 := goes_3 W A _
theorem lotA_ne {W : WT} {A : Nat → Nat} (ok : okA A) {z : Int32} {j : Nat} (h : (j < 35 ∧ j ≠ 3) ∨ 71 ≤ j ∨ (35 ≤ j ∧ ((j - 35) % 6 = 0 ∨ (j - 35) % 6 = 3))) : (lotA W A z).2 j = A j := goes_ne ok (lot_le A z) h
/-- the trial of the reference in times: its moor, and what is laid by -/
def tM (σ0 σ : Sg) : Prop := (∀ p, p ≠ 1 → p ≠ 3 → p ≠ 4 → σ p = σ0 p) ∧ (∀ i, i < 319 → σ 3 i = σ0 1 i)
theorem m_lots_l {W : WT} (hw : okW W) {σ0 : Sg} {K : Int32 → Int32 → Sg → Option (Int32 × Sg)} {x1 x2 x3 x4 : Int32} : ∀ (d n acc : Nat) (σ : Sg) (A : Nat → Nat), A 2 ≤ A 3 + d → d < n → rM σ A → okA A → rulM σ W → tM σ0 σ →
    ∃ σ', f_X12_times_l44 K x1 x2 x3 x4 n (nI acc) σ = K (x3 + if nI (acc + (lotsN W d A (σ 1 6)).1) < x2 then 0 else 1) (x4 + 1) σ' ∧ tM σ0 σ' ∧ (∀ i, i < 319 → i ≠ 6 → σ' 1 i = σ0 1 i) ∧ σ' 1 6 = (lotsN W d A (σ 1 6)).2
  | d, 0, acc, σ, A, _, h, _, _, _, _ => absurd h (by omega)
  | d, n + 1, acc, σ, A, hd, hn, hr, ok, hW, ht => by
    show ∃ σ', f_X12_times_b44 K (f_X12_times_l44 K x1 x2 x3 x4 n) x1 x2 x3 x4 (nI acc) σ = _ ∧ _
    unfold f_X12_times_b44
    rw [m_over hr ok]
    by_cases q : A 2 ≤ A 3
    · rw [if_pos (decide_eq_true q), lots_o q]
      obtain ⟨σ1, b1, b2, b3⟩ := m_back σ
      have fin : ∀ t, f_X12_times_b75 K x1 x2 x4 x3 t σ = K (x3 + t) (x4 + 1) (upS σ1 1 6 (σ 1 6)) := fun t => by
        unfold f_X12_times_b75
        rw [lt_ap, lt_ap, b1, bnd_some, lt_ap]
      refine ⟨upS σ1 1 6 (σ 1 6), ?_, ⟨fun p h1 h3 h4 => by rw [upS_ne h1, b3 p h1]; exact ht.1 p h1 h3 h4, fun i hi => by rw [upS_ne (by decide), b3 3 (by decide)]; exact ht.2 i hi⟩, fun i hi h6 => by rw [upS_nj (by omega), b2 i hi]; exact ht.2 i hi, upS_at⟩
      rw [fin, fin]
      show (if nI acc < x2 then _ else _) = K (x3 + if nI (acc + 0) < x2 then 0 else 1) _ _
      rw [Nat.add_zero]
      split <;> rfl
    · have h16 := ok.1.2.2.1
      cases d with
      | zero => exact absurd hd (by omega)
      | succ d =>
        obtain ⟨σ1, p1, p2, p3, p4, p5, p6, p7⟩ := m_byLot hr ok (by omega) hw hW
        rw [if_neg (fun z => q (of_decide_eq_true z)), p1, bd2_some, lt_ap, nI_add, lots_s q]
        obtain ⟨σ', r1, r2, r3, r4⟩ := m_lots_l hw (σ0 := σ0) (K := K) (x1 := x1) (x2 := x2) (x3 := x3) (x4 := x4) d n (acc + (lotA W A (σ 1 6)).1) σ1 (lotA W A (σ 1 6)).2 (by rw [lotA_3, lotA_ne ok (by omega)]; omega) (by omega) p2 p3 (hW.eq (fun i hi _ => p7 i hi)) ⟨fun p h1 h3 h4 => by rw [p6 p h1 h4]; exact ht.1 p h1 h3 h4, fun i hi => by rw [p6 3 (by decide) (by decide)]; exact ht.2 i hi⟩
        refine ⟨σ', ?_, r2, r3, ?_⟩
        · rw [r1, p4, Nat.add_assoc]
        · rw [r4, p4]
theorem m_times_l {W : WT} (hw : okW W) {σ0 : Sg} {A : Nat → Nat} (h0 : rM σ0 A) (ok : okA A) (hW : rulM σ0 W) {x2 : Int32} {N : Nat} (hN : N ≤ 40) : ∀ (d k n c : Nat) (σ : Sg), k + d = N → d < n → tM σ0 σ → (∀ i, i < 319 → i ≠ 6 → σ 1 i = σ0 1 i) →
    ∃ σ', f_X12_times_l35 (nI N) x2 n (nI c) (nI k) σ = some (nI (timesN W A x2 d c (σ 1 6)), σ') ∧ eqQ σ0 σ'
  | d, k, 0, c, σ, _, h, _, _ => absurd h (by omega)
  | d, k, n + 1, c, σ, hd, hn, ht, hs => by
    show ∃ σ', f_X12_times_b35 (f_X12_times_l35 (nI N) x2 n) (nI N) x2 (nI c) (nI k) σ = some (_, σ') ∧ _
    unfold f_X12_times_b35
    cases d with
    | zero =>
      obtain ⟨σ1, b1, b2, b3⟩ := m_back σ
      rw [if_pos (nI_le (by omega) (by omega)), b1, bnd_some]
      exact ⟨σ1, rfl, fun i hi => by rw [b2 i hi]; exact ht.2 i hi, fun p hp => by rw [b3 p (by omega)]; exact ht.1 p (by omega) (by omega) (by omega), fun i hi => by rw [b3 0 (by decide), ht.1 0 (by decide) (by decide) (by decide)]⟩
    | succ d =>
      have h16 := ok.1.2.2.1
      have hr : rM σ A := fun i a b c d => by rw [hs i (by omega) d]; exact h0 i a b c d
      have hW1 : rulM σ W := hW.eq (fun i hi hl => hs i hl (by omega))
      obtain ⟨σ1, p1, p2, p3, p4⟩ := m_lots_l hw (K := f_X12_times_l35 (nI N) x2 n) (x1 := nI N) (x2 := x2) (x3 := nI c) (x4 := nI k) 16 400 0 σ A (by omega) (by omega) hr ok hW1 ht
      have p1' : f_X12_times_l44 (f_X12_times_l35 (nI N) x2 n) (nI N) x2 (nI c) (nI k) 400 0 σ = f_X12_times_l35 (nI N) x2 n (nI c + if nI (0 + (lotsN W 16 A (σ 1 6)).1) < x2 then 0 else 1) (nI k + 1) σ1 := p1
      have ec : (nI c + if nI (0 + (lotsN W 16 A (σ 1 6)).1) < x2 then 0 else 1) = nI (c + if nI (lotsN W 16 A (σ 1 6)).1 < x2 then 0 else 1) := by
        rw [Nat.zero_add]
        split
        · exact nI_add c 0
        · exact nI_add c 1
      rw [if_neg (nI_ge (by omega) (by omega)), p1', ec, nI_1]
      obtain ⟨σ', r1, r2⟩ := m_times_l hw h0 ok hW (x2 := x2) hN d (k + 1) n (c + if nI (lotsN W 16 A (σ 1 6)).1 < x2 then 0 else 1) σ1 (by omega) (by omega) p2 p3
      exact ⟨σ', by rw [r1, p4]; rfl, r2⟩
theorem c_lots_l {W : WT} (hw : okW W) {K : Int32 → Int32 → Int32 → Sg → Option (Int32 × Sg)} {x1 x2 x4 x5 : Int32} : ∀ (d j n acc : Nat) (z : Int32) (σ : Sg) (A : Nat → Nat) (sc : Int32), j + d = 16 → d < n → rCs σ A → rCd σ 64 A sc → okA A → rulC σ W →
    ∃ σ', f_X11_times_l63 K x1 x2 x4 x5 n z (nI acc) (nI j) σ = f_X11_times_b119 K x1 x2 (lotsN W d A z).2 x4 x5 (nI (acc + (lotsN W d A z).1)) σ' ∧ fC 64 σ σ'
  | d, j, 0, acc, z, σ, A, sc, _, h, _, _, _, _ => absurd h (by omega)
  | d, j, n + 1, acc, z, σ, A, sc, hd, hn, hs, hr, ok, hW => by
    show ∃ σ', f_X11_times_b63 K (f_X11_times_l63 K x1 x2 x4 x5 n) x1 x2 x4 x5 z (nI acc) (nI j) σ = _ ∧ _
    unfold f_X11_times_b63
    rw [c_over hs hr ok]
    cases d with
    | zero =>
      rw [if_pos (show (16 : Int32) ≤ nI j from nI_le (a := 16) (by omega) (by omega))]
      exact ⟨σ, rfl, fC.rf _ σ⟩
    | succ d =>
      rw [if_neg (show ¬ (16 : Int32) ≤ nI j from nI_ge (b := 16) (by omega) (by omega))]
      by_cases q : A 2 ≤ A 3
      · rw [if_pos (decide_eq_true q), lots_o q]
        exact ⟨σ, rfl, fC.rf _ σ⟩
      · have h16 := ok.1.2.2.1
        obtain ⟨σ1, p1, p2, p3, p4⟩ := c_goAct sky64 hs hr ok (by omega) hw hW (lot_le A z)
        have okn : okA (lotA W A z).2 := goes_ok (W := W) ok (by omega) (lot_le A z)
        rw [if_neg (fun z => q (of_decide_eq_true z)), lt_ap, c_lotAct hs ok z, bnd_some, p1, bd2_some, lt_ap, nI_1, lots_s q]
        obtain ⟨σ', r1, r2⟩ := c_lots_l hw (K := K) (x1 := x1) (x2 := x2) (x4 := x4) (x5 := x5) d (j + 1) n (acc + (lotA W A z).1) (nextZ z) σ1 (lotA W A z).2 _ (by omega) (by omega) p3 p2 okn (p4.r sky64 hW)
        refine ⟨σ', ?_, p4.tr r2⟩
        rw [Nat.add_assoc] at r1
        exact (congrArg (fun w => f_X11_times_l63 K x1 x2 x4 x5 n (nextZ z) w (nI (j + 1)) σ1) (nI_add acc (lotA W A z).1)).trans r1
theorem c_times_l {W : WT} (hw : okW W) {A : Nat → Nat} (ok : okA A) {sc : Int32} {x2 : Int32} {N : Nat} (hN : N ≤ 40) : ∀ (d k n c : Nat) (z : Int32) (σ : Sg), k + d = N → d < n → rCs σ A → rCd σ 41 A sc → rulC σ W →
    ∃ σ', f_X11_times_l37 (nI N) x2 n z (nI c) (nI k) σ = some (nI (timesN W A x2 d c z), σ') ∧ fC 64 σ σ'
  | d, k, 0, c, z, σ, _, h, _, _, _ => absurd h (by omega)
  | d, k, n + 1, c, z, σ, hd, hn, hs, hr, hW => by
    show ∃ σ', f_X11_times_b37 (f_X11_times_l37 (nI N) x2 n) (nI N) x2 z (nI c) (nI k) σ = some (_, σ') ∧ _
    unfold f_X11_times_b37
    cases d with
    | zero =>
      rw [if_pos (nI_le (by omega) (by omega))]
      exact ⟨σ, rfl, fC.rf _ σ⟩
    | succ d =>
      obtain ⟨t1, t2, t3, t4⟩ := c_trial hs hr hW
      obtain ⟨σ1, p1, p2⟩ := c_lots_l hw (K := f_X11_times_l37 (nI N) x2 n) (x1 := nI N) (x2 := x2) (x4 := nI c) (x5 := nI k) 16 0 400 0 z (f_X10_copy 64 41 σ) A sc (by omega) (by omega) t1 t2 ok t3
      have p1' : f_X11_times_l63 (f_X11_times_l37 (nI N) x2 n) (nI N) x2 (nI c) (nI k) 400 z 0 0 (f_X10_copy 64 41 σ) = f_X11_times_b119 (f_X11_times_l37 (nI N) x2 n) (nI N) x2 (lotsN W 16 A z).2 (nI c) (nI k) (nI (0 + (lotsN W 16 A z).1)) σ1 := p1
      have f := t4.tr p2
      rw [if_neg (nI_ge (by omega) (by omega)), lt_ap, p1', Nat.zero_add]
      unfold f_X11_times_b119
      rw [nI_1, nI_1]
      obtain ⟨σ', r1, r2⟩ := c_times_l hw ok (x2 := x2) hN d (k + 1) n (c + if nI (lotsN W 16 A z).1 < x2 then 0 else 1) (lotsN W 16 A z).2 σ1 (by omega) (by omega) (f.s sky64 hs) (hr.mono (f 41 (by decide) (by decide) (by decide) (by decide)) (f 42 (by decide) (by decide) (by decide) (by decide)) (f 43 (by decide) (by decide) (by decide) (by decide))) (f.r sky64 hW)
      refine ⟨σ', ?_, f.tr r2⟩
      have e : timesN W A x2 (d + 1) c z = timesN W A x2 d (c + if nI (lotsN W 16 A z).1 < x2 then 0 else 1) (lotsN W 16 A z).2 := rfl
      rw [e, ← r1]
      by_cases q : nI (lotsN W 16 A z).1 < x2
      · rw [if_pos q, if_pos q]; rfl
      · rw [if_neg q, if_neg q]
theorem eq_times {σM σC : Sg} (h : Rel σM σC) (x v : Int32) : ∃ r σM' σC', f_X12_times x v σM = some (r, σM') ∧ f_X11_times x v σC = some (r, σC') ∧ Rel σM' σC' := by
  obtain ⟨⟨A, W, g⟩, hk, hr⟩ := id h
  unfold f_X12_times f_X11_times
  rw [m_inN 1 40 1 40 rfl rfl, m_inN 0 999 0 999 rfl rfl, show f_X11_within x 1 40 σC = rng x (nI 1) (nI 40) from c_in _ _ _ _, show f_X11_within v 0 999 σC = rng v (nI 0) (nI 999) from c_in _ _ _ _]
  by_cases q1 : rng x (nI 1) (nI 40) = true
  · rw [if_pos q1, if_pos q1]
    by_cases q2 : rng v (nI 0) (nI 999) = true
    · rw [if_pos q2, if_pos q2, lt_ap]
      obtain ⟨N, -, hN, rfl⟩ := (rng_nI (by decide) (by decide)).mp q1
      obtain ⟨σ1, p1, p2, p3⟩ := m_puts σM
      have ht : tM σM σ1 := ⟨fun p _ h3 _ => p3 p h3, p2⟩
      obtain ⟨σ2, r1, r2⟩ := m_times_l g.okw g.m g.ok g.rm (x2 := v) hN N 0 400 0 σ1 (by omega) (by omega) ht (fun i _ _ => by rw [p3 1 (by decide)])
      obtain ⟨σ3, s1, s2⟩ := c_times_l g.okw g.ok (x2 := v) hN N 0 400 0 (σC 24 3) σC (by omega) (by omega) g.c g.d g.rc
      have r1' : f_X12_times_l35 (nI N) v 400 0 0 σ1 = some (nI (timesN W A v N 0 (σ1 1 6)), σ2) := r1
      have s1' : f_X11_times_l37 (nI N) v 400 (σC 24 3) 0 0 σC = some (nI (timesN W A v N 0 (σC 24 3)), σ3) := s1
      rw [p1, bnd_some, r1', s1', p3 1 (by decide), g.z]
      exact ⟨_, σ2, σ3, rfl, rfl, h.fr r2 s2.k⟩
    · rw [if_neg q2, if_neg q2]
      exact ⟨_, σM, σC, rfl, rfl, h⟩
  · rw [if_neg q1, if_neg q1]
    exact ⟨_, σM, σC, rfl, rfl, h⟩
