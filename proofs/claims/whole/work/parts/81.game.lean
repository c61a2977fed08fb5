/-! game, play: both sides -/
def GNode (W : WT) (d : Nat) (A : Nat → Nat) (sc : Int32) (σM σC : Sg) : Prop := (rM σM A ∧ rulM σM W) ∧ (rCs σC A ∧ rCd σC (82 + 3 * d) A sc ∧ rulC σC W)
theorem GNode.go {W : WT} {d : Nat} {A : Nat → Nat} {sc : Int32} {σM σC σM' σC' : Sg} (h : GNode W d A sc σM σC) (q : FM d σM σM') (k : FC d σC σC') : GNode W d A sc σM' σC' :=
  ⟨⟨q.m h.1.1, q.w h.1.2⟩, ⟨k.s h.2.1, k.d h.2.2.1, k.w h.2.2.2⟩⟩
def GameIH (W : WT) (d N : Nat) (RM : Int32 → Int32 → Int32 → Sg → Option (Int32 × Sg)) (RC : Int32 → Int32 → Sg → Option (Int32 × Sg)) : Prop :=
  ∀ A sc σM σC, okA A → GNode W d A sc σM σC → ∃ r σM' σC', RM (nI d) (nI N) (nI (1 - d % 2)) σM = some (r, σM') ∧ RC (nI d) (nI N) σC = some (r, σC') ∧ FM d σM σM' ∧ FC d σC σC' ∧ (0 < d → σC' 78 10 = σC 78 10) ∧ (d = 0 → d < N → ¬ A 2 ≤ A 3 → σM' 0 14 = σC' 78 10)
theorem mu_n : ∀ d, d < 5 → nI (1 - d % 2) = 0 ∨ nI (1 - d % 2) = 1 := by decide +kernel
theorem mu_s : ∀ d, d < 5 → (nI (1 - d % 2) = 0 → nI (1 - (d + 1) % 2) = 1) ∧ (nI (1 - d % 2) = 1 → nI (1 - (d + 1) % 2) = 0) := by decide +kernel
theorem mu_c : ∀ d, d < 5 → (rem32 (nI d) 2 = 0 → nI (1 - d % 2) = 1) ∧ (¬ rem32 (nI d) 2 = 0 → nI (1 - d % 2) = 0) := by decide +kernel
theorem nI_m1 {n : Nat} (h : n < 2 ^ 31) : ¬ nI n < (0 : Int32) := nI_nlt (b := 0) (by omega) h
theorem game_l {W : WT} (hw : okW W) {d N : Nat} {RM : Int32 → Int32 → Int32 → Sg → Option (Int32 × Sg)} {RC : Int32 → Int32 → Sg → Option (Int32 × Sg)} (ih : GameIH W (d + 1) N RM RC) {A : Nat → Nat} {sc : Int32} (ok : okA A) (hd4 : d < 4) (hov : ¬ A 2 ≤ A 3) :
    ∀ (j k n1 n2 : Nat) (val bY : Int32) (σM σC : Sg), k + j = A 0 + 1 → j < n1 → j < n2 → GNode W d A sc σM σC → ((k = 0 ∧ bY = -1) ∨ (0 < k ∧ ∃ b, b < k ∧ bY = nI b ∧ (d = 0 → σC 78 10 = nI b))) →
      ∃ r σM' σC', f_X12_played_l23 RM (nI d) (nI N) (nI (1 - d % 2)) n1 val bY (nI k) σM = some (r, σM') ∧ f_X6_valueFrom_l59 RC (nI d) (nI N) (82 + 3 * d) (nI (1 - d % 2)) (82 + 3 * (d + 1)) n2 val (nI k) σC = some (r, σC') ∧ FM d σM σM' ∧ FC d σC σC' ∧ (0 < d → σC' 78 10 = σC 78 10) ∧ (d = 0 → σM' 0 14 = σC' 78 10)
  | j, k, 0, n2, val, bY, σM, σC, _, h, _, _, _ => absurd h (by omega)
  | j, k, n1 + 1, 0, val, bY, σM, σC, _, _, h, _, _ => absurd h (by omega)
  | j, k, n1 + 1, n2 + 1, val, bY, σM, σC, hj, hn1, hn2, nd, hb => by
    obtain ⟨⟨hr, hrW⟩, ⟨hs, hd, hcW⟩⟩ := id nd
    have hm := ok.1.1
    have h16 := ok.1.2.2.1
    show ∃ r σM' σC', f_X12_played_b23 RM (f_X12_played_l23 RM (nI d) (nI N) (nI (1 - d % 2)) n1) (nI d) (nI N) (nI (1 - d % 2)) val bY (nI k) σM = some (r, σM') ∧ f_X6_valueFrom_b59 RC (f_X6_valueFrom_l59 RC (nI d) (nI N) (82 + 3 * d) (nI (1 - d % 2)) (82 + 3 * (d + 1)) n2) (nI d) (nI N) (82 + 3 * d) (nI (1 - d % 2)) (82 + 3 * (d + 1)) val (nI k) σC = some (r, σC') ∧ _
    unfold f_X12_played_b23 f_X6_valueFrom_b59
    rw [hr 0 (by decide) (by decide) (by decide) (by decide), hs.1]
    cases j with
    | zero =>
      obtain ⟨b, b1, b2, b3⟩ := (hb.resolve_left (fun z => by omega)).2
      rw [if_pos (nI_lt (by omega) (by omega)), if_pos (nI_lt (by omega) (by omega)), lt_ap]
      refine ⟨val, _, σC, rfl, rfl, ⟨fun i _ => by rw [upS_ne (by decide)], fun p hp => upS_ne (by omega), fun i hi => upS_nj (by omega), fun i _ => by rw [upS_ne (by decide)], fun i _ => by rw [upS_ne (by decide)]⟩, FC.rf d σC, fun _ => rfl, fun e => by rw [upS_at, b2, b3 e]⟩
    | succ j =>
      have hk : k ≤ A 0 := by omega
      rw [if_neg (nI_nlt (by omega) (by omega)), if_neg (nI_nlt (by omega) (by omega))]
      obtain ⟨σ1, a1, a2, a3, a4, a5, a6⟩ := m_saves (d := d) hd4 σM
      have r1 : rM σ1 A := fun i a b c e => by rw [a2 1 (by decide)]; exact hr i a b c e
      have w1 : rulM σ1 W := hrW.eq (fun i _ _ => by rw [a2 1 (by decide)])
      obtain ⟨σ2, b1, b2, b3, b4, -⟩ := m_goes r1 ok (by omega) hw w1 hk
      obtain ⟨c1, c2⟩ := c_copy (n := 82 + 3 * (d + 1)) (m := 82 + 3 * d) (by omega) hd
      have s1 : rCs (f_X10_copy (82 + 3 * (d + 1)) (82 + 3 * d) σC) A := hs.mono (fun p a b => c2 p (by omega) (by omega) (by omega))
      have x1 : rulC (f_X10_copy (82 + 3 * (d + 1)) (82 + 3 * d) σC) W := hcW.mono (fun p a b => c2 p (by omega) (by omega) (by omega))
      have hsky : isSky (82 + 3 * (d + 1)) := by unfold isSky; omega
      obtain ⟨σ3, g1, g2, g3, g4⟩ := c_goAct hsky s1 c1 ok (by omega) hw x1 hk
      have ec : ∀ p, p ≠ 82 + 3 * (d + 1) → p ≠ 82 + 3 * (d + 1) + 1 → p ≠ 82 + 3 * (d + 1) + 2 → p ≠ 40 → σ3 p = σC p := fun p h1 h2 h3 h4 => by rw [g4 p h1 h2 h3 h4, c2 p h1 h2 h3]
      obtain ⟨v, σ4, σ5, i1, i2, i5, i6, i7, -⟩ := ih _ _ σ2 σ3 b3 ⟨⟨b2, w1.mono b4⟩, ⟨g3, g2, g4.r hsky x1⟩⟩
      obtain ⟨σ6, j1, j2, j3, j4, j5, j6⟩ := m_takesBack (d := d) hd4 σ4
      have fm : FM d σM σ6 := m_backs hr ok hk a2 a3 a4 a5 a6 (fun p hp => rfl) (fun i hi => rfl) b4 b2 i5 j2 j3 j4 j5 j6
      have fc : FC d σC σ5 := ⟨fun p h1 h2 h3 h4 h5 => by rw [i6.1 p (by omega) h2 h3 h4 h5, ec p (by omega) (by omega) (by omega) h2], fun i hi => by rw [i6.2 i (by omega), ec 80 (by omega) (by omega) (by omega) (by decide)]⟩
      have e10 : σ5 78 10 = σC 78 10 := by rw [i7 (by omega), ec 78 (by omega) (by omega) (by omega) (by decide)]
      have hM : ∀ x, x = nI (goesA W A k).1 → (f_X12_played_b63 RM (f_X12_played_l23 RM (nI d) (nI N) (nI (1 - d % 2)) n1) (nI d) (nI N) (nI (1 - d % 2)) val bY (nI k) x (nI d + 1) (nI N) (nI (1 - (d + 1) % 2)) σ2 = if bY < 0 ∨ (nI (1 - d % 2) = 0 ∧ ¬ val ≤ nI (goesA W A k).1 + v) ∨ (¬ nI (1 - d % 2) = 0 ∧ ¬ nI (goesA W A k).1 + v ≤ val) then f_X12_played_l23 RM (nI d) (nI N) (nI (1 - d % 2)) n1 (nI (goesA W A k).1 + v) (nI k) (nI k + 1) σ6 else f_X12_played_l23 RM (nI d) (nI N) (nI (1 - d % 2)) n1 val bY (nI k + 1) σ6) := fun x ex => by
        subst ex
        unfold f_X12_played_b63
        rw [nI_1, i1, bd2_some, lt_ap, j1, bnd_some]
        unfold f_X12_played_b105 f_X12_played_b119
        rw [if_neg (show ¬ (1 : Int32) = 0 by decide), if_neg (show ¬ (1 : Int32) = 0 by decide), if_pos (show (0 : Int32) = 0 from rfl), if_pos (show (0 : Int32) = 0 from rfl)]
        by_cases q1 : bY < 0
        · rw [if_pos q1, if_pos (Or.inl q1)]
        · rw [if_neg q1]
          by_cases q2 : nI (1 - d % 2) = 0
          · rw [if_pos q2]
            by_cases q3 : val ≤ nI (goesA W A k).1 + v
            · rw [if_pos q3, if_neg (fun z => z.elim q1 (fun y => y.elim (fun x => x.2 q3) (fun x => x.1 q2)))]
            · rw [if_neg q3, if_pos (Or.inr (Or.inl ⟨q2, q3⟩))]
          · rw [if_neg q2]
            by_cases q3 : nI (goesA W A k).1 + v ≤ val
            · rw [if_pos q3, if_neg (fun z => z.elim q1 (fun y => y.elim (fun x => q2 x.1) (fun x => x.2 q3)))]
            · rw [if_neg q3, if_pos (Or.inr (Or.inr ⟨q2, q3⟩))]
      have hM2 : (Option.bind (f_X12_saves (nI d) σM) fun σ2 => bd2 (f_X12_goes (nI k) σ2) fun vq3 σ4 => if ¬ nI (1 - d % 2) = 0 then f_X12_played_b63 RM (f_X12_played_l23 RM (nI d) (nI N) (nI (1 - d % 2)) n1) (nI d) (nI N) (nI (1 - d % 2)) val bY (nI k) vq3 (nI d + 1) (nI N) 0 σ4 else f_X12_played_b63 RM (f_X12_played_l23 RM (nI d) (nI N) (nI (1 - d % 2)) n1) (nI d) (nI N) (nI (1 - d % 2)) val bY (nI k) vq3 (nI d + 1) (nI N) 1 σ4) = if bY < 0 ∨ (nI (1 - d % 2) = 0 ∧ ¬ val ≤ nI (goesA W A k).1 + v) ∨ (¬ nI (1 - d % 2) = 0 ∧ ¬ nI (goesA W A k).1 + v ≤ val) then f_X12_played_l23 RM (nI d) (nI N) (nI (1 - d % 2)) n1 (nI (goesA W A k).1 + v) (nI k) (nI k + 1) σ6 else f_X12_played_l23 RM (nI d) (nI N) (nI (1 - d % 2)) n1 val bY (nI k + 1) σ6 := by
        rw [a1, bnd_some, b1, bd2_some, ← hM _ rfl]
        obtain ⟨z0, z1⟩ := mu_s d (by omega)
        rcases mu_n d (by omega) with e | e
        · rw [if_neg (fun z => z e), z0 e]
        · rw [if_pos (by rw [e]; decide), z1 e]
      rw [hM2, lt_ap, g1, bd2_some, nI_1 d, i2, bd2_some, lt_ap]
      unfold f_X6_valueFrom_b130
      rw [nI_1 k]
      have cont : ∀ (val' bY' : Int32) (σ7 : Sg), FC d σC σ7 → (∃ b, b < k + 1 ∧ bY' = nI b ∧ (d = 0 → σ7 78 10 = nI b)) → (0 < d → σ7 78 10 = σC 78 10) → ∃ r σM' σC', f_X12_played_l23 RM (nI d) (nI N) (nI (1 - d % 2)) n1 val' bY' (nI (k + 1)) σ6 = some (r, σM') ∧ f_X6_valueFrom_l59 RC (nI d) (nI N) (82 + 3 * d) (nI (1 - d % 2)) (82 + 3 * (d + 1)) n2 val' (nI (k + 1)) σ7 = some (r, σC') ∧ FM d σM σM' ∧ FC d σC σC' ∧ (0 < d → σC' 78 10 = σC 78 10) ∧ (d = 0 → σM' 0 14 = σC' 78 10) := fun val' bY' σ7 f7 hb7 h10 => by
        obtain ⟨r, σ8, σ9, y1, y2, y3, y4, y5, y6⟩ := game_l hw ih ok hd4 hov j (k + 1) n1 n2 val' bY' σ6 σ7 (by omega) (by omega) (by omega) (nd.go fm f7) (Or.inr ⟨by omega, hb7⟩)
        exact ⟨r, σ8, σ9, y1, y2, fm.tr y3, f7.tr y4, fun z => (y5 z).trans (h10 z), y6⟩
      have fcu : FC d σC (upS σ5 78 10 (nI k)) := ⟨fun p h1 h2 h3 h4 h5 => by rw [upS_ne h3]; exact fc.1 p h1 h2 h3 h4 h5, fun i hi => by rw [upS_ne (by decide)]; exact fc.2 i hi⟩
      have better : ∃ r σM' σC', f_X12_played_l23 RM (nI d) (nI N) (nI (1 - d % 2)) n1 (nI (goesA W A k).1 + v) (nI k) (nI (k + 1)) σ6 = some (r, σM') ∧ (if ¬ nI d = 0 then f_X6_valueFrom_l59 RC (nI d) (nI N) (82 + 3 * d) (nI (1 - d % 2)) (82 + 3 * (d + 1)) n2 (nI (goesA W A k).1 + v) (nI (k + 1)) σ5 else lt (upS σ5 78 10 (nI k)) fun σ9 => f_X6_valueFrom_l59 RC (nI d) (nI N) (82 + 3 * d) (nI (1 - d % 2)) (82 + 3 * (d + 1)) n2 (nI (goesA W A k).1 + v) (nI (k + 1)) σ9) = some (r, σC') ∧ FM d σM σM' ∧ FC d σC σC' ∧ (0 < d → σC' 78 10 = σC 78 10) ∧ (d = 0 → σM' 0 14 = σC' 78 10) := by
        by_cases e : d = 0
        · rw [if_neg (show ¬ ¬ nI d = 0 from fun z => z (by rw [e]; rfl)), lt_ap]
          exact cont _ _ _ fcu ⟨k, by omega, rfl, fun _ => upS_at⟩ (fun z => absurd z (by omega))
        · rw [if_pos (nI_ne0 (by omega) (by omega))]
          exact cont _ _ _ fc ⟨k, by omega, rfl, fun z => absurd z e⟩ (fun _ => e10)
      rcases hb with ⟨k0, by1⟩ | ⟨k0, b, b1', b2', b3'⟩
      · rw [if_pos (Or.inl (by rw [by1]; decide)), if_pos (show nI k = 0 by rw [k0]; rfl)]
        exact better
      · have keep : ∃ r σM' σC', f_X12_played_l23 RM (nI d) (nI N) (nI (1 - d % 2)) n1 val bY (nI (k + 1)) σ6 = some (r, σM') ∧ f_X6_valueFrom_l59 RC (nI d) (nI N) (82 + 3 * d) (nI (1 - d % 2)) (82 + 3 * (d + 1)) n2 val (nI (k + 1)) σ5 = some (r, σC') ∧ FM d σM σM' ∧ FC d σC σC' ∧ (0 < d → σC' 78 10 = σC 78 10) ∧ (d = 0 → σM' 0 14 = σC' 78 10) :=
          cont _ _ _ fc ⟨b, by omega, b2', fun z => by rw [e10]; exact b3' z⟩ (fun _ => e10)
        have nb : ¬ bY < 0 := by rw [b2']; exact nI_m1 (by omega)
        rw [if_neg (show ¬ nI k = 0 from nI_ne0 (by omega) (by omega))]
        by_cases q2 : nI (1 - d % 2) = 0
        · by_cases q3 : val ≤ nI (goesA W A k).1 + v
          · rw [if_neg (show ¬ (bY < 0 ∨ (nI (1 - d % 2) = 0 ∧ ¬ val ≤ nI (goesA W A k).1 + v) ∨ (¬ nI (1 - d % 2) = 0 ∧ ¬ nI (goesA W A k).1 + v ≤ val)) from fun z => z.elim nb (fun y => y.elim (fun x => x.2 q3) (fun x => x.1 q2))), if_pos q2, if_pos q3]
            exact keep
          · rw [if_pos (show (bY < 0 ∨ (nI (1 - d % 2) = 0 ∧ ¬ val ≤ nI (goesA W A k).1 + v) ∨ (¬ nI (1 - d % 2) = 0 ∧ ¬ nI (goesA W A k).1 + v ≤ val)) from Or.inr (Or.inl ⟨q2, q3⟩)), if_pos q2, if_neg q3]
            exact better
        · by_cases q3 : nI (goesA W A k).1 + v ≤ val
          · rw [if_neg (show ¬ (bY < 0 ∨ (nI (1 - d % 2) = 0 ∧ ¬ val ≤ nI (goesA W A k).1 + v) ∨ (¬ nI (1 - d % 2) = 0 ∧ ¬ nI (goesA W A k).1 + v ≤ val)) from fun z => z.elim nb (fun y => y.elim (fun x => q2 x.1) (fun x => x.2 q3))), if_neg q2, if_pos q3]
            exact keep
          · rw [if_pos (show (bY < 0 ∨ (nI (1 - d % 2) = 0 ∧ ¬ val ≤ nI (goesA W A k).1 + v) ∨ (¬ nI (1 - d % 2) = 0 ∧ ¬ nI (goesA W A k).1 + v ≤ val)) from Or.inr (Or.inr ⟨q2, q3⟩)), if_neg q2, if_neg q3]
            exact better
theorem eq_played {W : WT} (hw : okW W) {N : Nat} (hN : N ≤ 4) : ∀ r d n1 n2, d + r = N → r < n1 → r < n2 → GameIH W d N (f_X12_played n1) (f_X6_valueFrom n2)
  | r, d, 0, n2, _, h, _ => absurd h (by omega)
  | r, d, n1 + 1, 0, _, _, h => absurd h (by omega)
  | r, d, n1 + 1, n2 + 1, hr, hn1, hn2 => by
    intro A sc σM σC ok nd
    obtain ⟨⟨hrM, hrW⟩, ⟨hs, hd, hcW⟩⟩ := id nd
    have hm := ok.1.1
    show ∃ r σM' σC', f_X12_played_s (f_X12_played n1) (nI d) (nI N) (nI (1 - d % 2)) σM = some (r, σM') ∧ f_X6_valueFrom_s (f_X6_valueFrom n2) (nI d) (nI N) σC = some (r, σC') ∧ _
    unfold f_X12_played_s f_X6_valueFrom_s f_X6_valueFrom_b41
    rw [if_neg (show ¬ (nI d < 0 ∨ 5 ≤ (nI d).toNatClampNeg) from nI_in (by omega) (by decide)), m_over hrM ok, nI_clamp (by omega), c_over hs hd ok]
    by_cases q : d = N
    · subst q
      rw [if_pos rfl, if_pos (nI_le (Nat.le_refl _) (by omega))]
      exact ⟨0, σM, σC, rfl, rfl, FM.rf d σM, FC.rf d σC, fun _ => rfl, fun _ z => absurd z (by omega)⟩
    · rw [if_neg (fun z => q ((nI_eq (by omega) (by omega)).mp z)), if_neg (nI_ge (by omega) (by omega)), if_neg (show ¬ (4 : Int32) ≤ nI d from nI_ge (b := 4) (by omega) (by decide))]
      by_cases q2 : A 2 ≤ A 3
      · rw [if_pos (decide_eq_true q2), if_pos (decide_eq_true q2)]
        exact ⟨0, σM, σC, rfl, rfl, FM.rf d σM, FC.rf d σC, fun _ => rfl, fun _ _ z => absurd q2 z⟩
      · have ih := eq_played hw hN (r - 1) (d + 1) n1 n2 (by omega) (by omega) (by omega)
        rw [if_neg (fun z => q2 (of_decide_eq_true z)), if_neg (fun z => q2 (of_decide_eq_true z)), nI_1, if_neg (show ¬ (nI (d + 1) < 0 ∨ 5 ≤ (nI (d + 1)).toNatClampNeg) from nI_in (by omega) (by decide)), nI_clamp (by omega)]
        obtain ⟨v, σ1, σ2, y1, y2, y3, y4, y5, y6⟩ := game_l hw ih ok (by omega) q2 (A 0 + 1) 0 400 400 0 (-1) σM σC (by omega) (by omega) (by omega) nd (Or.inl ⟨rfl, rfl⟩)
        have y2' : f_X6_valueFrom_l59 (f_X6_valueFrom n2) (nI d) (nI N) (82 + 3 * d) (nI (1 - d % 2)) (82 + 3 * (d + 1)) 400 0 0 σC = some (v, σ2) := y2
        obtain ⟨z0, z1⟩ := mu_c d (by omega)
        refine ⟨v, σ1, σ2, y1, ?_, y3, y4, y5, fun z _ _ => y6 z⟩
        by_cases e : rem32 (nI d) 2 = 0
        · rw [if_neg (fun z => z e), if_neg (show ¬ (nI (d + 1) < 0 ∨ 5 ≤ d + 1) from fun z => z.elim (nI_m1 (by omega)) (by omega))]
          rw [z0 e] at y2'
          exact y2'
        · rw [if_pos e]
          rw [z1 e] at y2'
          exact y2'
theorem eq_value {σM σC : Sg} {A : Nat → Nat} {W : WT} (g : Hold σM σC A W) {N : Nat} (hN : N ≤ 4) : ∃ r σM' σC', f_X12_played 6 0 (nI N) 1 σM = some (r, σM') ∧ f_X6_valueOfGame (nI N) σC = some (r, σC') ∧ eqQ σM σM' ∧ eqK σC σC' ∧ (0 < N → ¬ A 2 ≤ A 3 → σM' 0 14 = σC' 78 10) := by
  obtain ⟨c1, c2⟩ := c_copy (n := 82) (m := 41) (by omega) g.d
  have nd : GNode W 0 A (σM 1 4) σM (f_X10_copy 82 41 σC) := ⟨⟨g.m, g.rm⟩, ⟨g.c.mono (fun p a b => c2 p (by omega) (by omega) (by omega)), c1, g.rc.mono (fun p a b => c2 p (by omega) (by omega) (by omega))⟩⟩
  obtain ⟨r, σ1, σ2, p1, p2, p3, p4, -, p6⟩ := eq_played g.okw hN N 0 6 6 (by omega) (by omega) (by omega) A _ _ _ g.ok nd
  have p2' : f_X6_valueFrom 6 0 (nI N) (f_X10_copy 82 41 σC) = some (r, σ2) := p2
  unfold f_X6_valueOfGame
  rw [lt_ap, p2', bd2_some]
  refine ⟨r, σ1, σ2, p1, rfl, eqQ.of p3.1 (fun p hp => p3.2.1 p (by omega)) p3.2.2.1, eqK.of (fun p hp h40 => ?_), fun a b => p6 rfl a b⟩
  rw [p4.1 p (by omega) h40 (by omega) (by omega) (by omega), c2 p (by omega) (by omega) (by omega)]
theorem eq_game {σM σC : Sg} (h : Rel σM σC) (x : Int32) : ∃ r σM' σC', f_X12_game x σM = some (r, σM') ∧ f_X11_game x σC = some (r, σC') ∧ Rel σM' σC' := by
  obtain ⟨⟨A, W, g⟩, hk', hr⟩ := id h
  unfold f_X12_game f_X11_game
  rw [m_inN 1 4 1 4 rfl rfl, show f_X11_within x 1 4 σC = rng x (nI 1) (nI 4) from c_in _ _ _ _]
  by_cases q : rng x (nI 1) (nI 4) = true
  · obtain ⟨N, h1, hN, rfl⟩ := (rng_nI (by decide) (by decide)).mp q
    obtain ⟨r, σ1, σ2, s1, s2, s3, s4, -⟩ := eq_value g hN
    rw [if_pos q, if_pos q, s1, bd2_some, s2, bd2_some]
    exact ⟨_, _, _, rfl, rfl, h.fr s3 s4⟩
  · rw [if_neg q, if_neg q]
    exact ⟨_, σM, σC, rfl, rfl, h⟩
theorem eq_play {σM σC : Sg} (h : Rel σM σC) (x : Int32) : ∃ r σM' σC', f_X12_play x σM = some (r, σM') ∧ f_X11_play x σC = some (r, σC') ∧ Rel σM' σC' := by
  obtain ⟨⟨A, W, g⟩, hk', hr⟩ := id h
  unfold f_X12_play f_X11_play
  rw [m_inN 1 4 1 4 rfl rfl, show f_X11_within x 1 4 σC = rng x (nI 1) (nI 4) from c_in _ _ _ _, m_over g.m g.ok, c_over g.c g.d g.ok]
  by_cases q : rng x (nI 1) (nI 4) = true
  · obtain ⟨N, h1, hN, rfl⟩ := (rng_nI (by decide) (by decide)).mp q
    rw [if_pos q, if_pos q]
    by_cases q2 : A 2 ≤ A 3
    · rw [if_pos (decide_eq_true q2), if_pos (decide_eq_true q2)]
      exact ⟨_, σM, σC, rfl, rfl, h⟩
    · obtain ⟨r, σ1, σ2, s1, s2, s3, s4, s5⟩ := eq_value g hN
      rw [if_neg (fun z => q2 (of_decide_eq_true z)), if_neg (fun z => q2 (of_decide_eq_true z)), s1, bd2_some, s2, bd2_some, s5 (by omega) q2]
      exact ⟨_, _, _, rfl, rfl, h.fr s3 s4⟩
  · rw [if_neg q, if_neg q]
    exact ⟨_, σM, σC, rfl, rfl, h⟩
