/-! kite, kiteOf, report, lot -/
theorem up1_cm {A : Nat → Nat} {i v j w : Nat} (h : i ≠ j) : up1 (up1 A i v) j w = up1 (up1 A j w) i v := by
  funext l
  unfold up1
  by_cases e : l = j
  · rw [if_pos e, if_neg (by omega), if_pos e]
  · rw [if_neg e, if_neg e]
theorem okA_mn {A : Nat → Nat} (ok : okA A) (h : A 0 < 6) : okA (up1 A 0 (A 0 + 1)) := by
  obtain ⟨⟨a0, a2, a2', a3, a5⟩, hwd, hf, hkk, hr, hz⟩ := id ok
  have e : ∀ j, j ≠ 0 → up1 A 0 (A 0 + 1) j = A j := fun j hj => up1_ne hj
  refine ⟨?_, fun g hg => by rw [e _ (by omega)]; exact hwd g hg, fun f hf' => by rw [e _ (by omega), e _ (by omega)]; exact hf f hf', fun j hj => by rw [e _ (by omega), e _ (by omega), e _ (by omega), e _ (by omega), e _ (by omega), e _ (by omega)]; exact hkk j hj, fun r hr' => by rw [e _ (by omega), e _ (by omega), e _ (by omega), e _ (by omega)]; exact hr r hr', fun j h1 h2 => ?_⟩
  · rw [up1_at, e 2 (by omega), e 3 (by omega), e 5 (by omega)]; exact ⟨by omega, a2, a2', a3, a5⟩
  · rw [up1_at] at h1
    rw [e _ (by omega), e _ (by omega)]
    exact hz j (by omega) h2
def kiteA (A : Nat → Nat) (so c st nm : Nat) : Nat → Nat := up1 (up1 (up1 (up1 (up1 (up1 (up1 A 0 (A 0 + 1)) (35 + 6 * A 0 + 0) so) (35 + 6 * A 0 + 1) c) (35 + 6 * A 0 + 2) st) (35 + 6 * A 0 + 3) nm) (35 + 6 * A 0 + 4) 1) (35 + 6 * A 0 + 5) 0
theorem eq_kite {σM σC : Sg} (h : Rel σM σC) (x1 x2 x3 x4 : Int32) : ∃ r σM' σC', f_X12_kite x1 x2 x3 x4 σM = some (r, σM') ∧ f_X11_kite x1 x2 x3 x4 σC = some (r, σC') ∧ Rel σM' σC' := by
  obtain ⟨⟨A, W, g⟩, hk, hr⟩ := id h
  have hm := g.ok.1.1
  unfold f_X12_kite f_X11_kite f_X12_isKind
  rw [show f_X12_isPart 1 x2 σM = rng x2 (nI 0) (nI 63) from m_isPart (w := 1) (b := 63) (by omega) x2 σM, show f_X12_isPart 2 x3 σM = rng x3 (nI 0) (nI 9) from m_isPart (w := 2) (b := 9) (by omega) x3 σM, show f_X12_isPart 3 x4 σM = rng x4 (nI 0) (nI 5) from m_isPart (w := 3) (b := 5) (by omega) x4 σM,
    show f_X11_within x1 1 5 σC = rng x1 (nI 1) (nI 5) from c_in _ _ _ _, show f_X11_within x2 0 63 σC = rng x2 (nI 0) (nI 63) from c_in _ _ _ _, show f_X11_within x3 0 9 σC = rng x3 (nI 0) (nI 9) from c_in _ _ _ _, show f_X11_within x4 0 5 σC = rng x4 (nI 0) (nI 5) from c_in _ _ _ _, m_inN 1 5 1 5 rfl rfl,
    g.m 0 (by decide) (by decide) (by decide) (by decide), g.c.1]
  by_cases q1 : rng x1 (nI 1) (nI 5) = true
  · rw [if_pos q1, if_pos q1]
    by_cases q2 : rng x2 (nI 0) (nI 63) = true
    · rw [if_pos q2, if_pos q2]
      by_cases q3 : rng x3 (nI 0) (nI 9) = true
      · rw [if_pos q3, if_pos q3]
        by_cases q4 : rng x4 (nI 0) (nI 5) = true
        · rw [if_pos q4, if_pos q4]
          by_cases q5 : A 0 = 6
          · rw [if_neg (show ¬ ¬ nI (A 0) = 6 from fun z => z (by rw [q5]; rfl)), if_neg (show ¬ nI (A 0) < 6 from by rw [q5]; decide)]
            exact ⟨_, σM, σC, rfl, rfl, h⟩
          · have h6 : A 0 < 6 := by omega
            rw [if_pos (show ¬ nI (A 0) = 6 from fun z => q5 ((nI_eq (b := 6) (by omega) (by decide)).mp z)), if_pos (show nI (A 0) < 6 from nI_lt (b := 6) h6 (by decide))]
            obtain ⟨so, -, hso, rfl⟩ := (rng_nI (by decide) (by decide)).mp q1
            obtain ⟨c, -, hc, rfl⟩ := (rng_nI (by decide) (by decide)).mp q2
            obtain ⟨st, -, hst, rfl⟩ := (rng_nI (by decide) (by decide)).mp q3
            obtain ⟨nm, -, hnm, rfl⟩ := (rng_nI (by decide) (by decide)).mp q4
            have o1 := okA_mn g.ok h6
            have o2 := okA_kw (k := A 0) (w := 0) (x := so) o1 h6 (by omega)
            have o3 := okA_kw (k := A 0) (w := 1) (x := c) o2 h6 (by omega)
            have o4 := okA_kw (k := A 0) (w := 2) (x := st) o3 h6 (by omega)
            have o5 := okA_kw (k := A 0) (w := 3) (x := nm) o4 h6 (by omega)
            have o6 := okA_al (k := A 0) (v := 1) o5 (by rw [up1_ne (by omega), up1_ne (by omega), up1_ne (by omega), up1_ne (by omega), up1_at]; omega) (by decide)
            have o7 : okA (kiteA A so c st nm) := okA_sv (k := A 0) (v := 0) o6 (by rw [up1_ne (by omega), up1_ne (by omega), up1_ne (by omega), up1_ne (by omega), up1_ne (by omega), up1_at]; omega) (by decide)
            have s1 := g.c.up (P := 24) (S := 1) (I := 0) (by unfold corr; omega) (A 0 + 1)
            have s2 := s1.up (P := 25) (S := A 0) (I := 35 + 6 * A 0 + 0) (by unfold corr; omega) so
            have s3 := s2.A (B := up1 (up1 (up1 (up1 A 0 (A 0 + 1)) (35 + 6 * A 0 + 0) so) (35 + 6 * A 0 + 1) c) (35 + 6 * A 0 + 2) st) (fun j hj => by rw [up1_ne (by omega), up1_ne (by omega)])
            have s4 := s3.up (P := 26) (S := A 0) (I := 35 + 6 * A 0 + 3) (by unfold corr; omega) nm
            have s5 : rCs _ (kiteA A so c st nm) := s4.A (fun j hj => by unfold kiteA; rw [up1_ne (by omega), up1_ne (by omega)])
            have d1 := g.d.lo (i := 0) (v := A 0 + 1) (by omega) (by omega)
            have d2 := d1.kw (k := A 0) (w := 0) (x := so) (by omega)
            have d3 : rCd (upS (upS (upS σC 24 1 (nI (A 0 + 1))) 25 (A 0) (nI so)) 26 (A 0) (nI nm)) 41 _ _ := d2.mono (by rw [upS_ne (by decide), upS_ne (by decide), upS_ne (by decide)]) (by rw [upS_ne (by decide), upS_ne (by decide), upS_ne (by decide)]) (by rw [upS_ne (by decide), upS_ne (by decide), upS_ne (by decide)])
            have d4 := d3.loc (k := A 0) (x := c) h6
            have d5 := d4.str (k := A 0) (x := st) h6
            have d6 := d5.kw (k := A 0) (w := 3) (x := nm) (by omega)
            have d7 := d6.al o5 (k := A 0) (v := 1) h6 (by decide)
            have d8 := (d7 (upS (upS (upS (upS (upS σC 24 1 (nI (A 0 + 1))) 25 (A 0) (nI so)) 26 (A 0) (nI nm)) (41 + 1) (A 0) (nI c)) (41 + 2) (A 0) (nI st))).sv o6 (k := A 0) (v := 0) h6 (by decide)
            have em : rM (upS (upS (upS (upS (upS (upS (upS σM 1 (35 + 6 * A 0 + 0) (nI so)) 1 (35 + 6 * A 0 + 1) (nI c)) 1 (35 + 6 * A 0 + 2) (nI st)) 1 (35 + 6 * A 0 + 3) (nI nm)) 1 (35 + 6 * A 0 + 4) (nI 1)) 1 (35 + 6 * A 0 + 5) (nI 0)) 1 0 (nI (A 0 + 1))) (kiteA A so c st nm) := by
              have := rM.up (i := 0) (v := A 0 + 1) (rM.up (i := 35 + 6 * A 0 + 5) (v := 0) (rM.up (i := 35 + 6 * A 0 + 4) (v := 1) (rM.up (i := 35 + 6 * A 0 + 3) (v := nm) (rM.up (i := 35 + 6 * A 0 + 2) (v := st) (rM.up (i := 35 + 6 * A 0 + 1) (v := c) (rM.up (i := 35 + 6 * A 0 + 0) (v := so) g.m))))))
              rw [up1_cm (by omega), up1_cm (i := 35 + 6 * A 0 + 4) (j := 0) (by omega), up1_cm (i := 35 + 6 * A 0 + 3) (j := 0) (by omega), up1_cm (i := 35 + 6 * A 0 + 2) (j := 0) (by omega), up1_cm (i := 35 + 6 * A 0 + 1) (j := 0) (by omega), up1_cm (i := 35 + 6 * A 0 + 0) (j := 0) (by omega)] at this
              exact this
            have e4 : (upS (upS (upS (upS (upS (upS (upS σM 1 (35 + 6 * A 0 + 0) (nI so)) 1 (35 + 6 * A 0 + 1) (nI c)) 1 (35 + 6 * A 0 + 2) (nI st)) 1 (35 + 6 * A 0 + 3) (nI nm)) 1 (35 + 6 * A 0 + 4) (nI 1)) 1 (35 + 6 * A 0 + 5) (nI 0)) 1 0 (nI (A 0 + 1))) 1 4 = σM 1 4 := by rw [upS_nj (by omega), upS_nj (by omega), upS_nj (by omega), upS_nj (by omega), upS_nj (by omega), upS_nj (by omega), upS_nj (by omega)]
            have sm : ∀ (σ : Sg) (i : Nat) (v : Int32), (35 ≤ i ∧ i < 71 ∨ i = 0) → sameM σ (upS σ 1 i v) := fun σ i v hi => sameM.up (by omega) (by omega) (by omega)
            simp only [lit]
            rw [lt_ap, m_at, wr_nI (by omega) (by decide), bnd_some, m_at, wr_nI (by omega) (by decide), bnd_some, m_at, wr_nI (by omega) (by decide), bnd_some, m_at, wr_nI (by omega) (by decide), bnd_some, m_at, wr_nI (by omega) (by decide), bnd_some, m_at, wr_nI (by omega) (by decide), bnd_some, lt_ap,
              upS_nj (by omega), upS_nj (by omega), upS_nj (by omega), upS_nj (by omega), upS_nj (by omega), upS_nj (by omega), g.m 0 (by decide) (by decide) (by decide) (by decide), nI_add]
            unfold f_X1_addKite
            rw [lt_ap, lt_ap, g.c.1, nI_1, wr_nI h6 (by decide), bnd_some, wr_nI h6 (by decide), bnd_some, wr_nI h6 (by decide), bnd_some, wr_nI h6 (by decide), bnd_some, lt_ap, lt_ap, bd2_some]
            refine ⟨_, _, _, rfl, rfl, h.set g o7 em ((sm _ _ _ (by omega)).tr ((sm _ _ _ (by omega)).tr ((sm _ _ _ (by omega)).tr ((sm _ _ _ (by omega)).tr ((sm _ _ _ (by omega)).tr ((sm _ _ _ (by omega)).tr (sm _ _ _ (by omega)))))))) (s5.mono (fun p a b => ?_)) ?_ (fun p a b c d => ?_) ?_⟩
            · rw [upS_ne (by omega), upS_ne (by omega), upS_ne (by omega), upS_ne (by omega)]
            · rw [e4]
              exact d8 _
            · rw [upS_ne (by omega), upS_ne (by omega), upS_ne (by omega), upS_ne (by omega), upS_ne (by omega), upS_ne (by omega), upS_ne (by omega)]
            · rw [upS_ne (by omega), upS_ne (by omega), upS_ne (by omega), upS_ne (by omega), upS_ne (by omega), upS_ne (by omega), upS_nj (by omega)]
        · rw [if_neg q4, if_neg q4]
          exact ⟨_, σM, σC, rfl, rfl, h⟩
      · rw [if_neg q3, if_neg q3]
        exact ⟨_, σM, σC, rfl, rfl, h⟩
    · rw [if_neg q2, if_neg q2]
      exact ⟨_, σM, σC, rfl, rfl, h⟩
  · rw [if_neg q1, if_neg q1]
    exact ⟨_, σM, σC, rfl, rfl, h⟩
theorem m_kiteOf_w {σ : Sg} {A : Nat → Nat} (h : rM σ A) (ok : okA A) {k w : Nat} (hk : k < A 0) (hw : w < 6) : f_X12_kiteOf (nI k) (nI w) σ = some (nI (A (35 + 6 * k + w)), σ) := by
  have hm := ok.1.1
  unfold f_X12_kiteOf
  rw [m_isKite h, m_inN 0 9 0 9 rfl rfl, if_pos ((kite_iff (by omega)).mpr ⟨k, hk, rfl⟩), if_pos ((rng_nI (by decide) (by decide)).mpr ⟨w, by omega, by omega, rfl⟩),
    if_neg (show ¬ nI w = 6 from fun z => absurd ((nI_eq (b := 6) (by omega) (by decide)).mp z) (by omega)), if_neg (show ¬ nI w = 7 from fun z => absurd ((nI_eq (b := 7) (by omega) (by decide)).mp z) (by omega)),
    if_neg (show ¬ nI w = 8 from fun z => absurd ((nI_eq (b := 8) (by omega) (by decide)).mp z) (by omega)), if_neg (show ¬ nI w = 9 from fun z => absurd ((nI_eq (b := 9) (by omega) (by decide)).mp z) (by omega)), m_its h (by omega) hw, bnd_some]
theorem c_driftsNow {σ : Sg} {A : Nat → Nat} {sc : Int32} (hs : rCs σ A) (hd : rCd σ 41 A sc) (ok : okA A) {k : Nat} (hk : k < 6) : f_X1_driftsNow (nI k) σ = some (nI (if A 3 < 16 then driftA A k else 0)) := by
  have h3 := ok.1.2.2.2.1
  have hk0 := (ok.2.2.2.1 k hk).1
  unfold f_X1_driftsNow
  rw [lt_ap, hd.1]
  by_cases q : A 3 < 16
  · have hw := wind_b ok q
    have hw' : A (7 + A 3) ≤ 15 := hw
    rw [if_neg (show ¬ (16 : Int32) ≤ nI (A 3) from nI_ge (b := 16) q (by decide)), rd_nI hk (by decide), bnd_some, (hs.2.2.2.1 k hk).1, if_neg (nI_in (by omega) (by decide)), nI_clamp (by omega), c_windOf hs q, bnd_some, if_pos q,
      show nI (A (7 + A 3)) / 4 = nI (A (7 + A 3) / 4) from pk_div (d := 4) (by omega) (by decide) (by decide), c_drift (by omega) (by omega) q]
    rfl
  · rw [if_pos (show (16 : Int32) ≤ nI (A 3) from nI_le (a := 16) (by omega) (by omega)), if_neg q]
    rfl
theorem m_driftsNow {σ : Sg} {A : Nat → Nat} (h : rM σ A) (ok : okA A) {k : Nat} (hk : k < 6) : f_X12_drifts (nI k) σ = some (nI (if A 3 < 16 then driftA A k else 0)) := by
  have h3 := ok.1.2.2.2.1
  by_cases q : A 3 < 16
  · rw [m_drifts h ok q hk, if_pos q]
  · unfold f_X12_drifts
    rw [h 3 (by decide) (by decide) (by decide) (by decide), if_pos (show (16 : Int32) ≤ nI (A 3) from nI_le (a := 16) (by omega) (by omega)), if_neg q]
    rfl
