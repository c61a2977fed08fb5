theorem eqn_up {σ : Sg} {A : Nat → Nat} {P S I v p s i : Nat} (h : σ p s = nI (A i)) (c : (p = P ∧ s = S) ↔ i = I) : upS σ P S (nI v) p s = nI (up1 A I v i) := by
  rw [upS_ap]
  by_cases e : i = I
  · rw [if_pos (c.mpr e), e, up1_at]
  · rw [if_neg (fun z => e (c.mp z)), up1_ne e]; exact h
/-- the place of a number of the county in the class -/
def corr (P S I : Nat) : Prop := (P = 24 ∧ S = 1 ∧ I = 0) ∨ (P = 24 ∧ S = 2 ∧ I = 2) ∨ (P = 24 ∧ S = 4 ∧ I = 5) ∨ (P = 25 ∧ S < 6 ∧ I = 35 + 6 * S + 0) ∨ (P = 26 ∧ S < 6 ∧ I = 35 + 6 * S + 3) ∨ (P = 27 ∧ S < 16 ∧ I = 7 + S) ∨ (P = 28 ∧ S < 6 ∧ I = 23 + 2 * S) ∨ (P = 29 ∧ S < 6 ∧ I = 23 + 2 * S + 1) ∨
  (30 ≤ P ∧ P < 34 ∧ S < 6 ∧ I = 71 + 4 * S + (P - 30))
theorem rCs.up {σ : Sg} {A : Nat → Nat} (h : rCs σ A) {P S I : Nat} (c : corr P S I) (v : Nat) : rCs (upS σ P S (nI v)) (up1 A I v) := by
  unfold corr at c
  obtain ⟨h1, h2, h3, h4, h5, h6, h7⟩ := h
  refine ⟨eqn_up h1 (by omega), eqn_up h2 (by omega), eqn_up h3 (by omega), fun k hk => ⟨eqn_up (h4 k hk).1 (by omega), eqn_up (h4 k hk).2 (by omega)⟩, fun g hg => eqn_up (h5 g hg) (by omega), fun f hf => ⟨eqn_up (h6 f hf).1 (by omega), eqn_up (h6 f hf).2 (by omega)⟩,
    fun r hr => ⟨eqn_up (h7 r hr).1 (by omega), eqn_up (h7 r hr).2.1 (by omega), eqn_up (h7 r hr).2.2.1 (by omega), eqn_up (h7 r hr).2.2.2 (by omega)⟩⟩
theorem rCd.lo {σ : Sg} {n : Nat} {A : Nat → Nat} {sc : Int32} (h : rCd σ n A sc) {i v : Nat} (h3 : i ≠ 3) (hi : i < 35 ∨ 71 ≤ i) : rCd σ n (up1 A i v) sc := by
  obtain ⟨h0, h1, h2, h3', h4⟩ := h
  refine ⟨by rw [up1_ne (by omega)]; exact h0, h1, by rw [set_ne (fun j _ => by omega)]; exact h2, by rw [set_ne (fun j _ => by omega)]; exact h3', fun j hj => ?_⟩
  rw [up1_ne (by omega), up1_ne (by omega)]
  exact h4 j hj
theorem up1_ge {A : Nat → Nat} {i v j b : Nat} (h : b ≤ A j) (g : j = i → b ≤ v) : b ≤ up1 A i v j := by
  unfold up1
  split
  · rename_i e; exact g e
  · exact h
theorem okA_up {A : Nat → Nat} (ok : okA A) {i v : Nat} (h0 : i ≠ 0) (hk : i < 35 ∨ 71 ≤ i) (h2 : i = 2 → 1 ≤ v ∧ v ≤ 16) (h3 : i = 3 → v ≤ 16) (h5 : i = 5 → v ≤ 6) (hw : 7 ≤ i → i < 23 → v ≤ 15) (hf : 23 ≤ i → i < 35 → v ≤ 63 ∧ ((i - 23) % 2 = 1 → v ≤ 14))
    (hr : 71 ≤ i → i < 95 → v ≤ 15 ∧ ((i - 71) % 4 = 1 → v ≤ 1) ∧ (2 ≤ (i - 71) % 4 → v ≤ 7)) : okA (up1 A i v) := by
  obtain ⟨⟨a0, a2, a2', a3, a5⟩, hwd, hfm, hkk, hre, hz⟩ := id ok
  refine ⟨⟨up1_le a0 (by omega), up1_ge a2 (by omega), up1_le a2' (by omega), up1_le a3 (by omega), up1_le a5 (by omega)⟩, fun g hg => up1_le (hwd g hg) (by omega), fun f hf' => ⟨up1_le (hfm f hf').1 (by omega), up1_le (hfm f hf').2 (by omega)⟩, fun j hj => ?_, fun r hr' => ?_, fun j j1 j2 => ?_⟩
  · rw [up1_ne (by omega), up1_ne (by omega), up1_ne (by omega), up1_ne (by omega), up1_ne (by omega), up1_ne (by omega)]; exact hkk j hj
  · obtain ⟨r0, r1, r2, r3⟩ := hre r hr'
    exact ⟨up1_le r0 (by omega), up1_le r1 (by omega), up1_le r2 (by omega), up1_le r3 (by omega)⟩
  · rw [up1_ne (by omega)] at j1
    rw [up1_ne (by omega), up1_ne (by omega)]
    exact hz j j1 j2
theorem Rel.put {σM σC : Sg} {A : Nat → Nat} {W : WT} (h : Rel σM σC) (g : Hold σM σC A W) {P S I v : Nat} (c : corr P S I) (ok' : okA (up1 A I v)) (h3 : I ≠ 3) (hI : I < 35 ∨ 71 ≤ I) : Rel (upS σM 1 I (nI v)) (upS σC P S (nI v)) := by
  have c' := c
  unfold corr at c'
  refine h.set g ok' (rM.up g.m) (sameM.up (by omega) (by omega) (by omega)) (g.c.up c v) ?_ (fun p a b d e => upS_ne (by omega)) (upS_nj (by omega))
  rw [upS_nj (by omega)]
  exact (g.d.lo h3 hI).mono (upS_ne (by omega)) (upS_ne (by omega)) (upS_ne (by omega))
theorem eq_wind {σM σC : Sg} (h : Rel σM σC) (x v : Int32) : ∃ r σM' σC', f_X12_wind x v σM = some (r, σM') ∧ f_X11_wind x v σC = some (r, σC') ∧ Rel σM' σC' := by
  obtain ⟨⟨A, W, g⟩, hk, hr⟩ := id h
  unfold f_X12_wind f_X11_wind f_X12_isGust
  rw [m_inN 0 15 0 15 rfl rfl, m_inN 0 15 0 15 rfl rfl, c_in, c_in, show (15 : Int32) = nI 15 from rfl, show (0 : Int32) = nI 0 from rfl]
  by_cases q : rng x (nI 0) (nI 15) = true
  · rw [if_pos q, if_pos q]
    obtain ⟨k, -, hk0, rfl⟩ := (rng_nI (by decide) (by decide)).mp q
    by_cases q2 : rng v (nI 0) (nI 15) = true
    · rw [if_pos q2, if_pos q2]
      obtain ⟨n, -, hn, rfl⟩ := (rng_nI (by decide) (by decide)).mp q2
      rw [show (7 : Int32) = nI 7 from rfl, nI_add, m_becomes (by omega), bd2_some, g.m _ (by omega) (by omega) (by omega) (by omega), rd_nI (by omega) (by decide), bnd_some, wr_nI (by omega) (by decide), bnd_some, g.c.2.2.2.2.1 k (by omega)]
      exact ⟨_, _, _, rfl, rfl, h.put g (by unfold corr; omega) (okA_up g.ok (by omega) (by omega) (by omega) (by omega) (by omega) (by omega) (by omega) (by omega)) (by omega) (by omega)⟩
    · rw [if_neg q2, if_neg q2]
      exact ⟨_, σM, σC, rfl, rfl, h⟩
  · rw [if_neg q, if_neg q]
    exact ⟨_, σM, σC, rfl, rfl, h⟩
theorem m_farmOf {σ : Sg} {A : Nat → Nat} (h : rM σ A) {f w : Nat} (hf : f < 6) (hw : w < 2) : f_X12_farmOf (nI f) (nI w) σ = some (nI (A (23 + 2 * f + w))) := by
  unfold f_X12_farmOf f_X12_isFarm
  rw [m_inN 0 5 0 5 rfl rfl, m_inN 0 1 0 1 rfl rfl, if_pos ((rng_nI (by decide) (by decide)).mpr ⟨f, by omega, by omega, rfl⟩), if_pos ((rng_nI (by decide) (by decide)).mpr ⟨w, by omega, by omega, rfl⟩)]
  simp only [lit]
  rw [pk_mul, nI_add, nI_add, rd_nI (by omega) (by decide), bnd_some, h _ (by omega) (by omega) (by omega) (by omega)]
theorem c_farmOf {σ : Sg} {A : Nat → Nat} (h : rCs σ A) {f w : Nat} (hf : f < 6) (hw : w < 2) : f_X11_farmOf (nI f) (nI w) σ = some (nI (A (23 + 2 * f + w))) := by
  unfold f_X11_farmOf
  rw [c_in, c_in, show (0 : Int32) = nI 0 from rfl, show (5 : Int32) = nI 5 from rfl, show (1 : Int32) = nI 1 from rfl, if_pos ((rng_nI (by decide) (by decide)).mpr ⟨f, by omega, by omega, rfl⟩), if_pos ((rng_nI (by decide) (by decide)).mpr ⟨w, by omega, by omega, rfl⟩)]
  match w, hw with
  | 0, _ => rw [if_neg (by decide), rd_nI hf (by decide), bnd_some, (h.2.2.2.2.2.1 f hf).1]; rfl
  | 1, _ => rw [if_pos (by decide), rd_nI hf (by decide), bnd_some, (h.2.2.2.2.2.1 f hf).2]
  | w + 2, q => exact absurd q (by omega)
theorem farm_no {x y : Int32} (q : ¬ (rng x (nI 0) (nI 5) = true ∧ rng y (nI 0) (nI 1) = true)) (σ : Sg) : f_X12_farmOf x y σ = some (-1) ∧ f_X11_farmOf x y σ = some (-1) := by
  unfold f_X12_farmOf f_X12_isFarm f_X11_farmOf
  rw [m_inN 0 5 0 5 rfl rfl, m_inN 0 1 0 1 rfl rfl, c_in, c_in, show (0 : Int32) = nI 0 from rfl, show (5 : Int32) = nI 5 from rfl, show (1 : Int32) = nI 1 from rfl]
  by_cases q1 : rng x (nI 0) (nI 5) = true
  · have q2 : ¬ rng y (nI 0) (nI 1) = true := fun z => q ⟨q1, z⟩
    rw [if_pos q1, if_neg q2, if_pos q1, if_neg q2]
    exact ⟨rfl, rfl⟩
  · rw [if_neg q1, if_neg q1]
    exact ⟨rfl, rfl⟩
theorem eq_farmOf {σM σC : Sg} (h : Rel σM σC) (x y : Int32) : ∃ r, f_X12_farmOf x y σM = some r ∧ f_X11_farmOf x y σC = some r := by
  obtain ⟨⟨A, W, g⟩, hk, hr⟩ := id h
  by_cases q : rng x (nI 0) (nI 5) = true ∧ rng y (nI 0) (nI 1) = true
  · obtain ⟨f, -, hf, rfl⟩ := (rng_nI (by decide) (by decide)).mp q.1
    obtain ⟨w, -, hw, rfl⟩ := (rng_nI (by decide) (by decide)).mp q.2
    exact ⟨_, m_farmOf g.m (by omega) (by omega), c_farmOf g.c (by omega) (by omega)⟩
  · exact ⟨_, (farm_no q σM).1, (farm_no q σC).2⟩
theorem eq_farm {σM σC : Sg} (h : Rel σM σC) (x y v : Int32) : ∃ r σM' σC', f_X12_farm x y v σM = some (r, σM') ∧ f_X11_farm x y v σC = some (r, σC') ∧ Rel σM' σC' := by
  obtain ⟨⟨A, W, g⟩, hk, hr⟩ := id h
  have b33 : ∀ (t : Int32) (σ : Sg), rng x (nI 0) (nI 5) = false ∨ t = 0 → f_X12_farm_b33 x y v t σ = some (-1, σ) := by
    intro t σ ht
    unfold f_X12_farm_b33 f_X12_isFarm
    rw [m_inN 0 5 0 5 rfl rfl]
    rcases ht with e | e
    · rw [e, if_neg (by decide)]
    · rw [if_pos e, ite_self]
  by_cases q : rng x (nI 0) (nI 5) = true ∧ rng y (nI 0) (nI 1) = true
  · obtain ⟨f, -, hf, rfl⟩ := (rng_nI (by decide) (by decide)).mp q.1
    obtain ⟨w, -, hw, rfl⟩ := (rng_nI (by decide) (by decide)).mp q.2
    have hfw : A (23 + 2 * f + w) ≤ 63 := by
      have := g.ok.2.2.1 f (by omega)
      match w, hw with
      | 0, _ => exact this.1
      | 1, _ => have := this.2; omega
      | w + 2, q => exact absurd q (by omega)
    have hne : ¬ nI (A (23 + 2 * f + w)) = -1 := fun z => by
      have := congrArg Int32.toInt z
      rw [nI_toInt (by omega)] at this
      exact absurd this (by have : (-1 : Int32).toInt = -1 := rfl; omega)
    have hin : rng (nI f) (nI 0) (nI 5) = true := q.1
    unfold f_X12_farm f_X11_farm
    rw [c_farmOf g.c (by omega) (by omega), bnd_some, if_neg hne]
    have put : ∀ (n : Nat), n ≤ 63 → (w = 1 → n ≤ 14) → f_X12_farm_b33 (nI f) (nI w) (nI n) 1 σM = some (nI (A (23 + 2 * f + w)), upS σM 1 (23 + 2 * f + w) (nI n)) ∧ okA (up1 A (23 + 2 * f + w) n) := by
      intro n hn hn2
      unfold f_X12_farm_b33 f_X12_isFarm
      rw [m_inN 0 5 0 5 rfl rfl, if_pos hin, if_neg (by decide)]
      simp only [lit]
      rw [pk_mul, nI_add, nI_add, m_becomes (by omega), bd2_some, g.m _ (by omega) (by omega) (by omega) (by omega)]
      exact ⟨rfl, okA_up g.ok (by omega) (by omega) (by omega) (by omega) (by omega) (by omega) (by omega) (by omega)⟩
    match w, hw with
    | 0, _ =>
      rw [if_neg (by decide), if_neg (by decide)]
      unfold f_X11_farm_b27 f_X12_isCell
      rw [m_inN 0 63 0 63 rfl rfl, c_in, show (63 : Int32) = nI 63 from rfl, show (0 : Int32) = nI 0 from rfl]
      by_cases q2 : rng v (nI 0) (nI 63) = true
      · obtain ⟨n, -, hn, rfl⟩ := (rng_nI (by decide) (by decide)).mp q2
        obtain ⟨p1, p2⟩ := put n hn (by omega)
        rw [if_pos q2, if_neg (by decide), wr_nI (by omega) (by decide), bnd_some, q2]
        exact ⟨_, _, _, p1, rfl, h.put g (by unfold corr; omega) p2 (by omega) (by omega)⟩
      · rw [if_neg q2, b33 _ _ (Or.inr (by rw [Bool.not_eq_true] at q2; rw [q2]; rfl))]
        exact ⟨_, σM, σC, rfl, rfl, h⟩
    | 1, _ =>
      rw [if_pos (by decide), if_neg (by decide), if_pos (show ¬ nI 1 = 0 by decide)]
      unfold f_X11_farm_b27
      rw [m_inN 0 14 0 14 rfl rfl, c_in, show (14 : Int32) = nI 14 from rfl, show (0 : Int32) = nI 0 from rfl]
      by_cases q2 : rng v (nI 0) (nI 14) = true
      · obtain ⟨n, -, hn, rfl⟩ := (rng_nI (by decide) (by decide)).mp q2
        obtain ⟨p1, p2⟩ := put n (by omega) (by omega)
        rw [if_pos q2, if_pos q2, if_pos (by decide), wr_nI (by omega) (by decide), bnd_some]
        exact ⟨_, _, _, p1, rfl, h.put g (by unfold corr; omega) p2 (by omega) (by omega)⟩
      · rw [if_neg q2, if_neg q2, b33 (nI 0) σM (Or.inr rfl)]
        exact ⟨_, σM, σC, rfl, rfl, h⟩
    | w + 2, q => exact absurd q (by omega)
  · have hc : f_X11_farm x y v σC = some (-1, σC) := by
      unfold f_X11_farm
      rw [(farm_no q σC).2, bnd_some, if_pos rfl]
    have hmm : f_X12_farm x y v σM = some (-1, σM) := by
      unfold f_X12_farm
      by_cases q1 : rng x (nI 0) (nI 5) = true
      · have q2 : ¬ rng y (nI 0) (nI 1) = true := fun z => q ⟨q1, z⟩
        have y0 : ¬ y = 0 := fun e => q2 (by rw [e]; decide)
        have y1 : ¬ y = 1 := fun e => q2 (by rw [e]; decide)
        rw [if_pos y0, if_pos y1, b33 _ _ (Or.inr rfl)]
      · rw [Bool.not_eq_true] at q1
        rw [b33 _ _ (Or.inl q1), b33 _ _ (Or.inl q1), b33 _ _ (Or.inl q1), ite_self, ite_self, ite_self]
    exact ⟨_, σM, σC, hmm, hc, h⟩
theorem eq_ends {σM σC : Sg} (h : Rel σM σC) (x : Int32) : ∃ r σM' σC', f_X12_ends x σM = some (r, σM') ∧ f_X11_ends x σC = (r, σC') ∧ Rel σM' σC' := by
  obtain ⟨⟨A, W, g⟩, hk, hr⟩ := id h
  have h16 := g.ok.1.2.2.2.1
  unfold f_X12_ends f_X11_ends
  rw [m_inN 1 16 1 16 rfl rfl, c_in, show (1 : Int32) = nI 1 from rfl, show (16 : Int32) = nI 16 from rfl]
  by_cases q : rng x (nI 1) (nI 16) = true
  · rw [if_pos q, if_pos q]
    obtain ⟨n, h1, hn, rfl⟩ := (rng_nI (by decide) (by decide)).mp q
    rw [g.m 3 (by decide) (by decide) (by decide) (by decide), g.d.1]
    by_cases q2 : A 3 ≤ n
    · rw [if_pos (nI_le q2 (by omega)), if_pos (nI_le q2 (by omega)), show (2 : Int32) = nI 2 from rfl, m_becomes (by omega), bd2_some, lt_ap, lt_ap, g.m 2 (by decide) (by decide) (by decide) (by decide), g.c.2.1]
      exact ⟨_, _, _, rfl, rfl, h.put g (by unfold corr; omega) (okA_up g.ok (by omega) (by omega) (by omega) (by omega) (by omega) (by omega) (by omega) (by omega)) (by omega) (by omega)⟩
    · rw [if_neg (nI_ge (by omega) (by omega)), if_neg (nI_ge (by omega) (by omega))]
      exact ⟨_, σM, σC, rfl, rfl, h⟩
  · rw [if_neg q, if_neg q]
    exact ⟨_, σM, σC, rfl, rfl, h⟩
theorem eq_forget {σM σC : Sg} (h : Rel σM σC) : ∃ r σM' σC', f_X12_forget σM = some (r, σM') ∧ f_X11_forget σC = (r, σC') ∧ Rel σM' σC' := by
  obtain ⟨⟨A, W, g⟩, hk, hr⟩ := id h
  unfold f_X12_forget f_X11_forget
  rw [show (5 : Int32) = nI 5 from rfl, show (0 : Int32) = nI 0 from rfl, m_becomes (by omega), bd2_some, lt_ap, lt_ap, g.m 5 (by decide) (by decide) (by decide) (by decide), g.c.2.2.1]
  exact ⟨_, _, _, rfl, rfl, h.put g (by unfold corr; omega) (okA_up g.ok (by omega) (by omega) (by omega) (by omega) (by omega) (by omega) (by omega) (by omega)) (by omega) (by omega)⟩
theorem eq_seed {σM σC : Sg} (h : Rel σM σC) (x : Int32) : ∃ r σM' σC', f_X12_seed x σM = some (r, σM') ∧ f_X11_seed x σC = (r, σC') ∧ Rel σM' σC' := by
  obtain ⟨⟨A, W, g⟩, hk, hr⟩ := id h
  unfold f_X12_seed f_X11_seed
  rw [show (6 : Int32) = nI 6 from rfl, m_becomes (by omega), bd2_some, lt_ap, lt_ap, g.z]
  refine ⟨_, _, _, rfl, rfl, ⟨A, W, g.ok, g.okw, fun i a b c d => ?_, ?_, ?_, g.rm.eq (fun i _ _ => upS_nj (by omega)), g.rc.mono (fun p a b => upS_ne (by omega)), ?_, ?_⟩, h.kept.go oM.up (oC.up (by decide) (by decide)), h.rest.go oM.up (oC.up (by decide) (by decide))⟩
  · rw [upS_nj (by omega)]; exact g.m i a b c d
  · obtain ⟨h1, h2, h3, h4, h5, h6, h7⟩ := g.c
    refine ⟨by rw [upS_nj (by decide)]; exact h1, by rw [upS_nj (by decide)]; exact h2, by rw [upS_nj (by decide)]; exact h3, ?_⟩
    rw [upS_ne (by decide), upS_ne (by decide), upS_ne (by decide), upS_ne (by decide), upS_ne (by decide), upS_ne (by decide), upS_ne (by decide), upS_ne (by decide), upS_ne (by decide)]
    exact ⟨h4, h5, h6, h7⟩
  · rw [upS_nj (by omega)]; exact g.d.mono (upS_ne (by decide)) (upS_ne (by decide)) (upS_ne (by decide))
  · rw [upS_at, upS_at]
  · rw [upS_ne (by decide), upS_nj (by decide)]; exact g.n
