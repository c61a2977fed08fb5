/-! sets told, state, anew, kites -/
def setP (A : Nat → Nat) (w : Nat) : Nat → Nat
  | 0 => 0
  | n + 1 => setP A w n + A (35 + 6 * n + w) * 2 ^ n
theorem setP_6 (A : Nat → Nat) (w : Nat) : setP A w 6 = setN A w := by
  unfold setN
  simp only [setP]
  omega
theorem setP_hi {A : Nat → Nat} {w m : Nat} (h : ∀ k, m ≤ k → k < 6 → A (35 + 6 * k + w) = 0) : ∀ d n, m ≤ n → n + d = 6 → setP A w n = setP A w 6
  | 0, n, _, e => by rw [show n = 6 by omega]
  | d + 1, n, hn, e => by
    rw [← setP_hi h d (n + 1) (by omega) (by omega)]
    show _ = setP A w n + A (35 + 6 * n + w) * 2 ^ n
    rw [h n hn (by omega)]
    omega
theorem setP_lt {A : Nat → Nat} {w : Nat} (h : ∀ k, k < 6 → A (35 + 6 * k + w) ≤ 1) : ∀ n, n ≤ 6 → setP A w n < 2 ^ n
  | 0, _ => by show (0 : Nat) < 1; omega
  | n + 1, hn => by
    have ih := setP_lt h n (by omega)
    have ha := h n (by omega)
    show setP A w n + A (35 + 6 * n + w) * 2 ^ n < 2 ^ (n + 1)
    rw [Nat.pow_succ]
    by_cases e : A (35 + 6 * n + w) = 0
    · rw [e]; omega
    · rw [show A (35 + 6 * n + w) = 1 by omega]; omega
theorem bit_or : ∀ k, k < 6 → ∀ p, p < 64 → ∀ a, a < 2 → p < 2 ^ k → nI p ||| shl32 (nI a) (nI k) = nI (p + a * 2 ^ k) := by decide +kernel
theorem m_those_l {σ : Sg} {A : Nat → Nat} (h : rM σ A) (ok : okA A) {w : Nat} (hw : w = 4 ∨ w = 5) : ∀ (d k n : Nat), k + d = A 0 → d < n → f_X12_those_l4 (nI w) σ n (nI (setP A w k)) (nI k) = some (nI (setN A w))
  | d, k, 0, _, hn => absurd hn (by omega)
  | d, k, n + 1, hd, hn => by
    have hm := ok.1.1
    have hb : ∀ k, k < 6 → A (35 + 6 * k + w) ≤ 1 := by
      rcases hw with rfl | rfl
      · exact ok_al ok
      · exact ok_sv ok
    show f_X12_those_b4 (f_X12_those_l4 (nI w) σ n) (nI w) σ (nI (setP A w k)) (nI k) = _
    unfold f_X12_those_b4
    rw [h 0 (by decide) (by decide) (by decide) (by decide)]
    cases d with
    | zero =>
      rw [if_pos (nI_le (by omega) (by omega)), ← setP_6, setP_hi (m := A 0) (w := w) (fun j h1 h2 => ?_) (6 - k) k (by omega) (by omega)]
      have := ok.2.2.2.2.2 j h1 h2
      rcases hw with rfl | rfl
      · exact this.1
      · exact this.2
    | succ d =>
      have hk : k < 6 := by omega
      have hlt := setP_lt hb k (by omega)
      have h64 : (2 : Nat) ^ k ≤ 2 ^ 6 := Nat.pow_le_pow_right (by decide) (by omega)
      rw [if_neg (nI_ge (by omega) (by omega)), m_its h hk (by omega), bnd_some, lt_ap, nI_1, bit_or k hk _ (by omega) _ (by have := hb k hk; omega) hlt]
      exact m_those_l h ok hw d (k + 1) n (by omega) (by omega)
theorem m_those {σ : Sg} {A : Nat → Nat} (h : rM σ A) (ok : okA A) {w : Nat} (hw : w = 4 ∨ w = 5) : f_X12_those (nI w) σ = some (nI (setN A w)) := by
  unfold f_X12_those
  have hm := ok.1.1
  exact m_those_l h ok hw (A 0) 0 400 (by omega) (by omega)
theorem ones0 : ∀ s, s < 64 → f_X12_ones (nI s) z0 = some (f_J6_bitCount_0f7a4 (nI s) z0) := by decide +kernel
theorem ones_eq {s : Nat} (h : s < 64) (σ σ' : Sg) : f_X12_ones (nI s) σ = some (f_J6_bitCount_0f7a4 (nI s) σ') := ones0 s h
theorem traced_eq {σM σC : Sg} (h : Rest σM σC) : f_X12_traced σM = σC 0 16 := by
  obtain ⟨n, hn, e1, e2, -⟩ := h.trn
  unfold f_X12_traced
  rw [e1, e2]
  by_cases q : n < 30
  · rw [if_neg (show ¬ (30 : Int32) ≤ nI n from nI_ge (b := 30) q (by omega)), Nat.min_eq_left (by omega)]
  · rw [if_pos (show (30 : Int32) ≤ nI n from nI_le (a := 30) (by omega) (by omega)), Nat.min_eq_right (by omega)]
    rfl
theorem c_windNow {σ : Sg} {A : Nat → Nat} (hs : rCs σ A) (ok : okA A) : f_X1_windOf (nI (A 3)) σ = some (nI (if A 3 < 16 then A (7 + A 3) else 0)) := by
  have h3 := ok.1.2.2.2.1
  by_cases q : A 3 < 16
  · rw [if_pos q]; exact c_windOf hs q
  · rw [if_neg q]
    unfold f_X1_windOf
    rw [c_in, show (15 : Int32) = nI 15 from rfl, if_neg (fun z => ?_)]
    · rfl
    · obtain ⟨k, -, h2, e⟩ := (rng_nI (lo := 0) (by decide) (by decide)).mp z
      have := (nI_eq (by omega) (by omega)).mp e
      omega
theorem eq_state {σM σC : Sg} (h : Rel σM σC) (x : Int32) : ∃ r, f_X12_state x σM = some r ∧ f_X11_state x σC = some r := by
  obtain ⟨⟨A, W, g⟩, hk, hr⟩ := id h
  unfold f_X12_state f_X11_state
  rw [g.m 3 (by decide) (by decide) (by decide) (by decide), g.m 2 (by decide) (by decide) (by decide) (by decide), g.d.1, g.d.2.1, g.d.2.2.1, g.d.2.2.2.1, g.c.2.1, m_over g.m g.ok, c_over g.c g.d g.ok, show (4 : Int32) = nI 4 from rfl, show (5 : Int32) = nI 5 from rfl, m_those g.m g.ok (Or.inl rfl), m_those g.m g.ok (Or.inr rfl), m_windNow g.m g.ok, c_windNow g.c g.ok]
  simp only [bnd_some]
  refine (Option.isSome_iff_exists.mp ?_).imp (fun r e => ⟨e, e⟩)
  repeat' split
  all_goals rfl
theorem eq_many {σM σC : Sg} (h : Rel σM σC) (x : Int32) : ∃ r, f_X12_many x σM = some r ∧ f_X11_many x σC = r := by
  obtain ⟨⟨A, W, g⟩, hk, hr⟩ := id h
  obtain ⟨n1, -, e1, e2⟩ := hr.rn
  obtain ⟨n2, -, e3, e4⟩ := hr.tn
  refine ⟨f_X11_many x σC, ?_, rfl⟩
  unfold f_X12_many f_X11_many
  rw [g.m 0 (by decide) (by decide) (by decide) (by decide), g.m 5 (by decide) (by decide) (by decide) (by decide), show (5 : Int32) = nI 5 from rfl, m_those g.m g.ok (Or.inr rfl), bnd_some, ones_eq (set_lt (ok_sv g.ok)) σM σC, bnd_some, e1, e2, e3, e4, traced_eq hr, g.c.1, g.c.2.2.1, g.d.2.2.2.1, g.n]
  simp only [apply_ite some]
/-- all kites aloft and none served, up to the n-th -/
def anewN (A : Nat → Nat) (n : Nat) : Nat → Nat := fun i => if 35 ≤ i ∧ i < 35 + 6 * n ∧ (i - 35) % 6 = 4 then 1 else if 35 ≤ i ∧ i < 35 + 6 * n ∧ (i - 35) % 6 = 5 then 0 else A i
theorem anew_0 (A : Nat → Nat) : anewN A 0 = A := by
  funext i
  unfold anewN
  rw [if_neg (by omega), if_neg (by omega)]
theorem anew_s (A : Nat → Nat) (n : Nat) : up1 (up1 (anewN A n) (35 + 6 * n + 4) 1) (35 + 6 * n + 5) 0 = anewN A (n + 1) := by
  funext i
  unfold up1 anewN
  by_cases e5 : i = 35 + 6 * n + 5
  · rw [if_pos e5, if_neg (by omega), if_pos (by omega)]
  · rw [if_neg e5]
    by_cases e4 : i = 35 + 6 * n + 4
    · rw [if_pos e4, if_pos (by omega)]
    · rw [if_neg e4]
      by_cases c4 : 35 ≤ i ∧ i < 35 + 6 * n ∧ (i - 35) % 6 = 4
      · rw [if_pos c4, if_pos (by omega)]
      · rw [if_neg c4]
        by_cases c5 : 35 ≤ i ∧ i < 35 + 6 * n ∧ (i - 35) % 6 = 5
        · rw [if_pos c5, if_neg (by omega), if_pos (by omega)]
        · rw [if_neg c5, if_neg (by omega), if_neg (by omega)]
theorem anew_lo {A : Nat → Nat} {n i : Nat} (h : i < 35 ∨ 35 + 6 * n ≤ i ∨ (i - 35) % 6 < 4) : anewN A n i = A i := by
  unfold anewN
  rw [if_neg (by omega), if_neg (by omega)]
theorem anew_4 {A : Nat → Nat} {n k : Nat} (h : k < n) : anewN A n (35 + 6 * k + 4) = 1 := by
  unfold anewN
  rw [if_pos (by omega)]
theorem anew_5 {A : Nat → Nat} {n k : Nat} (h : k < n) : anewN A n (35 + 6 * k + 5) = 0 := by
  unfold anewN
  rw [if_neg (by omega), if_pos (by omega)]
theorem anew_ok {A : Nat → Nat} (ok : okA A) : okA (anewN A (A 0)) := by
  have hm := ok.1.1
  obtain ⟨⟨a0, a2, a2', a3, a5⟩, hwd, hf, hkk, hr, hz⟩ := id ok
  refine ⟨?_, fun g hg => by rw [anew_lo (by omega)]; exact hwd g hg, fun f hf' => by rw [anew_lo (by omega), anew_lo (by omega)]; exact hf f hf', fun j hj => ?_, fun r hr' => by rw [anew_lo (by omega), anew_lo (by omega), anew_lo (by omega), anew_lo (by omega)]; exact hr r hr', fun j h1 h2 => ?_⟩
  · rw [anew_lo (by omega), anew_lo (by omega), anew_lo (by omega), anew_lo (by omega)]; exact ⟨a0, a2, a2', a3, a5⟩
  · obtain ⟨b0, b1, b2, b3, b4, b5⟩ := hkk j hj
    rw [anew_lo (i := 35 + 6 * j + 0) (by omega), anew_lo (i := 35 + 6 * j + 1) (by omega), anew_lo (i := 35 + 6 * j + 2) (by omega), anew_lo (i := 35 + 6 * j + 3) (by omega)]
    refine ⟨b0, b1, b2, b3, ?_, ?_⟩
    · by_cases q : j < A 0
      · rw [anew_4 q]; omega
      · rw [anew_lo (by omega)]; exact b4
    · by_cases q : j < A 0
      · rw [anew_5 q]; omega
      · rw [anew_lo (by omega)]; exact b5
  · rw [anew_lo (by omega)] at h1
    rw [anew_lo (by omega), anew_lo (by omega)]
    exact hz j h1 h2
theorem ones_set {A : Nat → Nat} {w m : Nat} (h : ∀ k, k < m → A (35 + 6 * k + w) = 1) : ∀ n, n ≤ m → setP A w n + 1 = 2 ^ n
  | 0, _ => rfl
  | n + 1, hn => by
    have ih := ones_set h n (by omega)
    show setP A w n + A (35 + 6 * n + w) * 2 ^ n + 1 = 2 ^ (n + 1)
    rw [h n (by omega), Nat.pow_succ]
    omega
theorem nils_set {A : Nat → Nat} {w m : Nat} (h : ∀ k, k < m → A (35 + 6 * k + w) = 0) : ∀ n, n ≤ m → setP A w n = 0
  | 0, _ => rfl
  | n + 1, hn => by
    have ih := nils_set h n (by omega)
    show setP A w n + A (35 + 6 * n + w) * 2 ^ n = 0
    rw [h n (by omega), ih]
    omega
theorem all_nI : ∀ m, m < 7 → shl32 (1 : Int32) (nI m) - 1 = nI (2 ^ m - 1) := by decide +kernel
theorem anew_set4 {A : Nat → Nat} (ok : okA A) : setN (anewN A (A 0)) 4 = 2 ^ A 0 - 1 := by
  have hm := ok.1.1
  have e := ones_set (A := anewN A (A 0)) (w := 4) (m := A 0) (fun k hk => anew_4 hk) (A 0) (Nat.le_refl _)
  have e2 := setP_hi (A := anewN A (A 0)) (w := 4) (m := A 0) (fun k h1 h2 => by rw [anew_lo (by omega)]; exact (ok.2.2.2.2.2 k h1 h2).1) (6 - A 0) (A 0) (Nat.le_refl _) (by omega)
  rw [← setP_6]
  omega
theorem anew_set5 {A : Nat → Nat} (ok : okA A) : setN (anewN A (A 0)) 5 = 0 := by
  have hm := ok.1.1
  have e := nils_set (A := anewN A (A 0)) (w := 5) (m := A 0) (fun k hk => anew_5 hk) (A 0) (Nat.le_refl _)
  have e2 := setP_hi (A := anewN A (A 0)) (w := 5) (m := A 0) (fun k h1 h2 => by rw [anew_lo (by omega)]; exact (ok.2.2.2.2.2 k h1 h2).2) (6 - A 0) (A 0) (Nat.le_refl _) (by omega)
  rw [← setP_6]
  omega
theorem m_anew_l {A : Nat → Nat} (ok : okA A) : ∀ (d k n : Nat) (σ : Sg), k + d = A 0 → d < n → rM σ (anewN A k) → ∃ σ', f_X12_anew_l9 n (nI k) σ = some (nI (A 3), σ') ∧ rM σ' (up1 (anewN A (A 0)) 3 0) ∧ sameM σ σ' ∧ σ' 1 4 = σ 1 4
  | d, k, 0, σ, _, h, _ => absurd h (by omega)
  | d, k, n + 1, σ, hd, hn, hr => by
    have hm := ok.1.1
    show ∃ σ', f_X12_anew_b9 (f_X12_anew_l9 n) (nI k) σ = some (_, σ') ∧ _
    unfold f_X12_anew_b9
    have h0 : σ 1 0 = nI (A 0) := by rw [hr 0 (by decide) (by decide) (by decide) (by decide), anew_lo (by omega)]
    rw [h0]
    cases d with
    | zero =>
      have ek : k = A 0 := by omega
      subst ek
      rw [if_pos (nI_le (by omega) (by omega)), show (3 : Int32) = nI 3 from rfl, m_becomes (by omega), bd2_some, hr 3 (by decide) (by decide) (by decide) (by decide), anew_lo (by omega)]
      exact ⟨_, rfl, rM.up hr, sameM.up (by decide) (by decide) (by decide), upS_nj (by decide)⟩
    | succ d =>
      rw [if_neg (nI_ge (by omega) (by omega))]
      simp only [lit]
      rw [m_at, wr_nI (by omega) (by decide), bnd_some, m_at, wr_nI (by omega) (by decide), bnd_some, nI_add]
      have h2 : rM (upS (upS σ 1 (35 + 6 * k + 4) (nI 1)) 1 (35 + 6 * k + 5) (nI 0)) (anewN A (k + 1)) := by
        rw [← anew_s]
        exact rM.up (rM.up hr)
      obtain ⟨σ', p1, p2, p3, p4⟩ := m_anew_l ok d (k + 1) n _ (by omega) (by omega) h2
      exact ⟨σ', p1, p2, ((sameM.up (by omega) (by omega) (by omega)).tr (sameM.up (by omega) (by omega) (by omega))).tr p3, by rw [p4, upS_nj (by omega), upS_nj (by omega)]⟩
theorem eq_anew {σM σC : Sg} (h : Rel σM σC) : ∃ r σM' σC', f_X12_anew σM = some (r, σM') ∧ f_X11_anew σC = (r, σC') ∧ Rel σM' σC' := by
  obtain ⟨⟨A, W, g⟩, hk, hr⟩ := id h
  have hm := g.ok.1.1
  have m0 : rM (upS σM 1 4 0) (anewN A 0) := fun i a b c d => by rw [upS_nj (by omega), anew_0]; exact g.m i a b c d
  obtain ⟨σ1, p1, p2, p3, p4⟩ := m_anew_l g.ok (A 0) 0 400 (upS σM 1 4 0) (by omega) (by omega) m0
  have p1' : f_X12_anew σM = some (nI (A 3), σ1) := by
    unfold f_X12_anew
    rw [lt_ap]
    exact p1
  have ok1 := anew_ok g.ok
  have okn : okA (up1 (anewN A (A 0)) 3 0) := okA_g ok1 (by decide)
  refine ⟨_, σ1, _, p1', by unfold f_X11_anew; simp only [lt_ap]; rw [g.d.1], ?_⟩
  refine h.set g okn p2 ((sameM.up (i := 4) (by decide) (by decide) (by decide)).tr p3) ?_ ?_ (fun p a b c d => ?_) ?_
  · refine (g.c.A (B := up1 (anewN A (A 0)) 3 0) (fun j hj => ?_)).mono (fun p a b => ?_)
    · rw [up1_ne (by omega), anew_lo (by omega)]
    · rw [upS_ne (by omega), upS_ne (by omega), upS_ne (by omega), upS_ne (by omega)]
  · rw [p4, upS_at]
    refine ⟨?_, ?_, ?_, ?_, fun k hk => ?_⟩
    · rw [upS_nj (by decide), upS_nj (by decide), upS_nj (by decide), upS_at, up1_at]; rfl
    · rw [upS_nj (by decide), upS_nj (by decide), upS_at]
    · rw [upS_nj (by decide), upS_at, set_ne (fun j _ => by omega), anew_set4 g.ok]
      unfold f_X1_allKites
      rw [upS_ne (by decide), upS_ne (by decide), g.c.1]
      exact all_nI _ (by omega)
    · rw [upS_at, set_ne (fun j _ => by omega), anew_set5 g.ok]; rfl
    · rw [upS_ne (by decide), upS_ne (by decide), upS_ne (by decide), upS_ne (by decide), upS_ne (by decide), upS_ne (by decide), upS_ne (by decide), upS_ne (by decide), up1_ne (by omega), up1_ne (by omega), anew_lo (by omega), anew_lo (by omega)]
      exact g.d.2.2.2.2 k hk
  · rw [upS_ne b, upS_ne b, upS_ne b, upS_ne b]
  · rw [upS_ne (by decide), upS_ne (by decide), upS_ne (by decide), upS_ne (by decide)]
