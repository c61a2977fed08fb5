theorem up1_le {A : Nat → Nat} {i v j b : Nat} (h : A j ≤ b) (g : j = i → v ≤ b) : up1 A i v j ≤ b := by
  unfold up1
  split
  · rename_i e; exact g e
  · exact h
theorem okA_kw {A : Nat → Nat} (ok : okA A) {k w x : Nat} (hk : k < 6) (h : (w = 0 ∧ x ≤ 5) ∨ (w = 1 ∧ x ≤ 63) ∨ (w = 2 ∧ x ≤ 9) ∨ (w = 3 ∧ x ≤ 5)) : okA (up1 A (35 + 6 * k + w) x) := by
  obtain ⟨⟨a0, a2, a2', a3, a5⟩, hwd, hf, hkk, hr, hz⟩ := id ok
  have e : ∀ j, j < 35 ∨ 71 ≤ j → up1 A (35 + 6 * k + w) x j = A j := fun j hj => up1_ne (by omega)
  refine ⟨?_, fun g hg => by rw [e _ (by omega)]; exact hwd g hg, fun f hf' => by rw [e _ (by omega), e _ (by omega)]; exact hf f hf', fun j hj => ?_, fun r hr' => ?_, fun j h1 h2 => ?_⟩
  · rw [e _ (by omega), e _ (by omega), e _ (by omega), e _ (by omega)]; exact ⟨a0, a2, a2', a3, a5⟩
  · obtain ⟨b0, b1, b2, b3, b4, b5⟩ := hkk j hj
    exact ⟨up1_le b0 (fun _ => by omega), up1_le b1 (fun _ => by omega), up1_le b2 (fun _ => by omega), up1_le b3 (fun _ => by omega), up1_le b4 (fun _ => by omega), up1_le b5 (fun _ => by omega)⟩
  · rw [e _ (by omega), e _ (by omega), e _ (by omega), e _ (by omega)]; exact hr r hr'
  · rw [e 0 (by omega)] at h1
    rw [up1_ne (by omega), up1_ne (by omega)]
    exact hz j h1 h2
theorem rCd.kw {σ : Sg} {n : Nat} {A : Nat → Nat} {sc : Int32} (h : rCd σ n A sc) {k w x : Nat} (hw : w = 0 ∨ w = 3) : rCd σ n (up1 A (35 + 6 * k + w) x) sc := by
  obtain ⟨h0, h1, h2, h3, h4⟩ := h
  refine ⟨by rw [up1_ne (by omega)]; exact h0, h1, by rw [set_ne (fun j _ => by omega)]; exact h2, by rw [set_ne (fun j _ => by omega)]; exact h3, fun j hj => ?_⟩
  rw [up1_ne (by omega), up1_ne (by omega)]
  exact h4 j hj
theorem rCd.str {σ : Sg} {n : Nat} {A : Nat → Nat} {sc : Int32} (h : rCd σ n A sc) {k x : Nat} (hk : k < 6) : rCd (upS σ (n + 2) k (nI x)) n (up1 A (35 + 6 * k + 2) x) sc := by
  obtain ⟨h0, h1, h2, h3, h4⟩ := h
  refine ⟨by rw [upS_ne (by omega), up1_ne (by omega)]; exact h0, by rw [upS_ne (by omega)]; exact h1, by rw [upS_ne (by omega), set_ne (fun j _ => by omega)]; exact h2, by rw [upS_ne (by omega), set_ne (fun j _ => by omega)]; exact h3, fun j hj => ⟨?_, ?_⟩⟩
  · rw [upS_ne (by omega), up1_ne (by omega)]; exact (h4 j hj).1
  · rw [upS_ap]
    by_cases e : j = k
    · subst e; rw [if_pos ⟨rfl, rfl⟩, up1_at]
    · rw [if_neg (fun z => e z.2), up1_ne (by omega)]; exact (h4 j hj).2
theorem rCd.loc {σ : Sg} {n : Nat} {A : Nat → Nat} {sc : Int32} (h : rCd σ n A sc) {k x : Nat} (hk : k < 6) : rCd (upS σ (n + 1) k (nI x)) n (up1 A (35 + 6 * k + 1) x) sc := by
  obtain ⟨h0, h1, h2, h3, h4⟩ := h
  refine ⟨by rw [upS_ne (by omega), up1_ne (by omega)]; exact h0, by rw [upS_ne (by omega)]; exact h1, by rw [upS_ne (by omega), set_ne (fun j _ => by omega)]; exact h2, by rw [upS_ne (by omega), set_ne (fun j _ => by omega)]; exact h3, fun j hj => ⟨?_, ?_⟩⟩
  · rw [upS_ap]
    by_cases e : j = k
    · subst e; rw [if_pos ⟨rfl, rfl⟩, up1_at]
    · rw [if_neg (fun z => e z.2), up1_ne (by omega)]; exact (h4 j hj).1
  · rw [upS_ne (by omega), up1_ne (by omega)]; exact (h4 j hj).2
theorem rCs.nm {σ : Sg} {A : Nat → Nat} (h : rCs σ A) {k x : Nat} (hk : k < 6) : rCs (upS σ 26 k (nI x)) (up1 A (35 + 6 * k + 3) x) := by
  obtain ⟨h1, h2, h3, h4, h5, h6, h7⟩ := h
  refine ⟨by rw [upS_ne (by omega), up1_ne (by omega)]; exact h1, by rw [upS_ne (by omega), up1_ne (by omega)]; exact h2, by rw [upS_ne (by omega), up1_ne (by omega)]; exact h3, fun j hj => ⟨?_, ?_⟩, fun g hg => by rw [upS_ne (by omega), up1_ne (by omega)]; exact h5 g hg, fun f hf => by rw [upS_ne (by omega), upS_ne (by omega), up1_ne (by omega), up1_ne (by omega)]; exact h6 f hf, fun r hr => by rw [upS_ne (by omega), upS_ne (by omega), upS_ne (by omega), upS_ne (by omega), up1_ne (by omega), up1_ne (by omega), up1_ne (by omega), up1_ne (by omega)]; exact h7 r hr⟩
  · rw [upS_ne (by omega), up1_ne (by omega)]; exact (h4 j hj).1
  · rw [upS_ap]
    by_cases e : j = k
    · subst e; rw [if_pos ⟨rfl, rfl⟩, up1_at]
    · rw [if_neg (fun z => e z.2), up1_ne (by omega)]; exact (h4 j hj).2
theorem rCs.so {σ : Sg} {A : Nat → Nat} (h : rCs σ A) {k x : Nat} (hk : k < 6) : rCs (upS σ 25 k (nI x)) (up1 A (35 + 6 * k + 0) x) := by
  obtain ⟨h1, h2, h3, h4, h5, h6, h7⟩ := h
  refine ⟨by rw [upS_ne (by omega), up1_ne (by omega)]; exact h1, by rw [upS_ne (by omega), up1_ne (by omega)]; exact h2, by rw [upS_ne (by omega), up1_ne (by omega)]; exact h3, fun j hj => ⟨?_, ?_⟩, fun g hg => by rw [upS_ne (by omega), up1_ne (by omega)]; exact h5 g hg, fun f hf => by rw [upS_ne (by omega), upS_ne (by omega), up1_ne (by omega), up1_ne (by omega)]; exact h6 f hf, fun r hr => by rw [upS_ne (by omega), upS_ne (by omega), upS_ne (by omega), upS_ne (by omega), up1_ne (by omega), up1_ne (by omega), up1_ne (by omega), up1_ne (by omega)]; exact h7 r hr⟩
  · rw [upS_ap]
    by_cases e : j = k
    · subst e; rw [if_pos ⟨rfl, rfl⟩, up1_at]
    · rw [if_neg (fun z => e z.2), up1_ne (by omega)]; exact (h4 j hj).1
  · rw [upS_ne (by omega), up1_ne (by omega)]; exact (h4 j hj).2
/-- the first of the best -/
def mostL (f : Nat → Nat) : Nat → Nat → Int32 → Int32 → Int32
  | 0, _, b, _ => b
  | d + 1, x, b, m => if nI (f x) ≤ m then mostL f d (x + 1) b m else mostL f d (x + 1) (nI x) (nI (f x))
theorem m_most_l {W : WT} (hw : okW W) {σ0 : Sg} {A : Nat → Nat} (hr : rM σ0 A) (hW : rulM σ0 W) {w hi : Nat} (w1 : 35 ≤ w) (w2 : w < 71) (hh : hi < 50) (hok : ∀ x, x ≤ hi → okA (up1 A w x)) :
    ∀ (d x n : Nat) (b m : Int32) (σ : Sg), x + d = hi + 1 → d < n → (∀ i, i < 319 → i ≠ w → σ 1 i = σ0 1 i) → oM σ0 σ → ∃ σ', f_X12_mostFor_l16 (nI w) (nI hi) (σ0 1 w) n b m (nI x) σ = some (mostL (fun x => (restN W 16 (up1 A w x)).1) d x b m, σ') ∧ eqQ σ0 σ'
  | d, x, 0, b, m, σ, _, h, _, _ => absurd h (by omega)
  | d, x, n + 1, b, m, σ, hd, hn, he, ho => by
    show ∃ σ', f_X12_mostFor_b16 (f_X12_mostFor_l16 (nI w) (nI hi) (σ0 1 w) n) (nI w) (nI hi) (σ0 1 w) b m (nI x) σ = some (_, σ') ∧ _
    unfold f_X12_mostFor_b16
    cases d with
    | zero =>
      rw [if_pos (nI_lt (by omega) (by omega)), wr_nI (by omega) (by decide), bnd_some]
      refine ⟨_, rfl, fun i hi => ?_, ho.tr oM.up⟩
      by_cases e : i = w
      · subst e; rw [upS_at]
      · rw [upS_nj (by omega)]; exact he i hi e
    | succ d =>
      rw [if_neg (nI_nlt (by omega) (by omega)), wr_nI (by omega) (by decide), bnd_some]
      have h3 : rM (upS σ 1 w (nI x)) (up1 A w x) := fun i a b c d => by
        by_cases e : i = w
        · subst e; rw [upS_at, up1_at]
        · rw [upS_nj (by omega), up1_ne e, he i (by omega) e]; exact hr i a b c d
      have hW3 : rulM (upS σ 1 w (nI x)) W := hW.eq (fun i hi hl => by rw [upS_nj (by omega), he i hl (by omega)])
      obtain ⟨σ2, p1, p2⟩ := m_restTried h3 (hok x (by omega)) hw hW3 (n := 16) (by decide)
      have p1' : f_X12_restTried 16 (upS σ 1 w (nI x)) = some (nI (restN W 16 (up1 A w x)).1, σ2) := p1
      rw [p1', bd2_some]
      have he2 : ∀ i, i < 319 → i ≠ w → σ2 1 i = σ0 1 i := fun i hi e => by rw [p2.1 i hi, upS_nj (by omega)]; exact he i hi e
      have ho2 : oM σ0 σ2 := ho.tr (oM.up.tr p2.2)
      unfold f_X12_mostFor_b52
      rw [nI_1]
      unfold mostL
      by_cases q : nI (restN W 16 (up1 A w x)).1 ≤ m
      · rw [if_pos q, if_pos q, if_pos q]
        exact m_most_l hw hr hW w1 w2 hh hok d (x + 1) n b m σ2 (by omega) (by omega) he2 ho2
      · rw [if_neg q, if_neg q, if_neg q]
        exact m_most_l hw hr hW w1 w2 hh hok d (x + 1) n _ _ σ2 (by omega) (by omega) he2 ho2
theorem m_mostFor {W : WT} (hw : okW W) {σ : Sg} {A : Nat → Nat} (hr : rM σ A) (hW : rulM σ W) {w hi : Nat} (w1 : 35 ≤ w) (w2 : w < 71) (hh : hi < 50) (hok : ∀ x, x ≤ hi → okA (up1 A w x)) :
    ∃ σ', f_X12_mostFor (nI w) (nI hi) σ = some (mostL (fun x => (restN W 16 (up1 A w x)).1) (hi + 1) 0 0 (-1), σ') ∧ eqQ σ σ' := by
  unfold f_X12_mostFor
  rw [rd_nI (by omega) (by decide), bnd_some]
  exact m_most_l hw hr hW w1 w2 hh hok (hi + 1) 0 400 0 (-1) σ (by omega) (by omega) (fun _ _ _ => rfl) (oM.rf σ)
theorem c_string_l {W : WT} (hw : okW W) {A : Nat → Nat} (ok : okA A) {sc : Int32} {k : Nat} (hk : k < 6) : ∀ (d x n : Nat) (b m : Int32) (σ : Sg), x + d = 10 → d < n → rCs σ A → rCd σ 41 A sc → rulC σ W → ∃ σ', f_X11_stringFor_l17 (nI k) n m b (nI x) σ = some (mostL (fun x => (restN W 16 (up1 A (35 + 6 * k + 2) x)).1) d x b m, σ') ∧ fC 64 σ σ'
  | d, x, 0, b, m, σ, _, h, _, _, _ => absurd h (by omega)
  | d, x, n + 1, b, m, σ, hd, hn, hs, hr, hW => by
    show ∃ σ', f_X11_stringFor_b17 (f_X11_stringFor_l17 (nI k) n) (nI k) m b (nI x) σ = some (_, σ') ∧ _
    unfold f_X11_stringFor_b17
    cases d with
    | zero =>
      rw [if_pos (show (9 : Int32) < nI x from nI_lt (a := 9) (b := x) (by omega) (by omega))]
      exact ⟨σ, rfl, fC.rf _ σ⟩
    | succ d =>
      rw [if_neg (show ¬ (9 : Int32) < nI x from nI_nlt (b := x) (a := 9) (by omega) (by omega)), lt_ap, wr_nI hk (by decide), bnd_some]
      obtain ⟨t1, t2, t3, t4⟩ := c_trial hs hr hW
      have f2 : fC 64 σ (upS (f_X10_copy 64 41 σ) 66 k (nI x)) := t4.tr (fun p a b c d => upS_ne c)
      have okx := okA_kw ok (w := 2) (x := x) hk (by omega)
      obtain ⟨σ2, p1, p2⟩ := c_rest hw (σ := upS (f_X10_copy 64 41 σ) 66 k (nI x)) (A := up1 A (35 + 6 * k + 2) x) (sc := sc) ((f2.s sky64 hs).A (fun j hj => up1_ne (by omega))) (t2.str hk) okx (f2.r sky64 hW) (n := 16) (by decide)
      have p1' : f_X11_worthOnTrial 16 (upS (f_X10_copy 64 41 σ) 66 k (nI x)) = some (nI (restN W 16 (up1 A (35 + 6 * k + 2) x)).1, σ2) := p1
      rw [p1', bd2_some, nI_1]
      have f3 := f2.tr p2
      unfold mostL
      have next : ∀ b' m', ∃ σ', f_X11_stringFor_l17 (nI k) n m' b' (nI (x + 1)) σ2 = some (mostL (fun x => (restN W 16 (up1 A (35 + 6 * k + 2) x)).1) d (x + 1) b' m', σ') ∧ fC 64 σ σ' := fun b' m' => by
        obtain ⟨σ', r1, r2⟩ := c_string_l hw ok hk d (x + 1) n b' m' σ2 (by omega) (by omega) (f3.s sky64 hs) (hr.mono (f3 41 (by decide) (by decide) (by decide) (by decide)) (f3 42 (by decide) (by decide) (by decide) (by decide)) (f3 43 (by decide) (by decide) (by decide) (by decide))) (f3.r sky64 hW)
        exact ⟨σ', r1, f3.tr r2⟩
      by_cases q : nI (restN W 16 (up1 A (35 + 6 * k + 2) x)).1 ≤ m
      · rw [if_pos q, if_pos q]
        exact next b m
      · rw [if_neg q, if_neg q]
        exact next _ _
theorem eq_stringFor {σM σC : Sg} (h : Rel σM σC) (x : Int32) : ∃ r σM' σC', f_X12_stringFor x σM = some (r, σM') ∧ f_X11_stringFor x σC = some (r, σC') ∧ Rel σM' σC' := by
  obtain ⟨⟨A, W, g⟩, hk, hr⟩ := id h
  have hm := g.ok.1.1
  unfold f_X12_stringFor f_X11_stringFor
  rw [m_isKite g.m, c_isKite g.c]
  by_cases q : rng x (nI 0) (nI (A 0) - nI 1) = true
  · rw [if_pos q, if_pos q]
    obtain ⟨k, hk0, rfl⟩ := (kite_iff (by omega)).mp q
    have hk6 : k < 6 := by omega
    obtain ⟨σ1, p1, p2⟩ := m_mostFor g.okw g.m g.rm (w := 35 + 6 * k + 2) (hi := 9) (by omega) (by omega) (by omega) (fun x hx => okA_kw g.ok hk6 (by omega))
    obtain ⟨σ2, q1, q2⟩ := c_string_l g.okw g.ok hk6 10 0 400 0 (-1) σC (by omega) (by omega) g.c g.d g.rc
    have p1' : f_X12_mostFor (f_X12_at (nI k) 2 σM) 9 σM = some (mostL (fun x => (restN W 16 (up1 A (35 + 6 * k + 2) x)).1) (9 + 1) 0 0 (-1), σ1) := by
      rw [show (2 : Int32) = nI 2 from rfl, m_at]; exact p1
    rw [p1', bd2_some]
    exact ⟨_, σ1, σ2, rfl, q1, h.fr p2 q2.k⟩
  · rw [if_neg q, if_neg q]
    exact ⟨_, σM, σC, rfl, rfl, h⟩
/-- only the trial sky, the facts and one name have changed -/
def nmC (k : Nat) (σ σ' : Sg) : Prop := ∀ p, p ≠ 64 → p ≠ 65 → p ≠ 66 → p ≠ 40 → ∀ i, ¬ (p = 26 ∧ i = k) → σ' p i = σ p i
theorem c_name_l {W : WT} (hw : okW W) {A : Nat → Nat} (ok : okA A) {sc : Int32} {k : Nat} (hk : k < 6) {σ0 : Sg} (hs : rCs σ0 A) (hr : rCd σ0 41 A sc) (hW : rulC σ0 W) : ∀ (d x n : Nat) (b m : Int32) (σ : Sg), x + d = 6 → d < n → nmC k σ0 σ → ∃ σ', f_X11_nameFor_l28 (nI k) (σ0 26 k) n m b (nI x) σ = some (mostL (fun x => (restN W 16 (up1 A (35 + 6 * k + 3) x)).1) d x b m, σ') ∧ fC 64 σ0 σ'
  | d, x, 0, b, m, σ, _, h, _ => absurd h (by omega)
  | d, x, n + 1, b, m, σ, hd, hn, he => by
    show ∃ σ', f_X11_nameFor_b28 (f_X11_nameFor_l28 (nI k) (σ0 26 k) n) (nI k) (σ0 26 k) m b (nI x) σ = some (_, σ') ∧ _
    unfold f_X11_nameFor_b28
    cases d with
    | zero =>
      rw [if_pos (show (6 : Int32) ≤ nI x from nI_le (a := 6) (b := x) (by omega) (by omega)), wr_nI hk (by decide), bnd_some]
      refine ⟨_, rfl, fun p a b c d => ?_⟩
      funext i
      by_cases e : p = 26 ∧ i = k
      · obtain ⟨rfl, rfl⟩ := e; rw [upS_at]
      · rw [upS_nj e]; exact he p a b c d i e
    | succ d =>
      rw [if_neg (show ¬ (6 : Int32) ≤ nI x from nI_ge (b := 6) (a := x) (by omega) (by omega)), wr_nI hk (by decide), bnd_some]
      have e0 : ∀ p, p ≠ 64 → p ≠ 65 → p ≠ 66 → p ≠ 40 → upS σ 26 k (nI x) p = upS σ0 26 k (nI x) p := fun p a b c d => by
        funext i
        rw [upS_ap, upS_ap]
        by_cases e : p = 26 ∧ i = k
        · rw [if_pos e, if_pos e]
        · rw [if_neg e, if_neg e]; exact he p a b c d i e
      have s3 : rCs (upS σ 26 k (nI x)) (up1 A (35 + 6 * k + 3) x) := (hs.nm hk).mono (fun p a b => e0 p (by omega) (by omega) (by omega) (by omega))
      have d3 : rCd (upS σ 26 k (nI x)) 41 (up1 A (35 + 6 * k + 3) x) sc := (hr.kw (k := k) (w := 3) (x := x) (by omega)).mono ((e0 41 (by omega) (by omega) (by omega) (by omega)).trans (upS_ne (by decide))) ((e0 42 (by omega) (by omega) (by omega) (by omega)).trans (upS_ne (by decide))) ((e0 43 (by omega) (by omega) (by omega) (by omega)).trans (upS_ne (by decide)))
      have w3 : rulC (upS σ 26 k (nI x)) W := hW.mono (fun p a b => (e0 p (by omega) (by omega) (by omega) (by omega)).trans (upS_ne (by omega)))
      have okx := okA_kw ok (w := 3) (x := x) hk (by omega)
      obtain ⟨σ2, p1, p2⟩ := c_worthOfRest hw s3 d3 okx w3 (n := 16) (by decide)
      have p1' : f_X11_worthOfRest 16 (upS σ 26 k (nI x)) = some (nI (restN W 16 (up1 A (35 + 6 * k + 3) x)).1, σ2) := p1
      rw [p1', bd2_some, nI_1]
      have he2 : nmC k σ0 σ2 := fun p a b c d i e => by rw [p2 p a b c d, upS_nj e]; exact he p a b c d i e
      unfold mostL
      by_cases q : nI (restN W 16 (up1 A (35 + 6 * k + 3) x)).1 ≤ m
      · rw [if_pos q, if_pos q]
        exact c_name_l hw ok hk hs hr hW d (x + 1) n b m σ2 (by omega) (by omega) he2
      · rw [if_neg q, if_neg q]
        exact c_name_l hw ok hk hs hr hW d (x + 1) n _ _ σ2 (by omega) (by omega) he2
theorem eq_nameFor {σM σC : Sg} (h : Rel σM σC) (x : Int32) : ∃ r σM' σC', f_X12_nameFor x σM = some (r, σM') ∧ f_X11_nameFor x σC = some (r, σC') ∧ Rel σM' σC' := by
  obtain ⟨⟨A, W, g⟩, hk, hr⟩ := id h
  have hm := g.ok.1.1
  unfold f_X12_nameFor f_X11_nameFor
  rw [m_isKite g.m, c_isKite g.c]
  by_cases q : rng x (nI 0) (nI (A 0) - nI 1) = true
  · rw [if_pos q, if_pos q]
    obtain ⟨k, hk0, rfl⟩ := (kite_iff (by omega)).mp q
    have hk6 : k < 6 := by omega
    obtain ⟨σ1, p1, p2⟩ := m_mostFor g.okw g.m g.rm (w := 35 + 6 * k + 3) (hi := 5) (by omega) (by omega) (by omega) (fun x hx => okA_kw g.ok hk6 (by omega))
    obtain ⟨σ2, q1, q2⟩ := c_name_l g.okw g.ok hk6 g.c g.d g.rc 6 0 400 0 (-1) σC (by omega) (by omega) (fun _ _ _ _ _ _ _ => rfl)
    have p1' : f_X12_mostFor (f_X12_at (nI k) 3 σM) 5 σM = some (mostL (fun x => (restN W 16 (up1 A (35 + 6 * k + 3) x)).1) (5 + 1) 0 0 (-1), σ1) := by
      rw [show (3 : Int32) = nI 3 from rfl, m_at]; exact p1
    rw [p1', bd2_some, rd_nI hk6 (by decide), bnd_some]
    exact ⟨_, σ1, σ2, rfl, q1, h.fr p2 q2.k⟩
  · rw [if_neg q, if_neg q]
    exact ⟨_, σM, σC, rfl, rfl, h⟩
