/-! strange kites: where one is behind so many gusts, and which reports are so -/
def stepP (A : Nat → Nat) (kd k : Nat) (q : Nat × Nat) : Nat × Nat := (movedN q.1 (A (7 + k) % 4) (roomN q.1 (A (7 + k) % 4) (min (driftN kd (A (7 + k) / 4) k) q.2)), q.2 - roomN q.1 (A (7 + k) % 4) (min (driftN kd (A (7 + k) / 4) k) q.2))
def posN (A : Nat → Nat) (kd c : Nat) : Nat → Nat × Nat
  | 0 => (c, 9)
  | g + 1 => stepP A kd g (posN A kd c g)
theorem pos_b {A : Nat → Nat} {kd c : Nat} (hc : c < 64) : ∀ g, (posN A kd c g).1 < 64 ∧ (posN A kd c g).2 ≤ 9
  | 0 => ⟨hc, Nat.le_refl _⟩
  | g + 1 => by
    obtain ⟨h1, h2⟩ := pos_b (A := A) (kd := kd) hc g
    have hm := Nat.min_le_right (driftN kd (A (7 + g) / 4) g) (posN A kd c g).2
    refine ⟨moved_lt _ h1 _ (Nat.mod_lt _ (by decide)) _ (by omega), ?_⟩
    show (posN A kd c g).2 - _ ≤ 9
    omega
def plc (A : Nat → Nat) (r c : Nat) : Nat := if A (71 + 4 * r + 1) = 0 then c % 8 else c / 8
def okAt (A : Nat → Nat) (r c : Nat) : Bool := decide (A (71 + 4 * r + 2) ≤ plc A r c ∧ plc A r c ≤ A (71 + 4 * r + 3))
theorem rng_dec {a b c : Nat} (ha : a < 2 ^ 31) (hb : b < 2 ^ 31) (hc : c < 2 ^ 31) : rng (nI a) (nI b) (nI c) = decide (b ≤ a ∧ a ≤ c) := by
  unfold rng
  by_cases h1 : b ≤ a
  · by_cases h2 : a ≤ c
    · rw [decide_eq_true (nI_le h1 ha), decide_eq_true (nI_le h2 hc), decide_eq_true ⟨h1, h2⟩]; rfl
    · rw [decide_eq_true (nI_le h1 ha), decide_eq_false (nI_ge (by omega) ha), show decide (b ≤ a ∧ a ≤ c) = false from decide_eq_false (fun z => h2 z.2)]; rfl
  · rw [decide_eq_false (nI_ge (by omega) hb), show decide (b ≤ a ∧ a ≤ c) = false from decide_eq_false (fun z => h1 z.1)]; rfl
theorem ok_rep {A : Nat → Nat} (ok : okA A) {r : Nat} (hr : r < 6) : A (71 + 4 * r) ≤ 15 ∧ A (71 + 4 * r + 1) ≤ 1 ∧ A (71 + 4 * r + 2) ≤ 7 ∧ A (71 + 4 * r + 3) ≤ 7 := ok.2.2.2.2.1 r hr
theorem m_so_l {σ : Sg} {A : Nat → Nat} (h : rM σ A) (ok : okA A) {kd c r : Nat} (hkd : kd < 6) (hc : c < 64) (hr : r < 6) : ∀ d k n, k + d = A (71 + 4 * r) → d < n → f_X12_isSoBy_l18 (nI kd) (nI (71 + 4 * r)) σ n (nI (posN A kd c k).1) (nI (posN A kd c k).2) (nI k) = some (okAt A r (posN A kd c (A (71 + 4 * r))).1)
  | d, k, 0, _, hn => absurd hn (by omega)
  | d, k, n + 1, hd, hn => by
    obtain ⟨a0, a1, a2, a3⟩ := ok_rep ok hr
    obtain ⟨p1, p2⟩ := pos_b (A := A) (kd := kd) hc k
    show f_X12_isSoBy_b18 (f_X12_isSoBy_l18 (nI kd) (nI (71 + 4 * r)) σ n) (nI kd) (nI (71 + 4 * r)) σ (nI (posN A kd c k).1) (nI (posN A kd c k).2) (nI k) = _
    unfold f_X12_isSoBy_b18
    rw [rd_nI (by omega) (by decide), bnd_some, h _ (by omega) (by omega) (by omega) (by omega)]
    simp only [lit]
    cases d with
    | zero =>
      have ek : k = A (71 + 4 * r) := by omega
      rw [if_pos (nI_le (by omega) (by omega)), nI_add, rd_nI (by omega) (by decide), bnd_some, h _ (by omega) (by omega) (by omega) (by omega)]
      unfold f_X12_isSoBy_b138 rem32
      simp only [lit]
      rw [nI_add, nI_add, rd_nI (by omega) (by decide), rd_nI (by omega) (by decide), h _ (by omega) (by omega) (by omega) (by omega), h _ (by omega) (by omega) (by omega) (by omega)]
      simp only [bnd_some]
      rw [pk_rem (by omega) (by decide) (by decide), pk_div (by omega) (by decide) (by decide), m_in, m_in, rng_dec (by omega) (by omega) (by omega), rng_dec (by omega) (by omega) (by omega), ← ek]
      unfold okAt plc
      by_cases q : A (71 + 4 * r + 1) = 0
      · rw [q, if_neg (show ¬ ¬ nI 0 = nI 0 from fun z => z rfl), if_pos rfl]
      · rw [if_pos (show ¬ nI (A (71 + 4 * r + 1)) = nI 0 from fun z => q ((nI_eq (by omega) (by decide)).mp z)), if_neg q]
    | succ d =>
      have hg : k < 16 := by omega
      have hwd := ok.2.1 k hg
      have hdr := drift_le kd hkd (A (7 + k) / 4) (by omega) k hg
      rw [if_neg (nI_ge (by omega) (by omega)), nI_add, rd_nI (by omega) (by decide), bnd_some, h _ (by omega) (by omega) (by omega) (by omega), lt_ap, bnd_some, lt_ap]
      unfold rem32
      rw [pk_rem (by omega) (by decide) (by decide), pk_div (by omega) (by decide) (by decide), m_drift hkd (by omega) hg]
      unfold f_X12_isSoBy_b82
      have key : ∀ m, m = min (driftN kd (A (7 + k) / 4) k) (posN A kd c k).2 → (lt (f_X12_room (nI (posN A kd c k).1) (nI (A (7 + k) % 4)) (nI m) σ) fun vq10 => lt (f_X12_moved (nI (posN A kd c k).1) (nI (A (7 + k) % 4)) vq10 σ) fun vq11 => lt (nI (posN A kd c k).2 - vq10) fun vq12 => f_X12_isSoBy_l18 (nI kd) (nI (71 + 4 * r)) σ n vq11 vq12 (nI k + nI 1)) = some (okAt A r (posN A kd c (A (71 + 4 * r))).1) := fun m em => by
        have hm := Nat.min_le_right (driftN kd (A (7 + k) / 4) k) (posN A kd c k).2
        have hrm := room_le (posN A kd c k).1 (A (7 + k) % 4) m
        rw [lt_ap, m_room p1 (Nat.mod_lt _ (by decide)) (by omega), lt_ap, m_moved p1 (Nat.mod_lt _ (by decide)) (by omega), lt_ap, pk_sub (by omega), nI_add, em]
        exact m_so_l h ok hkd hc hr d (k + 1) n (by omega) (by omega)
      by_cases q : (posN A kd c k).2 ≤ driftN kd (A (7 + k) / 4) k
      · rw [if_pos (nI_le q (by omega))]
        exact key _ (Nat.min_eq_right q).symm
      · rw [if_neg (nI_ge (by omega) (by omega))]
        exact key _ (Nat.min_eq_left (by omega)).symm
theorem m_isSoBy {σ : Sg} {A : Nat → Nat} (h : rM σ A) (ok : okA A) {kd c r : Nat} (hkd : kd < 6) (hc : c < 64) (hr : r < 6) : f_X12_isSoBy (nI r) (nI kd) (nI c) σ = some (okAt A r (posN A kd c (A (71 + 4 * r))).1) := by
  have a0 := (ok_rep ok hr).1
  unfold f_X12_isSoBy
  simp only [lit]
  rw [pk_mul, nI_add, lt_ap]
  exact m_so_l h ok hkd hc hr (A (71 + 4 * r)) 0 400 (by omega) (by omega)
/-- the reports from r on are so, but for one -/
def fitN (A : Nat → Nat) (kd c : Nat) (but : Int32) : Nat → Nat → Bool
  | 0, _ => true
  | d + 1, r => if nI r = but ∨ okAt A r (posN A kd c (A (71 + 4 * r))).1 = true then fitN A kd c but d (r + 1) else false
theorem fit_t {A : Nat → Nat} {kd c : Nat} {but : Int32} {d r : Nat} (h : nI r = but ∨ okAt A r (posN A kd c (A (71 + 4 * r))).1 = true) : fitN A kd c but (d + 1) r = fitN A kd c but d (r + 1) := if_pos h
theorem fit_f {A : Nat → Nat} {kd c : Nat} {but : Int32} {d r : Nat} (h : ¬ (nI r = but ∨ okAt A r (posN A kd c (A (71 + 4 * r))).1 = true)) : fitN A kd c but (d + 1) r = false := if_neg h
theorem fit_iff {A : Nat → Nat} {kd c : Nat} {but : Int32} : ∀ d r, fitN A kd c but d r = true ↔ ∀ j, r ≤ j → j < r + d → nI j = but ∨ okAt A j (posN A kd c (A (71 + 4 * j))).1 = true
  | 0, r => ⟨fun _ j h1 h2 => absurd h2 (by omega), fun _ => rfl⟩
  | d + 1, r => by
    by_cases q : nI r = but ∨ okAt A r (posN A kd c (A (71 + 4 * r))).1 = true
    · rw [fit_t q, fit_iff d (r + 1)]
      constructor
      · intro h j h1 h2
        by_cases e : j = r
        · subst e; exact q
        · exact h j (by omega) (by omega)
      · intro h j h1 h2
        exact h j (by omega) (by omega)
    · rw [fit_f q]
      exact ⟨fun z => (by cases z), fun h => absurd (h r (Nat.le_refl _) (by omega)) q⟩
theorem m_fit_l {σ : Sg} {A : Nat → Nat} (h : rM σ A) (ok : okA A) {kd c : Nat} (hkd : kd < 6) (hc : c < 64) (but : Int32) : ∀ d r n, r + d = A 5 → d + 1 < n → f_X12_isFit_l6 (nI kd) (nI c) but σ n 1 (nI r) = some (fitN A kd c but d r)
  | d, r, 0, _, hn => absurd hn (by omega)
  | d, r, 1, _, hn => absurd hn (by omega)
  | d, r, n + 2, hd, hn => by
    have h5 := ok.1.2.2.2.2
    have e5 := h 5 (by decide) (by decide) (by decide) (by decide)
    show f_X12_isFit_b6 (f_X12_isFit_l6 (nI kd) (nI c) but σ (n + 1)) (nI kd) (nI c) but σ 1 (nI r) = _
    unfold f_X12_isFit_b6
    rw [e5]
    cases d with
    | zero => rw [if_pos (nI_le (by omega) (by omega)), if_pos rfl]; rfl
    | succ d =>
      have hr : r < 6 := by omega
      rw [if_neg (nI_ge (by omega) (by omega)), if_neg (show ¬ (1 : Int32) = 0 by decide), nI_1]
      by_cases q : nI r = but
      · rw [if_pos q, fit_t (Or.inl q)]
        exact m_fit_l h ok hkd hc but d (r + 1) (n + 1) (by omega) (by omega)
      · rw [if_neg q, m_isSoBy h ok hkd hc hr, bnd_some]
        by_cases q2 : okAt A r (posN A kd c (A (71 + 4 * r))).1 = true
        · rw [if_pos q2, fit_t (Or.inr q2)]
          exact m_fit_l h ok hkd hc but d (r + 1) (n + 1) (by omega) (by omega)
        · rw [if_neg q2, fit_f (fun z => z.elim q q2)]
          show f_X12_isFit_b6 (f_X12_isFit_l6 (nI kd) (nI c) but σ n) (nI kd) (nI c) but σ 0 (nI (r + 1)) = _
          unfold f_X12_isFit_b6
          rw [if_neg (show ¬ (0 : Int32) = 1 by decide), if_pos rfl, if_pos rfl]
          split <;> rfl
def fitB (A : Nat → Nat) (but : Int32) (kd c : Nat) : Bool := fitN A kd c but (A 5) 0
theorem m_isFit {σ : Sg} {A : Nat → Nat} (h : rM σ A) (ok : okA A) {kd c : Nat} (hkd : kd < 6) (hc : c < 64) (but : Int32) : f_X12_isFit (nI kd) (nI c) but σ = some (fitB A but kd c) := by
  have h5 := ok.1.2.2.2.2
  unfold f_X12_isFit
  exact m_fit_l h ok hkd hc but (A 5) 0 400 (by omega) (by omega)
/-! the class -/
def asN (A : Nat → Nat) (but : Int32) (g c : Nat) : Nat → Nat → Bool
  | 0, _ => true
  | d + 1, r => if nI r = but ∨ ¬ A (71 + 4 * r) = g ∨ okAt A r c = true then asN A but g c d (r + 1) else false
theorem as_t {A : Nat → Nat} {but : Int32} {g c d r : Nat} (h : nI r = but ∨ ¬ A (71 + 4 * r) = g ∨ okAt A r c = true) : asN A but g c (d + 1) r = asN A but g c d (r + 1) := if_pos h
theorem as_f {A : Nat → Nat} {but : Int32} {g c d r : Nat} (h : ¬ (nI r = but ∨ ¬ A (71 + 4 * r) = g ∨ okAt A r c = true)) : asN A but g c (d + 1) r = false := if_neg h
theorem as_iff {A : Nat → Nat} {but : Int32} {g c : Nat} : ∀ d r, asN A but g c d r = true ↔ ∀ j, r ≤ j → j < r + d → nI j = but ∨ ¬ A (71 + 4 * j) = g ∨ okAt A j c = true
  | 0, r => ⟨fun _ j h1 h2 => absurd h2 (by omega), fun _ => rfl⟩
  | d + 1, r => by
    by_cases q : nI r = but ∨ ¬ A (71 + 4 * r) = g ∨ okAt A r c = true
    · rw [as_t q, as_iff d (r + 1)]
      constructor
      · intro h j h1 h2
        by_cases e : j = r
        · subst e; exact q
        · exact h j (by omega) (by omega)
      · intro h j h1 h2
        exact h j (by omega) (by omega)
    · rw [as_f q]
      exact ⟨fun z => (by cases z), fun h => absurd (h r (Nat.le_refl _) (by omega)) q⟩
theorem c_and7 : ∀ c, c < 64 → nI c &&& 7 = nI (c % 8) := by decide +kernel
theorem c_shr3 : ∀ c, c < 64 → shr32 (nI c) 3 = nI (c / 8) := by decide +kernel
theorem c_as_l {σ : Sg} {A : Nat → Nat} (hs : rCs σ A) (ok : okA A) {g c : Nat} (hg : g < 16) (hc : c < 64) (but : Int32) : ∀ d r n, r + d = A 5 → d < n → f_X1_isAsReported_l3 (nI g) (nI c) but σ n (nI r) = some (asN A but g c d r)
  | d, r, 0, _, hn => absurd hn (by omega)
  | d, r, n + 1, hd, hn => by
    have h5 := ok.1.2.2.2.2
    show f_X1_isAsReported_b3 (f_X1_isAsReported_l3 (nI g) (nI c) but σ n) (nI g) (nI c) but σ (nI r) = _
    unfold f_X1_isAsReported_b3
    rw [hs.2.2.1]
    cases d with
    | zero => rw [if_pos (nI_le (by omega) (by omega))]; rfl
    | succ d =>
      have hr : r < 6 := by omega
      obtain ⟨a0, a1, a2, a3⟩ := ok_rep ok hr
      obtain ⟨b0, b1, b2, b3⟩ := hs.2.2.2.2.2.2 r hr
      have ih := c_as_l hs ok hg hc but d (r + 1) n (by omega) (by omega)
      rw [if_neg (nI_ge (by omega) (by omega)), nI_1]
      by_cases q : nI r = but
      · rw [if_pos q, as_t (Or.inl q)]
        exact ih
      · rw [if_neg q, rd_nI hr (by decide), bnd_some, b0]
        by_cases q2 : A (71 + 4 * r) = g
        · rw [if_neg (show ¬ ¬ nI (A (71 + 4 * r)) = nI g from fun z => z (by rw [q2])), rd_nI hr (by decide), bnd_some, b1]
          have key : ∀ x, x < 8 → x = plc A r c → f_X1_isAsReported_b49 (f_X1_isAsReported_l3 (nI g) (nI c) but σ n) (nI g) (nI c) but (nI r) (nI x) σ = some (asN A but g c (d + 1) r) := fun x hx ex => by
            unfold f_X1_isAsReported_b49
            rw [rd_nI hr (by decide), bnd_some, b2, rd_nI hr (by decide), bnd_some, b3, c_in, rng_dec (by omega) (by omega) (by omega), nI_1, ih, ex]
            by_cases q3 : okAt A r c = true
            · rw [as_t (Or.inr (Or.inr q3))]
              exact if_pos q3
            · rw [as_f (fun z => z.elim q (fun y => y.elim (fun x => x q2) q3))]
              exact if_neg q3
          by_cases q3 : A (71 + 4 * r + 1) = 0
          · rw [q3, if_neg (show ¬ ¬ nI 0 = (0 : Int32) from fun z => z rfl), c_and7 c hc]
            exact key _ (by omega) (by unfold plc; rw [if_pos q3])
          · rw [if_pos (show ¬ nI (A (71 + 4 * r + 1)) = (0 : Int32) from fun z => q3 ((nI_eq (b := 0) (by omega) (by decide)).mp z)), c_shr3 c hc]
            exact key _ (by omega) (by unfold plc; rw [if_neg q3])
        · rw [if_pos (fun z => q2 ((nI_eq (by omega) (by omega)).mp z)), as_t (Or.inr (Or.inl q2))]
          exact ih
theorem c_as {σ : Sg} {A : Nat → Nat} (hs : rCs σ A) (ok : okA A) {g c : Nat} (hg : g < 16) (hc : c < 64) (but : Int32) : f_X1_isAsReported (nI g) (nI c) but σ = some (asN A but g c (A 5) 0) := by
  have h5 := ok.1.2.2.2.2
  unfold f_X1_isAsReported
  exact c_as_l hs ok hg hc but (A 5) 0 400 (by omega) (by omega)
def allN (A : Nat → Nat) (but : Int32) (kd c : Nat) : Nat → Nat → Bool
  | 0, _ => true
  | d + 1, k => if asN A but k (posN A kd c k).1 (A 5) 0 = true then allN A but kd c d (k + 1) else false
theorem all_t {A : Nat → Nat} {but : Int32} {kd c d k : Nat} (h : asN A but k (posN A kd c k).1 (A 5) 0 = true) : allN A but kd c (d + 1) k = allN A but kd c d (k + 1) := if_pos h
theorem all_f {A : Nat → Nat} {but : Int32} {kd c d k : Nat} (h : ¬ asN A but k (posN A kd c k).1 (A 5) 0 = true) : allN A but kd c (d + 1) k = false := if_neg h
theorem all_iff {A : Nat → Nat} {but : Int32} {kd c : Nat} : ∀ d k, allN A but kd c d k = true ↔ ∀ j, k ≤ j → j < k + d → asN A but j (posN A kd c j).1 (A 5) 0 = true
  | 0, r => ⟨fun _ j h1 h2 => absurd h2 (by omega), fun _ => rfl⟩
  | d + 1, r => by
    by_cases q : asN A but r (posN A kd c r).1 (A 5) 0 = true
    · rw [all_t q, all_iff d (r + 1)]
      constructor
      · intro h j h1 h2
        by_cases e : j = r
        · subst e; exact q
        · exact h j (by omega) (by omega)
      · intro h j h1 h2
        exact h j (by omega) (by omega)
    · rw [all_f q]
      exact ⟨fun z => (by cases z), fun h => absurd (h r (Nat.le_refl _) (by omega)) q⟩
theorem min_nI {a b : Nat} (ha : a < 2 ^ 31) (hb : b < 2 ^ 31) : min32 (nI a) (nI b) = nI (min a b) := by
  unfold min32
  by_cases q : b < a
  · rw [if_pos (nI_lt q ha), Nat.min_eq_right (by omega)]
  · rw [if_neg (nI_nlt (by omega) hb), Nat.min_eq_left (by omega)]
theorem c_fit_l {σ : Sg} {A : Nat → Nat} (hs : rCs σ A) (ok : okA A) {kd c : Nat} (hkd : kd < 6) (hc : c < 64) (but : Int32) : ∀ d k n, k + d = 16 → d < n → f_X1_fits_l10 (nI kd) but σ n (nI (posN A kd c k).1) (nI (posN A kd c k).2) (nI k) = some (allN A but kd c d k)
  | d, k, 0, _, hn => absurd hn (by omega)
  | d, k, n + 1, hd, hn => by
    obtain ⟨p1, p2⟩ := pos_b (A := A) (kd := kd) hc k
    show f_X1_fits_b10 (f_X1_fits_l10 (nI kd) but σ n) (nI kd) but σ (nI (posN A kd c k).1) (nI (posN A kd c k).2) (nI k) = _
    unfold f_X1_fits_b10
    cases d with
    | zero => rw [if_pos (show (16 : Int32) ≤ nI k from nI_le (a := 16) (by omega) (by omega))]; rfl
    | succ d =>
      have hg : k < 16 := by omega
      have hwd := ok.2.1 k hg
      have hdr := drift_le kd hkd (A (7 + k) / 4) (by omega) k hg
      have hm := Nat.min_le_right (driftN kd (A (7 + k) / 4) k) (posN A kd c k).2
      have hrm := room_le (posN A kd c k).1 (A (7 + k) % 4) (min (driftN kd (A (7 + k) / 4) k) (posN A kd c k).2)
      rw [if_neg (show ¬ (16 : Int32) ≤ nI k from nI_ge (b := 16) (by omega) (by decide)), c_as hs ok hg p1, bnd_some]
      by_cases q : asN A but k (posN A kd c k).1 (A 5) 0 = true
      · rw [if_pos q, rd_nI hg (by decide), bnd_some, hs.2.2.2.2.1 k hg, lt_ap, if_neg (show ¬ (nI kd < 0 ∨ 6 ≤ (nI kd).toNatClampNeg) from nI_in hkd (by decide)), bnd_some, nI_clamp (by omega)]
        simp only [lit]
        unfold rem32
        rw [pk_rem (by omega) (by decide) (by decide), pk_div (by omega) (by decide) (by decide), c_drift hkd (by omega) hg, lt_ap, min_nI (by omega) (by omega), c_room p1 (Nat.mod_lt _ (by decide)) (by omega), lt_ap, c_moved p1 (Nat.mod_lt _ (by decide)) (by omega), lt_ap, pk_sub (by omega), lt_ap, nI_add, all_t q]
        exact c_fit_l hs ok hkd hc but d (k + 1) n (by omega) (by omega)
      · rw [if_neg q, all_f q]
theorem c_fits {σ : Sg} {A : Nat → Nat} (hs : rCs σ A) (ok : okA A) {kd c : Nat} (hkd : kd < 6) (hc : c < 64) (but : Int32) : f_X1_fits (nI kd) (nI c) but σ = some (fitB A but kd c) := by
  have h5 := ok.1.2.2.2.2
  have e : f_X1_fits (nI kd) (nI c) but σ = some (allN A but kd c 16 0) := c_fit_l hs ok hkd hc but 16 0 400 (by omega) (by omega)
  rw [e]
  refine congrArg some (Bool.eq_iff_iff.mpr ?_)
  unfold fitB
  rw [all_iff, fit_iff]
  constructor
  · intro h j h1 h2
    have a0 := (ok_rep ok (r := j) (by omega)).1
    have := (as_iff (A 5) 0).mp (h (A (71 + 4 * j)) (by omega) (by omega)) j h1 h2
    rcases this with q | q | q
    · exact Or.inl q
    · exact absurd rfl q
    · exact Or.inr q
  · intro h g g1 g2
    refine (as_iff (A 5) 0).mpr (fun j h1 h2 => ?_)
    rcases h j h1 h2 with q | q
    · exact Or.inl q
    · by_cases e : A (71 + 4 * j) = g
      · rw [← e]; exact Or.inr (Or.inr q)
      · exact Or.inr (Or.inl e)
theorem fit_but {A : Nat → Nat} (ok : okA A) (kd c : Nat) : fitB A (-1) kd c = fitB A (-3) kd c := by
  have h5 := ok.1.2.2.2.2
  have n3 : ∀ j, j < 6 → ¬ nI j = (-3 : Int32) := by decide +kernel
  refine Bool.eq_iff_iff.mpr ?_
  unfold fitB
  rw [fit_iff, fit_iff]
  constructor
  · intro h j h1 h2
    exact Or.inr ((h j h1 h2).resolve_left (ne_m1 (by omega)))
  · intro h j h1 h2
    exact Or.inr ((h j h1 h2).resolve_left (n3 j (by omega)))
