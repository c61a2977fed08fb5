/-! gust, on, when, stringFor, nameFor, over: both sides answer the same -/
theorem eq_gust {σM σC : Sg} (h : Rel σM σC) : ∃ r σM' σC', f_X12_gust σM = some (r, σM') ∧ f_X11_gust σC = some (r, σC') ∧ Rel σM' σC' := by
  obtain ⟨⟨A, W, g⟩, hk, hr⟩ := id h
  unfold f_X12_gust f_X11_gust
  rw [m_over g.m g.ok, c_over g.c g.d g.ok]
  by_cases q : A 2 ≤ A 3
  · rw [if_pos (decide_eq_true q), if_pos (decide_eq_true q)]
    exact ⟨_, σM, σC, rfl, rfl, h⟩
  · have h16 := g.ok.1.2.2.1
    obtain ⟨σ1, p1, p2, p3, p4, p5⟩ := m_goesR g.m g.ok (by omega) g.okw g.rm
    obtain ⟨σ2, q1, q2, q3, q4⟩ := c_goRest sky41 g.c g.d g.ok (by omega) g.okw g.rc
    rw [if_neg (fun z => q (of_decide_eq_true z)), if_neg (fun z => q (of_decide_eq_true z)), p1, bd2_some, q1, bd2_some]
    refine ⟨_, σ1, σ2, rfl, rfl, ⟨⟨(restA W A).2, W, ⟨p3, g.okw, p2, q3, by rw [p5]; exact q2, g.rm.mono p4, q4.r sky41 g.rc, ?_, ?_⟩⟩, hk.go p4.o q4.o, hr.go p4.o q4.o⟩⟩
    · rw [p4.2 6 (by omega), q4 24 (by decide) (by decide) (by decide) (by decide)]; exact g.z
    · rw [p4.2 1 (by omega), q4 34 (by decide) (by decide) (by decide) (by decide)]; exact g.n
theorem eq_on {σM σC : Sg} (h : Rel σM σC) (x : Int32) : ∃ r σM' σC', f_X12_on x σM = some (r, σM') ∧ f_X11_on x σC = some (r, σC') ∧ Rel σM' σC' := by
  obtain ⟨⟨A, W, g⟩, hk, hr⟩ := id h
  unfold f_X12_on f_X11_on
  rw [m_inN 0 16 0 16 rfl rfl, c_in, show (0 : Int32) = nI 0 from rfl, show (16 : Int32) = nI 16 from rfl]
  by_cases q : rng x (nI 0) (nI 16) = true
  · rw [if_pos q, if_pos q]
    obtain ⟨n, -, hn, rfl⟩ := (rng_nI (by decide) (by decide)).mp q
    obtain ⟨σ1, p1, p2⟩ := m_restTried g.m g.ok g.okw g.rm (n := n) (by omega)
    obtain ⟨σ2, q1, q2⟩ := c_worthOfRest g.okw g.c g.d g.ok g.rc (n := n) (by omega)
    rw [p1, bd2_some, q1, bd2_some]
    exact ⟨_, σ1, σ2, rfl, rfl, h.fr p2 q2.k⟩
  · rw [if_neg q, if_neg q]
    exact ⟨_, σM, σC, rfl, rfl, h⟩
/-- the gust in which kite k comes down, of so many at most -/
def whenN (W : WT) (k : Nat) : Nat → (Nat → Nat) → Option Nat
  | 0, _ => none
  | n + 1, A => if A 2 ≤ A 3 then none else if (restA W A).2 (35 + 6 * k + 4) = 1 then whenN W k n (restA W A).2 else some (A 3)
def ansW : Option Nat → Int32
  | none => -3
  | some g => nI g
theorem when_o {W : WT} {k n : Nat} {A : Nat → Nat} (h : A 2 ≤ A 3) : whenN W k (n + 1) A = none := if_pos h
theorem when_s {W : WT} {k n : Nat} {A : Nat → Nat} (h : ¬ A 2 ≤ A 3) (h2 : (restA W A).2 (35 + 6 * k + 4) = 1) : whenN W k (n + 1) A = whenN W k n (restA W A).2 := (if_neg h).trans (if_pos h2)
theorem when_d {W : WT} {k n : Nat} {A : Nat → Nat} (h : ¬ A 2 ≤ A 3) (h2 : ¬ (restA W A).2 (35 + 6 * k + 4) = 1) : whenN W k (n + 1) A = some (A 3) := (if_neg h).trans (if_neg h2)
theorem rest_3 (W : WT) (A : Nat → Nat) : (restA W A).2 3 = A 3 + 1 := goes_3 W A _
theorem rest_ne {W : WT} {A : Nat → Nat} (ok : okA A) {j : Nat} (h : (j < 35 ∧ j ≠ 3) ∨ 71 ≤ j ∨ (35 ≤ j ∧ ((j - 35) % 6 = 0 ∨ (j - 35) % 6 = 3))) : (restA W A).2 j = A j := goes_ne ok (chosen_b ok) h
theorem m_when_l {W : WT} (hw : okW W) {k : Nat} (hk : k < 6) : ∀ (d n : Nat) (σ : Sg) (A : Nat → Nat), A 2 ≤ A 3 + d → d + 1 < n → rM σ A → okA A → rulM σ W → A (35 + 6 * k + 4) = 1 → ∃ σ1 σ', f_X12_when_l26 (nI k) n σ = some (ansW (whenN W k d A), σ') ∧ sameM σ σ1 ∧ (∀ i, i < 319 → σ' 1 i = σ1 3 i) ∧ (∀ p, p ≠ 1 → σ' p = σ1 p)
  | d, 0, σ, A, _, h, _, _, _, _ => absurd h (by omega)
  | d, n + 1, σ, A, hd, hn, hr, ok, hW, ha => by
    show ∃ σ1 σ', f_X12_when_b26 (f_X12_when_l26 (nI k) n) (nI k) σ = some (_, σ') ∧ _
    unfold f_X12_when_b26
    rw [m_over hr ok]
    by_cases q : A 2 ≤ A 3
    · rw [if_pos (decide_eq_true q)]
      unfold f_X12_when_b52
      simp only [lit]
      obtain ⟨σ', b1, b2, b3⟩ := m_back σ
      rw [m_its hr hk (by decide), bnd_some, ha, if_pos (by decide), b1, bnd_some]
      have e : whenN W k d A = none := by
        cases d with
        | zero => rfl
        | succ d => exact when_o q
      rw [e]
      exact ⟨σ, σ', rfl, sameM.rf σ, b2, b3⟩
    · have h16 := ok.1.2.2.1
      cases d with
      | zero => exact absurd hd (by omega)
      | succ d =>
        obtain ⟨σ1, p1, p2, p3, p4, -⟩ := m_goesR hr ok (by omega) hw hW
        rw [if_neg (fun z => q (of_decide_eq_true z))]
        simp only [lit]
        rw [m_its hr hk (by decide), bnd_some, ha, if_neg (by decide)]
        have p1' : f_X12_goes (-nI 1) σ = some (nI (restA W A).1, σ1) := p1
        rw [p1', bd2_some]
        by_cases h2 : (restA W A).2 (35 + 6 * k + 4) = 1
        · rw [when_s q h2]
          obtain ⟨σ2, σ', r1, r2, r3, r4⟩ := m_when_l hw hk d n σ1 (restA W A).2 (by rw [rest_3, rest_ne ok (by omega)]; omega) (by omega) p2 p3 (hW.mono p4) h2
          exact ⟨σ2, σ', r1, p4.tr r2, r3, r4⟩
        · rw [when_d q h2]
          cases n with
          | zero => exact absurd hn (by omega)
          | succ n =>
            have hz : (restA W A).2 (35 + 6 * k + 4) = 0 := by
              have := (p3.2.2.2.1 k hk).2.2.2.2.1
              omega
            have key : ∃ σ', f_X12_when_b52 (nI k) σ1 = some (nI (A 3), σ') ∧ (∀ i, i < 319 → σ' 1 i = σ1 3 i) ∧ (∀ p, p ≠ 1 → σ' p = σ1 p) := by
              obtain ⟨σ', b1, b2, b3⟩ := m_back σ1
              unfold f_X12_when_b52
              simp only [lit]
              rw [m_its p2 hk (by decide), bnd_some, hz, if_neg (by decide), lt_ap, b1, bnd_some, p2 3 (by decide) (by decide) (by decide) (by decide), rest_3, pk_sub (by omega), Nat.add_sub_cancel]
              exact ⟨σ', rfl, b2, b3⟩
            obtain ⟨σ', k1, k2, k3⟩ := key
            refine ⟨σ1, σ', ?_, p4, k2, k3⟩
            show f_X12_when_b26 (f_X12_when_l26 (nI k) n) (nI k) σ1 = _
            unfold f_X12_when_b26
            by_cases q2 : f_X12_isOver σ1 = true
            · rw [if_pos q2, k1]
              rfl
            · rw [if_neg q2]
              simp only [lit]
              rw [m_its p2 hk (by decide), bnd_some, hz, if_pos (by decide), k1]
              rfl
theorem c_when_l {W : WT} (hw : okW W) {k : Nat} (hk : k < 6) : ∀ (d j n : Nat) (σ : Sg) (A : Nat → Nat) (sc : Int32), j + d = 16 → d < n → rCs σ A → rCd σ 64 A sc → okA A → rulC σ W → ∃ σ', f_X11_when_l43 (nI k) n (nI j) σ = some (ansW (whenN W k d A), σ') ∧ fC 64 σ σ'
  | d, j, 0, σ, A, sc, _, h, _, _, _, _ => absurd h (by omega)
  | d, j, n + 1, σ, A, sc, hd, hn, hs, hr, ok, hW => by
    show ∃ σ', f_X11_when_b43 (f_X11_when_l43 (nI k) n) (nI k) (nI j) σ = some (_, σ') ∧ _
    unfold f_X11_when_b43
    rw [c_over hs hr ok]
    cases d with
    | zero =>
      rw [if_pos (by rw [show (16 : Int32) = nI 16 from rfl]; exact nI_le (by omega) (by omega))]
      exact ⟨σ, rfl, fC.rf _ σ⟩
    | succ d =>
      rw [if_neg (by rw [show (16 : Int32) = nI 16 from rfl]; exact nI_ge (by omega) (by omega))]
      by_cases q : A 2 ≤ A 3
      · rw [if_pos (decide_eq_true q), when_o q]
        exact ⟨σ, rfl, fC.rf _ σ⟩
      · have h16 := ok.1.2.2.1
        obtain ⟨σ1, p1, p2, p3, p4⟩ := c_goRest sky64 hs hr ok (by omega) hw hW
        have ok1 := rest_ok (W := W) ok (by omega)
        rw [if_neg (fun z => q (of_decide_eq_true z)), p1, bd2_some, c_aloft p2 ok1 hk]
        by_cases h2 : (restA W A).2 (35 + 6 * k + 4) = 1
        · rw [if_pos (decide_eq_true h2), when_s q h2, nI_1]
          obtain ⟨σ', r1, r2⟩ := c_when_l hw hk d (j + 1) n σ1 (restA W A).2 _ (by omega) (by omega) p3 p2 ok1 (p4.r sky64 hW)
          exact ⟨σ', r1, p4.tr r2⟩
        · rw [if_neg (fun z => h2 (of_decide_eq_true z)), when_d q h2, p2.1, rest_3, show nI (A 3 + 1) - 1 = nI (A 3) from (pk_sub (b := 1) (by omega)).trans (by rw [Nat.add_sub_cancel])]
          exact ⟨σ1, rfl, p4⟩
theorem eq_when {σM σC : Sg} (h : Rel σM σC) (x : Int32) : ∃ r σM' σC', f_X12_when x σM = some (r, σM') ∧ f_X11_when x σC = some (r, σC') ∧ Rel σM' σC' := by
  obtain ⟨⟨A, W, g⟩, hk, hr⟩ := id h
  have hm := g.ok.1.1
  have h16 := g.ok.1.2.2.1
  unfold f_X12_when f_X11_when
  rw [m_isKite g.m, c_isKite g.c]
  by_cases q : rng x (nI 0) (nI (A 0) - nI 1) = true
  · rw [if_pos q, if_pos q]
    obtain ⟨k, hk0, rfl⟩ := (kite_iff (by omega)).mp q
    have hk6 : k < 6 := by omega
    obtain ⟨t1, t2, t3, t4⟩ := c_trial g.c g.d g.rc
    simp only [lit]
    rw [m_its g.m hk6 (by decide), bnd_some, lt_ap, c_aloft t2 g.ok hk6]
    by_cases ha : A (35 + 6 * k + 4) = 1
    · obtain ⟨σ1, p1, p2, p3⟩ := m_puts σM
      have h1 : rM σ1 A := fun i a b c d => by rw [p3 1 (by decide)]; exact g.m i a b c d
      have hW1 : rulM σ1 W := g.rm.eq (fun i _ _ => by rw [p3 1 (by decide)])
      obtain ⟨σ2, σ3, r1, r2, r3, r4⟩ := m_when_l g.okw hk6 16 400 σ1 A (by omega) (by omega) h1 g.ok hW1 ha
      obtain ⟨σ4, s1, s2⟩ := c_when_l g.okw hk6 16 0 400 (f_X10_copy 64 41 σC) A (σM 1 4) (by omega) (by omega) t1 t2 g.ok t3
      rw [ha, if_pos (by decide), if_pos (by decide), p1, bnd_some, r1, s1]
      exact ⟨_, σ3, σ4, rfl, rfl, h.fr (tried p2 p3 r2 r3 r4) (t4.tr s2).k⟩
    · have hz : A (35 + 6 * k + 4) = 0 := by
        have := (g.ok.2.2.2.1 k hk6).2.2.2.2.1
        omega
      rw [hz, if_neg (by decide), if_neg (by decide)]
      exact ⟨_, σM, _, rfl, rfl, h.fr (eqQ.rf σM) t4.k⟩
  · rw [if_neg q, if_neg q]
    exact ⟨_, σM, σC, rfl, rfl, h⟩
