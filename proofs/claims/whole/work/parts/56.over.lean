/-! over -/
/-- a kite aloft is at this cell, of so many from k on -/
def someAt (A : Nat → Nat) (c : Int32) : Nat → Nat → Bool
  | 0, _ => false
  | d + 1, k => if A (35 + 6 * k + 4) = 1 ∧ nI (A (35 + 6 * k + 1)) = c then true else someAt A c d (k + 1)
theorem some_t {A : Nat → Nat} {c : Int32} {d k : Nat} (h : A (35 + 6 * k + 4) = 1 ∧ nI (A (35 + 6 * k + 1)) = c) : someAt A c (d + 1) k = true := if_pos h
theorem some_f {A : Nat → Nat} {c : Int32} {d k : Nat} (h : ¬ (A (35 + 6 * k + 4) = 1 ∧ nI (A (35 + 6 * k + 1)) = c)) : someAt A c (d + 1) k = someAt A c d (k + 1) := if_neg h
def nextA (A : Nat → Nat) : Nat → Nat := up1 (gustA A) 3 (A 3 + 1)
def overN (c : Int32) : Nat → (Nat → Nat) → Option Nat
  | 0, _ => none
  | n + 1, A => if A 2 ≤ A 3 then none else if someAt (gustA A) c (A 0) 0 = true then some (A 3) else overN c n (nextA A)
theorem over_o {c : Int32} {n : Nat} {A : Nat → Nat} (h : A 2 ≤ A 3) : overN c (n + 1) A = none := if_pos h
theorem over_t {c : Int32} {n : Nat} {A : Nat → Nat} (h : ¬ A 2 ≤ A 3) (h2 : someAt (gustA A) c (A 0) 0 = true) : overN c (n + 1) A = some (A 3) := (if_neg h).trans (if_pos h2)
theorem over_f {c : Int32} {n : Nat} {A : Nat → Nat} (h : ¬ A 2 ≤ A 3) (h2 : ¬ someAt (gustA A) c (A 0) 0 = true) : overN c (n + 1) A = overN c n (nextA A) := (if_neg h).trans (if_neg h2)
theorem next_ok {A : Nat → Nat} (ok : okA A) (hg : A 3 < 16) : okA (nextA A) := okA_g (gust_ok ok hg) (by omega)
theorem next_ne {A : Nat → Nat} (ok : okA A) {j : Nat} (h : j < 35 ∧ j ≠ 3) : nextA A j = A j := (up1_ne h.2).trans (gust_ne ok (by omega))
theorem next_3 (A : Nat → Nat) : nextA A 3 = A 3 + 1 := up1_at _ _ _
theorem m_over_in {σ : Sg} {A : Nat → Nat} (h : rM σ A) (ok : okA A) {K : Int32 → Sg → Option (Int32 × Sg)} {c : Int32} {v : Int32} (hv : v = -3 ∨ v = nI (A 3)) : ∀ (d k n : Nat), k + d = A 0 → d < n →
    f_X12_over_l35 K c n v (nI k) σ = K (if someAt A c d k = true then nI (A 3) else v) (upS σ 1 3 (nI (A 3 + 1)))
  | d, k, 0, _, hn => absurd hn (by omega)
  | d, k, n + 1, hd, hn => by
    have hm := ok.1.1
    show f_X12_over_b35 K (f_X12_over_l35 K c n) c v (nI k) σ = _
    unfold f_X12_over_b35
    rw [h 0 (by decide) (by decide) (by decide) (by decide), h 3 (by decide) (by decide) (by decide) (by decide)]
    cases d with
    | zero =>
      rw [if_pos (nI_le (by omega) (by omega)), lt_ap, nI_1]
      rfl
    | succ d =>
      have hk : k < 6 := by omega
      have b4 := (ok.2.2.2.1 k hk).2.2.2.2.1
      rw [if_neg (nI_ge (by omega) (by omega)), nI_1]
      simp only [lit]
      rw [m_its h hk (by decide), bnd_some]
      by_cases ha : A (35 + 6 * k + 4) = 1
      · rw [ha, if_neg (by decide), m_its h hk (by decide), bnd_some]
        by_cases hc : nI (A (35 + 6 * k + 1)) = c
        · rw [if_neg (fun z => z hc), lt_ap, some_t ⟨ha, hc⟩, if_pos rfl, m_over_in h ok (Or.inr rfl) d (k + 1) n (by omega) (by omega), ite_self]
        · rw [if_pos hc, some_f (fun z => hc z.2)]
          exact m_over_in h ok hv d (k + 1) n (by omega) (by omega)
      · have ha0 : A (35 + 6 * k + 4) = 0 := by omega
        rw [ha0, if_pos (by decide), some_f (by rw [ha0]; exact fun z => absurd z.1 (by decide))]
        exact m_over_in h ok hv d (k + 1) n (by omega) (by omega)
theorem m_over_l {c : Int32} : ∀ (d n : Nat) (σ : Sg) (A : Nat → Nat), A 2 ≤ A 3 + d → d + 1 < n → rM σ A → okA A → ∃ σ1 σ', f_X12_over_l16 c n (-3) σ = some (ansW (overN c d A), σ') ∧ sameM σ σ1 ∧ (∀ i, i < 319 → σ' 1 i = σ1 3 i) ∧ (∀ p, p ≠ 1 → σ' p = σ1 p)
  | d, 0, σ, A, _, h, _, _ => absurd h (by omega)
  | d, n + 1, σ, A, hd, hn, hr, ok => by
    have hm := ok.1.1
    show ∃ σ1 σ', f_X12_over_b16 (f_X12_over_l16 c n) c (-3) σ = some (_, σ') ∧ _
    unfold f_X12_over_b16
    rw [m_over hr ok]
    by_cases q : A 2 ≤ A 3
    · rw [if_pos (decide_eq_true q)]
      obtain ⟨σ', b1, b2, b3⟩ := m_back σ
      rw [b1, bnd_some]
      have e : overN c d A = none := by
        cases d with
        | zero => rfl
        | succ d => exact over_o q
      rw [e]
      exact ⟨σ, σ', rfl, sameM.rf σ, b2, b3⟩
    · have h16 := ok.1.2.2.1
      cases d with
      | zero => exact absurd hd (by omega)
      | succ d =>
        obtain ⟨σ1, p1, p2, p3⟩ := m_blows hr ok (by omega)
        have e3 : gustA A 3 = A 3 := gust_ne ok (by omega)
        have e0 : gustA A 0 = A 0 := gust_ne ok (by omega)
        have okg := gust_ok ok (show A 3 < 16 by omega)
        rw [if_neg (fun z => q (of_decide_eq_true z)), if_neg (fun z => z rfl), p1, bnd_some]
        have e := m_over_in (σ := σ1) (A := gustA A) p2 okg (K := f_X12_over_l16 c n) (c := c) (v := -3) (Or.inl rfl) (A 0) 0 400 (by omega) (by omega)
        rw [e3] at e
        have e' : f_X12_over_l35 (f_X12_over_l16 c n) c 400 (-3) 0 σ1 = f_X12_over_l16 c n (if someAt (gustA A) c (A 0) 0 = true then nI (A 3) else -3) (upS σ1 1 3 (nI (A 3 + 1))) := e
        rw [e']
        have h2 : rM (upS σ1 1 3 (nI (A 3 + 1))) (nextA A) := rM.up p2
        have s2 : sameM σ (upS σ1 1 3 (nI (A 3 + 1))) := p3.s.tr (sameM.up (by decide) (by decide) (by decide))
        by_cases hc : someAt (gustA A) c (A 0) 0 = true
        · rw [if_pos hc, over_t q hc]
          cases n with
          | zero => exact absurd hn (by omega)
          | succ n =>
            obtain ⟨σ', b1, b2, b3⟩ := m_back (upS σ1 1 3 (nI (A 3 + 1)))
            refine ⟨_, σ', ?_, s2, b2, b3⟩
            show f_X12_over_b16 (f_X12_over_l16 c n) c (nI (A 3)) _ = _
            have hne : ¬ nI (A 3) = -3 := fun z => by
              have := congrArg Int32.toInt z
              rw [nI_toInt (by omega)] at this
              exact absurd this (by have : (-3 : Int32).toInt = -3 := rfl; omega)
            unfold f_X12_over_b16
            rw [b1, bnd_some, if_pos hne, ite_self]
            rfl
        · rw [if_neg hc, over_f q hc]
          obtain ⟨σ2, σ', r1, r2, r3, r4⟩ := m_over_l (c := c) d n _ (nextA A) (by rw [next_ne ok (by omega), next_3]; omega) (by omega) h2 (next_ok ok (by omega))
          exact ⟨σ2, σ', r1, s2.tr r2, r3, r4⟩
theorem c_some_l {σ : Sg} {n : Nat} {A : Nat → Nat} {sc : Int32} (hs : rCs σ A) (hd : rCd σ n A sc) (ok : okA A) {c : Int32} : ∀ (d k fu : Nat), k + d = A 0 → d < fu → f_X1_isSomeAloftAt_l2 n c σ fu (nI k) = some (someAt A c d k)
  | d, k, 0, _, hf => absurd hf (by omega)
  | d, k, fu + 1, hk0, hf => by
    have hm := ok.1.1
    show f_X1_isSomeAloftAt_b2 (f_X1_isSomeAloftAt_l2 n c σ fu) n c σ (nI k) = _
    unfold f_X1_isSomeAloftAt_b2
    rw [hs.1]
    cases d with
    | zero => rw [if_pos (nI_le (by omega) (by omega))]; rfl
    | succ d =>
      have hk : k < 6 := by omega
      have ih := c_some_l hs hd ok (c := c) d (k + 1) fu (by omega) (by omega)
      rw [if_neg (nI_ge (by omega) (by omega)), c_aloft hd ok hk, nI_1]
      by_cases ha : A (35 + 6 * k + 4) = 1
      · rw [if_pos (decide_eq_true ha), rd_nI hk (by decide), bnd_some, (hd.2.2.2.2 k hk).1]
        by_cases hc : nI (A (35 + 6 * k + 1)) = c
        · rw [if_neg (fun z => z hc), some_t ⟨ha, hc⟩]
        · rw [if_pos hc, some_f (fun z => hc z.2)]
          exact ih
      · rw [if_neg (fun z => ha (of_decide_eq_true z)), some_f (fun z => ha z.1)]
        exact ih
theorem some_up {A : Nat → Nat} {c : Int32} {i v : Nat} (h : i < 35) : ∀ d k, someAt (up1 A i v) c d k = someAt A c d k
  | 0, _ => rfl
  | d + 1, k => by
    unfold someAt
    rw [up1_ne (by omega), up1_ne (by omega), some_up h d (k + 1)]
theorem c_over_l {W : WT} (hw : okW W) {c : Int32} : ∀ (d j n : Nat) (σ : Sg) (A : Nat → Nat) (sc : Int32), j + d = 16 → d < n → rCs σ A → rCd σ 64 A sc → okA A → rulC σ W → ∃ σ', f_X11_over_l28 c n (nI j) σ = some (ansW (overN c d A), σ') ∧ fC 64 σ σ'
  | d, j, 0, σ, A, sc, _, h, _, _, _, _ => absurd h (by omega)
  | d, j, n + 1, σ, A, sc, hd, hn, hs, hr, ok, hW => by
    have hm := ok.1.1
    show ∃ σ', f_X11_over_b28 (f_X11_over_l28 c n) c (nI j) σ = some (_, σ') ∧ _
    unfold f_X11_over_b28
    rw [c_over hs hr ok]
    cases d with
    | zero =>
      rw [if_pos (show (16 : Int32) ≤ nI j from nI_le (a := 16) (by omega) (by omega))]
      exact ⟨σ, rfl, fC.rf _ σ⟩
    | succ d =>
      rw [if_neg (show ¬ (16 : Int32) ≤ nI j from nI_ge (b := 16) (by omega) (by omega))]
      by_cases q : A 2 ≤ A 3
      · rw [if_pos (decide_eq_true q), over_o q]
        exact ⟨σ, rfl, fC.rf _ σ⟩
      · have h16 := ok.1.2.2.1
        obtain ⟨σ1, p1, p2, p3, p4⟩ := c_goAct sky64 hs hr ok (by omega) hw hW (act := 0) (by omega)
        have p1' : f_X1_goByAct 64 0 σ = some (nI 0, σ1) := p1
        have p2' : rCd σ1 64 (nextA A) _ := p2
        have p3' : rCs σ1 (nextA A) := p3
        have okn := next_ok ok (show A 3 < 16 by omega)
        have hsome : f_X1_isSomeAloftAt 64 c σ1 = some (someAt (gustA A) c (A 0) 0) := by
          unfold f_X1_isSomeAloftAt
          have e := c_some_l p3' p2' okn (c := c) (A 0) 0 400 (by rw [next_ne ok (by omega)]; omega) (by omega)
          have e2 : someAt (nextA A) c (A 0) 0 = someAt (gustA A) c (A 0) 0 := some_up (by omega) _ _
          exact e.trans (by rw [e2])
        rw [if_neg (fun z => q (of_decide_eq_true z)), p1', bd2_some, hsome, bnd_some]
        by_cases hc : someAt (gustA A) c (A 0) 0 = true
        · rw [if_pos hc, over_t q hc, p2'.1, next_3, show nI (A 3 + 1) - 1 = nI (A 3) from (pk_sub (b := 1) (by omega)).trans (by rw [Nat.add_sub_cancel])]
          exact ⟨σ1, rfl, p4⟩
        · rw [if_neg hc, over_f q hc, nI_1]
          obtain ⟨σ', r1, r2⟩ := c_over_l hw (c := c) d (j + 1) n σ1 (nextA A) _ (by omega) (by omega) p3' p2' okn (p4.r sky64 hW)
          exact ⟨σ', r1, p4.tr r2⟩
theorem eq_over {σM σC : Sg} (h : Rel σM σC) (x : Int32) : ∃ r σM' σC', f_X12_over x σM = some (r, σM') ∧ f_X11_over x σC = some (r, σC') ∧ Rel σM' σC' := by
  obtain ⟨⟨A, W, g⟩, hk, hr⟩ := id h
  have hm := g.ok.1.1
  have h16 := g.ok.1.2.2.1
  unfold f_X12_over f_X12_isCell f_X11_over
  rw [m_inN 0 63 0 63 rfl rfl, c_in, show (0 : Int32) = nI 0 from rfl, show (63 : Int32) = nI 63 from rfl]
  by_cases q : rng x (nI 0) (nI 63) = true
  · rw [if_pos q, if_pos q, lt_ap]
    obtain ⟨t1, t2, t3, t4⟩ := c_trial g.c g.d g.rc
    obtain ⟨σ1, p1, p2, p3⟩ := m_puts σM
    have h1 : rM σ1 A := fun i a b c d => by rw [p3 1 (by decide)]; exact g.m i a b c d
    obtain ⟨σ2, σ3, r1, r2, r3, r4⟩ := m_over_l (c := x) 16 400 σ1 A (by omega) (by omega) h1 g.ok
    obtain ⟨σ4, s1, s2⟩ := c_over_l g.okw (c := x) 16 0 400 (f_X10_copy 64 41 σC) A (σM 1 4) (by omega) (by omega) t1 t2 g.ok t3
    rw [p1, bnd_some, r1, s1]
    exact ⟨_, σ3, σ4, rfl, rfl, h.fr (tried p2 p3 r2 r3 r4) (t4.tr s2).k⟩
  · rw [if_neg q, if_neg q]
    exact ⟨_, σM, σC, rfl, rfl, h⟩
