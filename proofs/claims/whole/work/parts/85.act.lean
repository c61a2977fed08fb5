/-! act: both sides -/
theorem Rel.acted {σM σC σM' σC' : Sg} (h : Rel σM σC) (q : ∀ p, p ≠ 0 → p ≠ 16 → σM' p = σM p) (q0 : ∀ j, j < 35 → σM' 0 j = σM 0 j) (k : ∀ p, p = 2 ∨ 9 ≤ p → σC' p = σC p) (k0 : ∀ i, i ≠ 16 → σC' 0 i = σC 0 i)
    (t : ∃ n, n ≤ 400 ∧ σM' 0 35 = nI n ∧ σC' 0 16 = nI (min n 30) ∧ ∀ i, i < n → i < 30 → σC' 1 i = σM' 16 i) : Rel σM' σC' := by
  obtain ⟨hh, hk, hr⟩ := h
  refine ⟨hh.elim fun A g => g.elim fun W g => ⟨A, W, g.fr (fun i _ => by rw [q 1 (by decide) (by decide)]) (fun p a b c => k p (by omega))⟩, ⟨by rw [k0 14 (by decide), q0 3 (by decide)]; exact hk.1, ?_⟩, ?_, fun j hj w hw => by rw [k (15 + j) (by omega), q 8 (by decide) (by decide)]; exact hr.rows j hj w hw, by rw [q0 21 (by decide), k 67 (by omega)]; exact hr.tn, by rw [k 68 (by omega), q 9 (by decide) (by decide)]; exact hr.tape, fun j hj => by rw [k 9 (by omega), k 10 (by omega), k (20 + j) (by omega), q 10 (by decide) (by decide), q 11 (by decide) (by decide), q 12 (by decide) (by decide)]; exact hr.sheet j hj, (by rw [k 11 (by omega), k 12 (by omega), k 13 (by omega), q 13 (by decide) (by decide), q 14 (by decide) (by decide), q 15 (by decide) (by decide)]; exact hr.shelf), t⟩
  · rw [q0 3 (by decide)]
    exact hk.2.elim Or.inl (fun ⟨A, W, g⟩ => Or.inr ⟨A, W, g.fr (fun i _ => by show σM' 2 i = σM 2 i; rw [q 2 (by decide) (by decide)]) (fun p h1 h2 h3 => by
      rw [shf_in (by omega), shf_in (by omega), k (p + 20) (by omega)])⟩)
  · rw [q0 19 (by decide), k0 15 (by decide)]
    exact hr.rn
theorem become_at {i : Nat} (hi : i < 6) (x y : Int32) (σ : Sg) : cv_become i x y σ = upS (upS (upS (upS σ (3 + i) 1 x) (3 + i) 2 y) (3 + i) 3 0) (3 + i) 4 0 := by
  match i, hi with
  | 0, _ | 1, _ | 2, _ | 3, _ | 4, _ | 5, _ => rfl
  | i + 6, h => exact absurd h (by omega)
section AD
variable {i b m : Nat} {σM0 σC0 σM σC : Sg}
theorem res_flies (hi : i < 6) (R : ActR i b m 0 σM0 σC0 σM σC) (x : Int32) : Res i b m 30 σM0 σC0 (σM 0 39) (f_X12_flies x σM) (cv_flies i x σC) := by
  match i, hi, R with
  | 0, _, R => exact fl_0 R (by omega) (by omega) x x (fun _ => rfl)
  | 1, _, R => exact fl_1 R (by omega) (by omega) x x (fun _ => rfl)
  | 2, _, R => exact fl_2 R (by omega) (by omega) x x (fun _ => rfl)
  | 3, _, R => exact fl_3 R (by omega) (by omega) x x (fun _ => rfl)
  | 4, _, R => exact fl_4 R (by omega) (by omega) x x (fun _ => rfl)
  | 5, _, R => exact fl_5 R (by omega) (by omega) x x (fun _ => rfl)
  | i + 6, h, _ => exact absurd h (by omega)
theorem res_reads (hi : i < 6) (R : ActR i b m 0 σM0 σC0 σM σC) (x : Int32) : Res i b m 30 σM0 σC0 (σM 0 39) (f_X12_reads x σM) (cv_reads i x σC) := by
  match i, hi, R with
  | 0, _, R => exact rd_0 R (by omega) (by omega) x x (fun _ => rfl)
  | 1, _, R => exact rd_1 R (by omega) (by omega) x x (fun _ => rfl)
  | 2, _, R => exact rd_2 R (by omega) (by omega) x x (fun _ => rfl)
  | 3, _, R => exact rd_3 R (by omega) (by omega) x x (fun _ => rfl)
  | 4, _, R => exact rd_4 R (by omega) (by omega) x x (fun _ => rfl)
  | 5, _, R => exact rd_5 R (by omega) (by omega) x x (fun _ => rfl)
  | i + 6, h, _ => exact absurd h (by omega)
theorem res_parts (hi : i < 6) (hb : b < 6) (hm : m < 6) (R : ActR i b m 0 σM0 σC0 σM σC) (x : Int32) : Res i b m 30 σM0 σC0 (σM 0 39) (f_X12_parts x σM) (cv_parts i x σC) := by
  match i, hi, R with
  | 0, _, R => exact pt_0 hb hm R (by omega) (by omega) x
  | 1, _, R => exact pt_1 hb hm R (by omega) (by omega) x
  | 2, _, R => exact pt_2 hb hm R (by omega) (by omega) x
  | 3, _, R => exact pt_3 hb hm R (by omega) (by omega) x
  | 4, _, R => exact pt_4 hb hm R (by omega) (by omega) x
  | 5, _, R => exact pt_5 hb hm R (by omega) (by omega) x
  | i + 6, h, _ => exact absurd h (by omega)
theorem res_calls (hi : i < 6) (hb : b < 6) (hm : m < 6) (R : ActR i b m 0 σM0 σC0 σM σC) (x : Int32) : Res i b m 30 σM0 σC0 (σM 0 39) (f_X12_calls x σM) (cv_calls i x σC) := by
  match i, hi, R with
  | 0, _, R => exact cll_0 hb hm R x
  | 1, _, R => exact cll_1 hb hm R x
  | 2, _, R => exact cll_2 hb hm R x
  | 3, _, R => exact cll_3 hb hm R x
  | 4, _, R => exact cll_4 hb hm R x
  | 5, _, R => exact cll_5 hb hm R x
  | i + 6, h, _ => exact absurd h (by omega)
theorem act_fin {q : Int32} {M C : Option (Int32 × Sg)} (hi : i < 6) (h : Rel σM σC) (qM : (∀ p, p ≠ 0 → p ≠ 16 → σM0 p = σM p) ∧ ∀ j, j < 35 → σM0 0 j = σM 0 j) (qC : (∀ p, p = 2 ∨ 9 ≤ p → σC0 p = σC p) ∧ ∀ j, j ≠ 16 → σC0 0 j = σC 0 j) (R : Res i b m 30 σM0 σC0 q M C) :
    ∃ r σM' σC', (bd2 M fun v σ => f_X12_act_b109 v σ) = some (r, σM') ∧ (bd2 C fun v σ => f_X11_act_b141 i v σ) = some (r, σC') ∧ Rel σM' σC' := by
  obtain ⟨x, y, σ1, τ1, e1, e2, e3, ⟨-, -, ⟨c, c1, c2, c3, c4⟩, r6, ⟨r7, r8⟩, r9⟩⟩ := R
  rw [e1, e2, bd2_some, bd2_some]
  have rel : Rel σ1 (upS τ1 0 16 (τ1 (3 + i) 3)) := h.acted (fun p a d => (r7 p a d).trans (qM.1 p a d)) (fun j hj => (r8 j (by omega) (by omega)).trans (qM.2 j hj)) (fun p hp => by rw [upS_ne (by omega), r9 p (by omega) (by omega)]; exact qC.1 p hp) (fun j hj => by rw [upS_nj (by omega), r9 0 (by omega) (by omega)]; exact qC.2 j hj)
    ⟨c, by omega, c2, by rw [upS_at, c3, Nat.min_eq_left (by omega)], fun j hj _ => by rw [upS_ne (by decide)]; exact c4 j hj⟩
  unfold f_X12_act_b109 f_X11_act_b141
  rw [lt_ap, upS_ne (q := 3 + i) (by omega)]
  rcases r6 with ⟨p1, p2⟩ | ⟨p1, p2⟩
  · rw [if_pos p1, if_pos p2, (e3 p1).2]
    exact ⟨_, _, _, rfl, rfl, rel⟩
  · rw [if_neg (show ¬ σ1 0 39 = 0 by rw [p1]; decide), if_neg (show ¬ τ1 (3 + i) 4 = 0 by rw [p2]; decide)]
    exact ⟨_, _, _, rfl, rfl, rel⟩
end AD
theorem eq_act {σM σC : Sg} (h : Rel σM σC) (x y v : Int32) : ∃ r σM' σC', f_X12_act x y v σM = some (r, σM') ∧ f_X11_act x y v σC = some (r, σC') ∧ Rel σM' σC' := by
  have rel2 : Rel (upS (upS σM 0 35 0) 0 39 0) (upS σC 0 16 0) := h.acted (fun p a b => by rw [upS_ne a, upS_ne a]) (fun j hj => by rw [upS_nj (by omega), upS_nj (by omega)]) (fun p hp => by rw [upS_ne (by omega)]) (fun i hi => upS_nj (by omega)) ⟨0, by omega, by rw [upS_nj (by omega), upS_at]; rfl, by rw [upS_at]; rfl, fun i hi => absurd hi (by omega)⟩
  have rel4 : ∀ w, Rel (upS (upS (upS σM 0 35 0) 0 39 0) 0 36 w) (upS σC 0 16 0) := fun w => rel2.acted (fun p a b => by rw [upS_ne a]) (fun j hj => by rw [upS_nj (by omega)]) (fun p hp => rfl) (fun i hi => rfl) ⟨0, by omega, by rw [upS_nj (by omega), upS_nj (by omega), upS_at]; rfl, by rw [upS_at]; rfl, fun i hi => absurd hi (by omega)⟩
  unfold f_X12_act f_X11_act
  rw [lt_ap, lt_ap, lt_ap, shelf_x, show f_X11_within y 0 3 (upS σC 0 16 0) = rng y (nI 0) (nI 3) from c_in _ _ _ _]
  obtain ⟨⟨A, W, g⟩, hk', hr⟩ := id rel2
  have hm6 := g.ok.1.1
  generalize hS : upS (upS σM 0 35 0) 0 39 0 = σ2 at *
  generalize hT : upS σC 0 16 0 = σ1 at *
  by_cases q : rng x (nI 0) (nI 3) = true
  · obtain ⟨k, -, hk, rfl⟩ := (rng_nI (by decide) (by decide)).mp q
    have hk4 : k < 4 := by omega
    rw [if_pos q]
    rcases m_onShelf hr g.m g.c g.ok hk4 with ⟨b, hb, o1, o2, o3, -⟩ | ⟨o1, o2, -⟩
    · have hb6 : b < 6 := by omega
      obtain ⟨b0, b1, b2, b3, -⟩ := g.ok.2.2.2.1 b hb6
      rw [o1, bnd_some, lt_ap, upS_at, if_neg (nI_m1 (by omega)), m_inN 0 3 0 3 rfl rfl]
      by_cases q2 : rng y (nI 0) (nI 3) = true
      · have mi : ∀ w, w < 6 → ∀ τ : Sg, τ 1 = σ2 1 → f_X12_its (nI b) (nI w) τ = some (nI (A (35 + 6 * b + w))) := fun w hw τ et => by
          rw [m_its0 hb6 hw, et, g.m _ (by omega) (by omega) (by omega) (by omega)]
        rw [if_pos q2, if_pos q2, o2, bnd_some, if_pos rfl, show f_X12_its (nI b) 3 (upS σ2 0 36 (nI b)) = some (nI (A (35 + 6 * b + 3))) from mi 3 (by decide) _ (upS_ne (by decide)), bnd_some, lt_ap, upS_nj (j := 36) (by omega), upS_at, show f_X12_its (nI b) 0 (upS (upS σ2 0 36 (nI b)) 0 37 (nI (A (35 + 6 * b + 3)))) = some (nI (A (35 + 6 * b + 0))) from mi 0 (by decide) _ (by rw [upS_ne (by decide), upS_ne (by decide)]), bnd_some, lt_ap,
          rd_nI hk4 (by decide), bnd_some, o3, rd_nI hb6 (by decide), bnd_some, (g.c.2.2.2.1 b hb6).1, if_neg (show ¬ (nI (A (35 + 6 * b + 0)) < 0 ∨ 6 ≤ (nI (A (35 + 6 * b + 0))).toNatClampNeg) from nI_in (by omega) (by decide)), rd_nI hb6 (by decide), bnd_some, (g.c.2.2.2.1 b hb6).2, nI_clamp (by omega), lt_ap, become_at (by omega)]
        have R : ActR (A (35 + 6 * b + 0)) b (A (35 + 6 * b + 3)) 0 (upS (upS (upS σ2 0 36 (nI b)) 0 37 (nI (A (35 + 6 * b + 3)))) 0 38 (nI (A (35 + 6 * b + 0)))) (upS (upS (upS (upS σ1 (3 + A (35 + 6 * b + 0)) 1 (nI b)) (3 + A (35 + 6 * b + 0)) 2 (nI (A (35 + 6 * b + 3)))) (3 + A (35 + 6 * b + 0)) 3 0) (3 + A (35 + 6 * b + 0)) 4 0)
            (upS (upS (upS σ2 0 36 (nI b)) 0 37 (nI (A (35 + 6 * b + 3)))) 0 38 (nI (A (35 + 6 * b + 0)))) (upS (upS (upS (upS σ1 (3 + A (35 + 6 * b + 0)) 1 (nI b)) (3 + A (35 + 6 * b + 0)) 2 (nI (A (35 + 6 * b + 3)))) (3 + A (35 + 6 * b + 0)) 3 0) (3 + A (35 + 6 * b + 0)) 4 0) := by
          refine ⟨⟨?_, ?_, upS_at⟩, ⟨?_, ?_⟩, ⟨0, by omega, ?_, ?_, fun j hj => absurd hj (by omega)⟩, Or.inl ⟨?_, upS_at⟩, ⟨fun _ _ _ => rfl, fun _ _ _ => rfl⟩, fun _ _ _ => rfl⟩
          · rw [upS_nj (by omega), upS_nj (by omega), upS_at]
          · rw [upS_nj (by omega), upS_at]
          · rw [upS_nj (by omega), upS_nj (by omega), upS_nj (by omega), upS_at]
          · rw [upS_nj (by omega), upS_nj (by omega), upS_at]
          · rw [upS_nj (by omega), upS_nj (by omega), upS_nj (by omega), ← hS, upS_nj (by omega), upS_at]; rfl
          · rw [upS_nj (by omega), upS_at]; rfl
          · rw [upS_nj (by omega), upS_nj (by omega), upS_nj (by omega), ← hS, upS_at]
        have qM : (∀ p, p ≠ 0 → p ≠ 16 → upS (upS (upS σ2 0 36 (nI b)) 0 37 (nI (A (35 + 6 * b + 3)))) 0 38 (nI (A (35 + 6 * b + 0))) p = σ2 p) ∧ ∀ j, j < 35 → upS (upS (upS σ2 0 36 (nI b)) 0 37 (nI (A (35 + 6 * b + 3)))) 0 38 (nI (A (35 + 6 * b + 0))) 0 j = σ2 0 j :=
          ⟨fun p a _ => by rw [upS_ne a, upS_ne a, upS_ne a], fun j hj => by rw [upS_nj (by omega), upS_nj (by omega), upS_nj (by omega)]⟩
        have qC : (∀ p, p = 2 ∨ 9 ≤ p → upS (upS (upS (upS σ1 (3 + A (35 + 6 * b + 0)) 1 (nI b)) (3 + A (35 + 6 * b + 0)) 2 (nI (A (35 + 6 * b + 3)))) (3 + A (35 + 6 * b + 0)) 3 0) (3 + A (35 + 6 * b + 0)) 4 0 p = σ1 p) ∧ ∀ j, j ≠ 16 → upS (upS (upS (upS σ1 (3 + A (35 + 6 * b + 0)) 1 (nI b)) (3 + A (35 + 6 * b + 0)) 2 (nI (A (35 + 6 * b + 3)))) (3 + A (35 + 6 * b + 0)) 3 0) (3 + A (35 + 6 * b + 0)) 4 0 0 j = σ1 0 j :=
          ⟨fun p hp => by rw [upS_ne (by omega), upS_ne (by omega), upS_ne (by omega), upS_ne (by omega)], fun j hj => by rw [upS_ne (by omega), upS_ne (by omega), upS_ne (by omega), upS_ne (by omega)]⟩
        have hi6 : A (35 + 6 * b + 0) < 6 := by omega
        have hm6' : A (35 + 6 * b + 3) < 6 := by omega
        by_cases y0 : y = 0
        · rw [if_neg (show ¬ ¬ y = 0 from fun z => z y0), if_pos y0]
          exact act_fin hi6 rel2 qM qC (res_flies hi6 R v)
        · rw [if_pos (show ¬ y = 0 from y0), if_neg y0]
          by_cases y1 : y = 1
          · rw [if_neg (show ¬ ¬ y = 1 from fun z => z y1), if_pos y1]
            exact act_fin hi6 rel2 qM qC (res_reads hi6 R v)
          · rw [if_pos (show ¬ y = 1 from y1), if_neg y1]
            by_cases y2 : y = 2
            · rw [if_neg (show ¬ ¬ y = 2 from fun z => z y2), if_pos y2]
              exact act_fin hi6 rel2 qM qC (res_parts hi6 hb6 hm6' R v)
            · rw [if_pos (show ¬ y = 2 from y2), if_neg y2]
              exact act_fin hi6 rel2 qM qC (res_calls hi6 hb6 hm6' R v)
      · rw [if_neg q2, if_neg q2]
        exact ⟨_, _, _, rfl, rfl, rel4 _⟩
    · rw [o1, bnd_some, lt_ap, upS_at, if_pos (show (-1 : Int32) < 0 by decide), o2, bnd_some, if_neg (show ¬ false = true by decide)]
      refine ⟨0, _, σ1, rfl, ?_, rel4 _⟩
      split <;> rfl
  · have o1 : f_X12_onShelf x σ2 = some (-1) := by
      unfold f_X12_onShelf
      rw [one_x, if_neg q]
    rw [if_neg q, o1, bnd_some, lt_ap, upS_at, if_pos (show (-1 : Int32) < 0 by decide)]
    exact ⟨_, _, _, rfl, rfl, rel4 _⟩
