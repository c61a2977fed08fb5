/-! shelves -/
def shelfP (a b c x y z : Int32) : Prop := (a = nI 0 ∧ x = nI 2) ∨ (a = nI 1 ∧ x = nI 0 ∧ y = b) ∨ (a = nI 2 ∧ x = nI 1 ∧ y = c ∧ z = b)
theorem shelf_put {σM σC : Sg} (h : Rel σM σC) {k : Nat} {a b c x y z : Int32} (p : shelfP a b c x y z) : Rel (upS (upS (upS σM 13 k a) 14 k b) 15 k c) (upS (upS (upS σC 11 k x) 12 k y) 13 k z) := by
  obtain ⟨⟨A, W, g⟩, hk', hr⟩ := h
  have q : ∀ p, p ≠ 13 → p ≠ 14 → p ≠ 15 → upS (upS (upS σM 13 k a) 14 k b) 15 k c p = σM p := fun p h1 h2 h3 => by rw [upS_ne h3, upS_ne h2, upS_ne h1]
  have r : ∀ p, p ≠ 11 → p ≠ 12 → p ≠ 13 → upS (upS (upS σC 11 k x) 12 k y) 13 k z p = σC p := fun p h1 h2 h3 => by rw [upS_ne h3, upS_ne h2, upS_ne h1]
  refine ⟨⟨A, W, g.fr (fun i _ => by rw [q 1 (by decide) (by decide) (by decide)]) (fun p a b c => r p (by omega) (by omega) (by omega))⟩, ⟨?_, ?_⟩, ?_⟩
  · rw [q 0 (by decide) (by decide) (by decide), r 0 (by decide) (by decide) (by decide)]; exact hk'.1
  · rw [q 0 (by decide) (by decide) (by decide)]
    refine hk'.2.elim Or.inl (fun ⟨A, W, g⟩ => Or.inr ⟨A, W, g.fr (fun i _ => ?_) (fun p a b c => ?_)⟩)
    · show upS (upS (upS σM 13 k a) 14 k b) 15 k c 2 i = σM 2 i
      rw [q 2 (by decide) (by decide) (by decide)]
    · rw [shf_in (by omega), shf_in (by omega), r _ (by omega) (by omega) (by omega)]
  · refine ⟨?_, fun j hj u hu => ?_, ?_, ?_, fun j hj => ?_, fun j hj => ?_, ?_⟩
    · rw [q 0 (by decide) (by decide) (by decide), r 0 (by decide) (by decide) (by decide)]; exact hr.rn
    · rw [q 8 (by decide) (by decide) (by decide), r (15 + j) (by omega) (by omega) (by omega)]; exact hr.rows j hj u hu
    · rw [q 0 (by decide) (by decide) (by decide), r 67 (by decide) (by decide) (by decide)]; exact hr.tn
    · rw [q 9 (by decide) (by decide) (by decide), r 68 (by decide) (by decide) (by decide)]; exact hr.tape
    · rw [q 10 (by decide) (by decide) (by decide), q 11 (by decide) (by decide) (by decide), q 12 (by decide) (by decide) (by decide), r 9 (by decide) (by decide) (by decide), r 10 (by decide) (by decide) (by decide), r (20 + j) (by omega) (by omega) (by omega)]; exact hr.sheet j hj
    · by_cases e : j = k
      · subst e
        have e13 : upS (upS (upS σM 13 j a) 14 j b) 15 j c 13 j = a := by rw [upS_ne (by decide), upS_ne (by decide), upS_at]
        have e14 : upS (upS (upS σM 13 j a) 14 j b) 15 j c 14 j = b := by rw [upS_ne (by decide), upS_at]
        have e15 : upS (upS (upS σM 13 j a) 14 j b) 15 j c 15 j = c := upS_at
        have f11 : upS (upS (upS σC 11 j x) 12 j y) 13 j z 11 j = x := by rw [upS_ne (by decide), upS_ne (by decide), upS_at]
        have f12 : upS (upS (upS σC 11 j x) 12 j y) 13 j z 12 j = y := by rw [upS_ne (by decide), upS_at]
        have f13 : upS (upS (upS σC 11 j x) 12 j y) 13 j z 13 j = z := upS_at
        rw [e13, e14, e15, f11, f12, f13]
        exact p
      · have e1 : ∀ p, upS (upS (upS σM 13 k a) 14 k b) 15 k c p j = σM p j := fun p => by rw [upS_nj (by omega), upS_nj (by omega), upS_nj (by omega)]
        have f1 : ∀ p, upS (upS (upS σC 11 k x) 12 k y) 13 k z p j = σC p j := fun p => by rw [upS_nj (by omega), upS_nj (by omega), upS_nj (by omega)]
        rw [e1, e1, e1, f1, f1, f1]
        exact hr.shelf j hj
    · rw [q 0 (by decide) (by decide) (by decide), q 16 (by decide) (by decide) (by decide), r 0 (by decide) (by decide) (by decide), r 1 (by decide) (by decide) (by decide)]; exact hr.trn
theorem c_putOn {σ : Sg} {k : Nat} (hk : k < 4) (x y z : Int32) : f_X11_putOn (nI k) x y z σ = some (1, upS (upS (upS σ 11 k x) 12 k y) 13 k z) := by
  unfold f_X11_putOn
  rw [wr_nI hk (by decide), bnd_some, wr_nI hk (by decide), bnd_some, wr_nI hk (by decide), bnd_some]
theorem shelf_x (x : Int32) (σ : Sg) : f_X11_isShelf x σ = rng x (nI 0) (nI 3) := c_in _ _ _ _
theorem eq_shelf {σM σC : Sg} (h : Rel σM σC) (x y n : Int32) : ∃ r σM' σC', f_X12_shelf x y n σM = some (r, σM') ∧ f_X11_shelf x y n σC = some (r, σC') ∧ Rel σM' σC' := by
  obtain ⟨⟨A, W, g⟩, hk', hr⟩ := id h
  unfold f_X12_shelf f_X11_shelf
  rw [one_x, shelf_x, m_inN 0 2 0 2 rfl rfl, m_isKite g.m, c_isKite g.c, sheet_x]
  by_cases q : rng x (nI 0) (nI 3) = true
  · obtain ⟨k, -, hk, rfl⟩ := (rng_nI (by decide) (by decide)).mp q
    have hk4 : k < 4 := by omega
    rw [if_pos q, if_pos q]
    by_cases y0 : y = 0
    · subst y0
      rw [if_pos (show rng 0 (nI 0) (nI 2) = true by decide), if_neg (show ¬ ¬ (0 : Int32) = 0 by decide), if_pos (show (0 : Int32) = 0 by decide)]
      by_cases q1 : rng n (nI 0) (nI (A 0) - nI 1) = true
      · rw [if_pos q1, if_pos q1, c_putOn hk4, bd2_some]
        unfold f_X12_shelf_b31
        rw [if_pos (show ¬ (0 : Int32) = 1 by decide)]
        unfold f_X12_shelf_b45
        rw [if_neg (show ¬ ¬ (0 : Int32) = 0 by decide)]
        unfold f_X12_shelf_b77
        rw [wr_nI hk4 (by decide), bnd_some, if_neg (show ¬ ¬ (0 : Int32) = 0 by decide)]
        unfold f_X12_shelf_b106
        rw [wr_nI hk4 (by decide), bnd_some, if_pos (show ¬ (0 : Int32) = 1 by decide), wr_nI hk4 (by decide), bnd_some]
        exact ⟨_, _, _, rfl, rfl, shelf_put h (Or.inr (Or.inl ⟨rfl, rfl, rfl⟩))⟩
      · rw [if_neg q1, if_neg q1]
        exact ⟨_, σM, σC, rfl, rfl, h⟩
    · by_cases y1 : y = 1
      · subst y1
        rw [if_pos (show rng 1 (nI 0) (nI 2) = true by decide), if_pos (show ¬ (1 : Int32) = 0 by decide), if_neg (show ¬ (1 : Int32) = 0 by decide), if_pos (show (1 : Int32) = 1 by decide)]
        unfold f_X12_shelf_b31
        rw [if_neg (show ¬ ¬ (1 : Int32) = 1 by decide), one_x]
        by_cases q1 : rng n (nI 0) (nI 3) = true
        · rw [if_pos q1, if_pos q1]
          obtain ⟨j, -, hj, rfl⟩ := (rng_nI (by decide) (by decide)).mp q1
          have hj4 : j < 4 := by omega
          obtain ⟨s1, s2, s3, -, -⟩ := hr.sheet j hj4
          unfold f_X12_shelf_b45
          rw [if_pos (show ¬ (1 : Int32) = 0 by decide), if_neg (show ¬ ¬ (1 : Int32) = 1 by decide), rd_nI hj4 (by decide), bnd_some]
          have b77 : ∀ v, f_X12_shelf_b77 (nI k) 1 (nI j) (nI k) v σM = some (1, upS (upS (upS σM 13 k v) 14 k (σM 11 j)) 15 k (σM 10 j)) := fun v => by
            unfold f_X12_shelf_b77
            rw [wr_nI hk4 (by decide), bnd_some, if_pos (show ¬ (1 : Int32) = 0 by decide), if_neg (show ¬ ¬ (1 : Int32) = 1 by decide), rd_nI hj4 (by decide), bnd_some, upS_ne (by decide)]
            unfold f_X12_shelf_b106
            rw [wr_nI hk4 (by decide), bnd_some, if_neg (show ¬ ¬ (1 : Int32) = 1 by decide), rd_nI hj4 (by decide), bnd_some, upS_ne (by decide), upS_ne (by decide), wr_nI hk4 (by decide), bnd_some]
          unfold f_X11_putRowOn
          rw [b77, b77, rd_nI hj4 (by decide), bnd_some, bnd_some, rd_nI hj4 (by decide), bnd_some, c_putOn hk4, c_putOn hk4, bd2_some, bd2_some, s1, s2]
          rcases s3 with e | ⟨t, ht, e⟩
          · rw [e, if_pos (by decide), if_neg (by decide), bd2_some]
            exact ⟨_, _, _, rfl, rfl, shelf_put h (Or.inl ⟨rfl, rfl⟩)⟩
          · rw [e, if_neg (show ¬ nI t < 0 from nI_nlt (a := t) (b := 0) (by omega) (by omega)), if_pos (ne_m1 (t := t) (by omega)), bd2_some]
            exact ⟨_, _, _, rfl, rfl, shelf_put h (Or.inr (Or.inr ⟨rfl, rfl, rfl, rfl⟩))⟩
        · rw [if_neg q1, if_neg q1]
          exact ⟨_, σM, σC, rfl, rfl, h⟩
      · by_cases y2 : y = 2
        · subst y2
          rw [if_pos (show rng 2 (nI 0) (nI 2) = true by decide), if_pos (show ¬ (2 : Int32) = 0 by decide), if_neg (show ¬ (2 : Int32) = 0 by decide), if_neg (show ¬ (2 : Int32) = 1 by decide), if_pos (show (2 : Int32) = 2 by decide), c_putOn hk4, bd2_some]
          unfold f_X12_shelf_b31
          rw [if_pos (show ¬ (2 : Int32) = 1 by decide)]
          unfold f_X12_shelf_b45
          rw [if_pos (show ¬ (2 : Int32) = 0 by decide), if_pos (show ¬ (2 : Int32) = 1 by decide)]
          unfold f_X12_shelf_b77
          rw [wr_nI hk4 (by decide), bnd_some, if_pos (show ¬ (2 : Int32) = 0 by decide), if_pos (show ¬ (2 : Int32) = 1 by decide)]
          unfold f_X12_shelf_b106
          rw [wr_nI hk4 (by decide), bnd_some, if_pos (show ¬ (2 : Int32) = 1 by decide), wr_nI hk4 (by decide), bnd_some]
          exact ⟨_, _, _, rfl, rfl, shelf_put h (Or.inl ⟨rfl, rfl⟩)⟩
        · have ny : ¬ rng y (nI 0) (nI 2) = true := fun z => by
            obtain ⟨t, -, ht, e⟩ := (rng_nI (by decide) (by decide)).mp z
            match t, ht with
            | 0, _ => exact y0 e
            | 1, _ => exact y1 e
            | 2, _ => exact y2 e
            | t + 3, w => exact absurd w (by omega)
          rw [if_neg ny, if_neg y0, if_neg y1, if_neg y2]
          exact ⟨_, σM, σC, rfl, rfl, h⟩
  · rw [if_neg q, if_neg q]
    exact ⟨_, σM, σC, rfl, rfl, h⟩
