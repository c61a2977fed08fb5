/-! things with acts: both sides in step -/
def beginG (p : Nat) (xq1 : Int32) (σ : Sg) : Option Sg :=
  if ¬ (σ p 4) = 0 then
    some σ
  else
    if 30 ≤ (σ p 3) then
      some σ
    else
      Option.bind (wr σ 1 30 (σ p 3) xq1) fun σ1 =>
      lt (upS σ1 p 3 ((σ1 p 3) + 1)) fun σ2 =>
      some σ2
def ActR (i b m K : Nat) (σM0 σC0 σM σC : Sg) : Prop :=
  (σM 0 36 = nI b ∧ σM 0 37 = nI m ∧ σM 0 38 = nI i) ∧ (σC (3 + i) 1 = nI b ∧ σC (3 + i) 2 = nI m) ∧ (∃ c, c ≤ K ∧ σM 0 35 = nI c ∧ σC (3 + i) 3 = nI c ∧ ∀ j, j < c → σC 1 j = σM 16 j) ∧ ((σM 0 39 = 0 ∧ σC (3 + i) 4 = 0) ∨ (σM 0 39 = 1 ∧ σC (3 + i) 4 = 1)) ∧
  ((∀ p, p ≠ 0 → p ≠ 16 → σM p = σM0 p) ∧ ∀ j, j ≠ 35 → j ≠ 39 → σM 0 j = σM0 0 j) ∧ ∀ p, p ≠ 1 → p ≠ 3 + i → σC p = σC0 p
theorem ActR.up {i b m K L : Nat} {σM0 σC0 σM σC : Sg} (h : ActR i b m K σM0 σC0 σM σC) (q : K ≤ L) : ActR i b m L σM0 σC0 σM σC :=
  ⟨h.1, h.2.1, h.2.2.1.elim fun c g => ⟨c, by omega, g.2⟩, h.2.2.2⟩
/-- both answers, the same unless a parting by 0 came between -/
def Res (i b m K : Nat) (σM0 σC0 : Sg) (q : Int32) (M C : Option (Int32 × Sg)) : Prop := ∃ x y σM' σC', M = some (x, σM') ∧ C = some (y, σC') ∧ (σM' 0 39 = 0 → q = 0 ∧ x = y) ∧ ActR i b m K σM0 σC0 σM' σC'
theorem act_ret {i b m K L : Nat} {σM0 σC0 σM σC : Sg} {q x y : Int32} (R : ActR i b m K σM0 σC0 σM σC) (hK : K ≤ L) (h : σM 0 39 = 0 → q = 0 ∧ x = y) : Res i b m L σM0 σC0 q (some (x, σM)) (some (y, σC)) := ⟨x, y, σM, σC, rfl, rfl, h, R.up hK⟩
theorem act_run {i b m K L : Nat} {σM0 σC0 σM σC : Sg} {q : Int32} (R : ActR i b m K σM0 σC0 σM σC) (hK : K < 30) (bo : Int32) {kM kC : Sg → Option (Int32 × Sg)} (h : ∀ σM' σC', ActR i b m (K + 1) σM0 σC0 σM' σC' → σM' 0 39 = σM 0 39 → Res i b m L σM0 σC0 q (kM σM') (kC σC')) :
    Res i b m L σM0 σC0 q (Option.bind (f_X12_runs bo σM) kM) (Option.bind (beginG (3 + i) bo σC) kC) := by
  obtain ⟨⟨r1, r2, r3⟩, ⟨r4, r5⟩, ⟨c, c1, c2, c3, c4⟩, r6, ⟨r7, r8⟩, r9⟩ := id R
  unfold f_X12_runs beginG f_X12_runs_b26
  rcases r6 with ⟨p1, p2⟩ | ⟨p1, p2⟩
  · have l30 : ¬ (30 : Int32) ≤ nI c := nI_ge (b := 30) (by omega) (by decide)
    rw [if_neg (show ¬ ¬ σM 0 39 = 0 from fun z => z p1), if_neg (show ¬ ¬ σC (3 + i) 4 = 0 from fun z => z p2), c2, c3, if_neg l30, if_neg l30, wr_nI (by omega) (by decide), wr_nI (by omega) (by decide), bnd_some, bnd_some, lt_ap, lt_ap, upS_nj (j := 35) (by omega), upS_nj (q := 3 + i) (j := 3) (by omega), c2, c3, nI_1, bnd_some, bnd_some]
    refine h _ _ ⟨⟨?_, ?_, ?_⟩, ⟨?_, ?_⟩, ⟨c + 1, by omega, upS_at, upS_at, fun j hj => ?_⟩, Or.inl ⟨?_, ?_⟩, ⟨fun p a b => by rw [upS_ne a, upS_ne b]; exact r7 p a b, fun j a b => by rw [upS_nj (by omega), upS_nj (by omega)]; exact r8 j a b⟩, fun p a b => by rw [upS_ne b, upS_ne a]; exact r9 p a b⟩ ?_
    · rw [upS_nj (by omega), upS_nj (by omega)]; exact r1
    · rw [upS_nj (by omega), upS_nj (by omega)]; exact r2
    · rw [upS_nj (by omega), upS_nj (by omega)]; exact r3
    · rw [upS_nj (by omega), upS_nj (by omega)]; exact r4
    · rw [upS_nj (by omega), upS_nj (by omega)]; exact r5
    · rw [upS_ne (q := 1) (by omega), upS_ne (q := 16) (by omega)]
      by_cases e : j = c
      · subst e
        rw [upS_at, upS_at]
      · rw [upS_nj (by omega), upS_nj (by omega)]
        exact c4 j (by omega)
    · rw [upS_nj (by omega), upS_nj (by omega)]; exact p1
    · rw [upS_nj (by omega), upS_nj (by omega)]; exact p2
    · rw [upS_nj (by omega), upS_nj (by omega)]
  · rw [if_pos (by rw [p1]; decide), if_pos (by rw [p2]; decide), bnd_some, bnd_some]
    exact h _ _ (R.up (by omega)) rfl
theorem act_call {i b m K L : Nat} {σM0 σC0 : Sg} {q : Int32} {mM mC : Option (Int32 × Sg)} {kM kC : Int32 → Sg → Option (Int32 × Sg)} (h1 : Res i b m K σM0 σC0 q mM mC) (h2 : ∀ x y σM' σC', ActR i b m K σM0 σC0 σM' σC' → (σM' 0 39 = 0 → q = 0 ∧ x = y) → Res i b m L σM0 σC0 q (kM x σM') (kC y σC')) :
    Res i b m L σM0 σC0 q (bd2 mM kM) (bd2 mC kC) := by
  obtain ⟨x, y, σM', σC', e1, e2, h3, h4⟩ := h1
  rw [e1, e2, bd2_some, bd2_some]
  exact h2 x y σM' σC' h4 h3
theorem bd2_bind {α : Type} (m : Option α) (f : α → Option (Int32 × Sg)) (k : Int32 → Sg → Option (Int32 × Sg)) : bd2 (Option.bind m f) k = Option.bind m (fun z => bd2 (f z) k) := by cases m <;> rfl
theorem bd2_bd2 (m : Option (Int32 × Sg)) (f : Int32 → Sg → Option (Int32 × Sg)) (k : Int32 → Sg → Option (Int32 × Sg)) : bd2 (bd2 m f) k = bd2 m (fun x z => bd2 (f x z) k) := by cases m <;> rfl
theorem bd2_id (m : Option (Int32 × Sg)) : (bd2 m fun x z => some (x, z)) = m := by cases m <;> rfl
theorem begin_p {p : Nat} {bo : Int32} {σ : Sg} (h : σ p 4 = 1) : beginG p bo σ = some σ := by
  unfold beginG
  rw [if_pos (by rw [h]; decide)]
theorem sub6 : ∀ b, b < 6 → ∀ m, m < 6 → (nI b - nI m = 0 ↔ nI b = nI m) := by decide +kernel
section AC
variable {b m K L : Nat} {σM0 σC0 σM σC : Sg}

theorem fl_0 (R : ActR 0 b m K σM0 σC0 σM σC) (hK : K + 2 ≤ 30) (hL : K + 1 ≤ L) (x y : Int32) (hx : σM 0 39 = 0 → x = y) : Res 0 b m L σM0 σC0 (σM 0 39) (f_X12_flies x σM) (f_X4_flies_p3 y σC) := by
  unfold f_X12_flies f_X12_flies_b14 f_X12_flies_b28 f_X4_flies_p3
  rw [R.1.2.2, if_pos (show ¬ nI 0 = (1 : Int32) by decide), if_pos (show ¬ nI 0 = (3 : Int32) by decide)]
  refine act_run R (by omega) 10 (fun σ1 τ1 R1 e1 => ?_)
  rw [R1.1.2.2, lt_ap, if_pos (show ¬ nI 0 = (1 : Int32) by decide), if_pos (show ¬ nI 0 = (3 : Int32) by decide), R1.1.1, R1.2.1.1]
  exact act_ret R1 (by omega) (fun z => ⟨by rw [← e1]; exact z, by rw [hx (by rw [← e1]; exact z)]⟩)
theorem fl_1 (R : ActR 1 b m K σM0 σC0 σM σC) (hK : K + 2 ≤ 30) (hL : K + 2 ≤ L) (x y : Int32) (hx : σM 0 39 = 0 → x = y) : Res 1 b m L σM0 σC0 (σM 0 39) (f_X12_flies x σM) (f_X7_flies_p4 y σC) := by
  unfold f_X12_flies f_X12_flies_b14 f_X12_flies_b28 f_X7_flies_p4 f_X4_flies_p4
  simp only [bd2_bind, bd2_some]
  rw [R.1.2.2, if_neg (show ¬ ¬ nI 1 = (1 : Int32) from fun z => z rfl)]
  refine act_run R (by omega) 20 (fun σ1 τ1 R1 e1 => ?_)
  rw [R1.1.2.2, if_pos (show ¬ nI 1 = (3 : Int32) by decide)]
  refine act_run R1 (by omega) 10 (fun σ2 τ2 R2 e2 => ?_)
  rw [R2.1.2.2, lt_ap, if_neg (show ¬ ¬ nI 1 = (1 : Int32) from fun z => z rfl), R2.1.1, R2.2.1.1]
  exact act_ret R2 (by omega) (fun z => ⟨by rw [← e1, ← e2]; exact z, by rw [hx (by rw [← e1, ← e2]; exact z)]⟩)
theorem fl_2 (R : ActR 2 b m K σM0 σC0 σM σC) (hK : K + 2 ≤ 30) (hL : K + 1 ≤ L) (x y : Int32) (hx : σM 0 39 = 0 → x = y) : Res 2 b m L σM0 σC0 (σM 0 39) (f_X12_flies x σM) (f_X4_flies_p5 y σC) := by
  unfold f_X12_flies f_X12_flies_b14 f_X12_flies_b28 f_X4_flies_p5
  rw [R.1.2.2, if_pos (show ¬ nI 2 = (1 : Int32) by decide), if_pos (show ¬ nI 2 = (3 : Int32) by decide)]
  refine act_run R (by omega) 10 (fun σ1 τ1 R1 e1 => ?_)
  rw [R1.1.2.2, lt_ap, if_pos (show ¬ nI 2 = (1 : Int32) by decide), if_pos (show ¬ nI 2 = (3 : Int32) by decide), R1.1.1, R1.2.1.1]
  exact act_ret R1 (by omega) (fun z => ⟨by rw [← e1]; exact z, by rw [hx (by rw [← e1]; exact z)]⟩)
theorem fl_3 (R : ActR 3 b m K σM0 σC0 σM σC) (hK : K + 2 ≤ 30) (hL : K + 2 ≤ L) (x y : Int32) (hx : σM 0 39 = 0 → x = y) : Res 3 b m L σM0 σC0 (σM 0 39) (f_X12_flies x σM) (f_X3_flies_p6 y σC) := by
  unfold f_X12_flies f_X12_flies_b14 f_X12_flies_b28 f_X3_flies_p6 f_X4_flies_p6
  simp only [bd2_bind, bd2_some]
  rw [R.1.2.2, if_pos (show ¬ nI 3 = (1 : Int32) by decide), if_neg (show ¬ ¬ nI 3 = (3 : Int32) from fun z => z rfl)]
  refine act_run R (by omega) 50 (fun σ1 τ1 R1 e1 => ?_)
  refine act_run R1 (by omega) 10 (fun σ2 τ2 R2 e2 => ?_)
  rw [R2.1.2.2, lt_ap, if_pos (show ¬ nI 3 = (1 : Int32) by decide), if_neg (show ¬ ¬ nI 3 = (3 : Int32) from fun z => z rfl), R2.1.1, R2.2.1.1]
  exact act_ret R2 (by omega) (fun z => ⟨by rw [← e1, ← e2]; exact z, by rw [hx (by rw [← e1, ← e2]; exact z)]⟩)
theorem fl_4 (R : ActR 4 b m K σM0 σC0 σM σC) (hK : K + 2 ≤ 30) (hL : K + 1 ≤ L) (x y : Int32) (hx : σM 0 39 = 0 → x = y) : Res 4 b m L σM0 σC0 (σM 0 39) (f_X12_flies x σM) (f_X4_flies_p7 y σC) := by
  unfold f_X12_flies f_X12_flies_b14 f_X12_flies_b28 f_X4_flies_p7
  rw [R.1.2.2, if_pos (show ¬ nI 4 = (1 : Int32) by decide), if_pos (show ¬ nI 4 = (3 : Int32) by decide)]
  refine act_run R (by omega) 10 (fun σ1 τ1 R1 e1 => ?_)
  rw [R1.1.2.2, lt_ap, if_pos (show ¬ nI 4 = (1 : Int32) by decide), if_pos (show ¬ nI 4 = (3 : Int32) by decide), R1.1.1, R1.2.1.1]
  exact act_ret R1 (by omega) (fun z => ⟨by rw [← e1]; exact z, by rw [hx (by rw [← e1]; exact z)]⟩)
theorem fl_5 (R : ActR 5 b m K σM0 σC0 σM σC) (hK : K + 2 ≤ 30) (hL : K + 1 ≤ L) (x y : Int32) (hx : σM 0 39 = 0 → x = y) : Res 5 b m L σM0 σC0 (σM 0 39) (f_X12_flies x σM) (f_X4_flies_p8 y σC) := by
  unfold f_X12_flies f_X12_flies_b14 f_X12_flies_b28 f_X4_flies_p8
  rw [R.1.2.2, if_pos (show ¬ nI 5 = (1 : Int32) by decide), if_pos (show ¬ nI 5 = (3 : Int32) by decide)]
  refine act_run R (by omega) 10 (fun σ1 τ1 R1 e1 => ?_)
  rw [R1.1.2.2, lt_ap, if_pos (show ¬ nI 5 = (1 : Int32) by decide), if_pos (show ¬ nI 5 = (3 : Int32) by decide), R1.1.1, R1.2.1.1]
  exact act_ret R1 (by omega) (fun z => ⟨by rw [← e1]; exact z, by rw [hx (by rw [← e1]; exact z)]⟩)
theorem rd_0 (R : ActR 0 b m K σM0 σC0 σM σC) (hK : K + 6 ≤ 30) (hL : K + 2 ≤ L) (x y : Int32) (hx : σM 0 39 = 0 → x = y) : Res 0 b m L σM0 σC0 (σM 0 39) (f_X12_reads x σM) (f_X4_reads_p3 y σC) := by
  unfold f_X12_reads f_X12_reads_b21 f_X12_reads_b32 f_X12_reads_b46 f_X12_reads_b67 f_X4_reads_p3
  rw [R.1.2.2, if_neg (show ¬ nI 0 = (2 : Int32) by decide), if_pos (show ¬ nI 0 = (3 : Int32) by decide), if_pos (show (0 : Int32) = 0 from rfl), if_pos (show ¬ nI 0 = (5 : Int32) by decide)]
  refine act_run R (by omega) 11 (fun σ2 τ2 R2 e2 => ?_)
  rw [if_pos (show (0 : Int32) = 0 from rfl)]
  refine act_call (K := L) (q := σM 0 39) (by rw [← e2]; exact fl_0 R2 (by omega) (by omega) _ _ (fun z => hx (by rw [← e2]; exact z))) (fun v w σ3 τ3 R3 e3 => ?_)
  rw [lt_ap, R3.1.2.2, if_pos (show ¬ nI 0 = (5 : Int32) by decide), R3.1.2.1, R3.2.1.2]
  exact act_ret R3 (Nat.le_refl _) (fun z => ⟨(e3 z).1, by rw [(e3 z).2]⟩)
theorem rd_1 (R : ActR 1 b m K σM0 σC0 σM σC) (hK : K + 6 ≤ 30) (hL : K + 3 ≤ L) (x y : Int32) (hx : σM 0 39 = 0 → x = y) : Res 1 b m L σM0 σC0 (σM 0 39) (f_X12_reads x σM) (f_X4_reads_p4 y σC) := by
  unfold f_X12_reads f_X12_reads_b21 f_X12_reads_b32 f_X12_reads_b46 f_X12_reads_b67 f_X4_reads_p4
  rw [R.1.2.2, if_neg (show ¬ nI 1 = (2 : Int32) by decide), if_pos (show ¬ nI 1 = (3 : Int32) by decide), if_pos (show (0 : Int32) = 0 from rfl), if_pos (show ¬ nI 1 = (5 : Int32) by decide)]
  refine act_run R (by omega) 11 (fun σ2 τ2 R2 e2 => ?_)
  rw [if_pos (show (0 : Int32) = 0 from rfl)]
  refine act_call (K := L) (q := σM 0 39) (by rw [← e2]; exact fl_1 R2 (by omega) (by omega) _ _ (fun z => hx (by rw [← e2]; exact z))) (fun v w σ3 τ3 R3 e3 => ?_)
  rw [lt_ap, R3.1.2.2, if_pos (show ¬ nI 1 = (5 : Int32) by decide), R3.1.2.1, R3.2.1.2]
  exact act_ret R3 (Nat.le_refl _) (fun z => ⟨(e3 z).1, by rw [(e3 z).2]⟩)
theorem rd_2 (R : ActR 2 b m K σM0 σC0 σM σC) (hK : K + 6 ≤ 30) (hL : K + 3 ≤ L) (x y : Int32) (hx : σM 0 39 = 0 → x = y) : Res 2 b m L σM0 σC0 (σM 0 39) (f_X12_reads x σM) (f_X2_reads_p5 y σC) := by
  unfold f_X12_reads f_X12_reads_b21 f_X12_reads_b32 f_X12_reads_b46 f_X12_reads_b67 f_X2_reads_p5 f_X4_reads_p5
  simp only [bd2_bind, bd2_bd2, bd2_some]
  rw [R.1.2.2, if_pos (show nI 2 = (2 : Int32) from rfl), if_neg (show ¬ (1 : Int32) = 0 by decide)]
  refine act_run R (by omega) 30 (fun σ1 τ1 R1 e1 => ?_)
  rw [R1.1.2.2, if_pos (show ¬ nI 2 = (5 : Int32) by decide)]
  refine act_run R1 (by omega) 11 (fun σ2 τ2 R2 e2 => ?_)
  rw [if_neg (show ¬ (1 : Int32) = 0 by decide), R2.1.1, R1.2.1.1]
  refine act_call (K := L) (q := σM 0 39) (by rw [← e1, ← e2]; exact fl_2 R2 (by omega) (by omega) _ _ (fun z => by rw [hx (by rw [← e1, ← e2]; exact z)])) (fun v w σ3 τ3 R3 e3 => ?_)
  rw [lt_ap, R3.1.2.2, if_pos (show ¬ nI 2 = (5 : Int32) by decide), R3.1.2.1, R3.2.1.2]
  exact act_ret R3 (Nat.le_refl _) (fun z => ⟨(e3 z).1, by rw [(e3 z).2]⟩)
theorem rd_3 (R : ActR 3 b m K σM0 σC0 σM σC) (hK : K + 6 ≤ 30) (hL : K + 4 ≤ L) (x y : Int32) (hx : σM 0 39 = 0 → x = y) : Res 3 b m L σM0 σC0 (σM 0 39) (f_X12_reads x σM) (f_X2_reads_p6 y σC) := by
  unfold f_X12_reads f_X12_reads_b21 f_X12_reads_b32 f_X12_reads_b46 f_X12_reads_b67 f_X2_reads_p6 f_X4_reads_p6
  simp only [bd2_bind, bd2_bd2, bd2_some]
  rw [R.1.2.2, if_neg (show ¬ nI 3 = (2 : Int32) by decide), if_neg (show ¬ ¬ nI 3 = (3 : Int32) from fun z => z rfl), if_neg (show ¬ (1 : Int32) = 0 by decide)]
  refine act_run R (by omega) 30 (fun σ1 τ1 R1 e1 => ?_)
  rw [R1.1.2.2, if_pos (show ¬ nI 3 = (5 : Int32) by decide)]
  refine act_run R1 (by omega) 11 (fun σ2 τ2 R2 e2 => ?_)
  rw [if_neg (show ¬ (1 : Int32) = 0 by decide), R2.1.1, R1.2.1.1]
  refine act_call (K := L) (q := σM 0 39) (by rw [← e1, ← e2]; exact fl_3 R2 (by omega) (by omega) _ _ (fun z => by rw [hx (by rw [← e1, ← e2]; exact z)])) (fun v w σ3 τ3 R3 e3 => ?_)
  rw [lt_ap, R3.1.2.2, if_pos (show ¬ nI 3 = (5 : Int32) by decide), R3.1.2.1, R3.2.1.2]
  exact act_ret R3 (Nat.le_refl _) (fun z => ⟨(e3 z).1, by rw [(e3 z).2]⟩)
theorem rd_4 (R : ActR 4 b m K σM0 σC0 σM σC) (hK : K + 6 ≤ 30) (hL : K + 2 ≤ L) (x y : Int32) (hx : σM 0 39 = 0 → x = y) : Res 4 b m L σM0 σC0 (σM 0 39) (f_X12_reads x σM) (f_X4_reads_p7 y σC) := by
  unfold f_X12_reads f_X12_reads_b21 f_X12_reads_b32 f_X12_reads_b46 f_X12_reads_b67 f_X4_reads_p7
  rw [R.1.2.2, if_neg (show ¬ nI 4 = (2 : Int32) by decide), if_pos (show ¬ nI 4 = (3 : Int32) by decide), if_pos (show (0 : Int32) = 0 from rfl), if_pos (show ¬ nI 4 = (5 : Int32) by decide)]
  refine act_run R (by omega) 11 (fun σ2 τ2 R2 e2 => ?_)
  rw [if_pos (show (0 : Int32) = 0 from rfl)]
  refine act_call (K := L) (q := σM 0 39) (by rw [← e2]; exact fl_4 R2 (by omega) (by omega) _ _ (fun z => hx (by rw [← e2]; exact z))) (fun v w σ3 τ3 R3 e3 => ?_)
  rw [lt_ap, R3.1.2.2, if_pos (show ¬ nI 4 = (5 : Int32) by decide), R3.1.2.1, R3.2.1.2]
  exact act_ret R3 (Nat.le_refl _) (fun z => ⟨(e3 z).1, by rw [(e3 z).2]⟩)
theorem rd_5 (R : ActR 5 b m K σM0 σC0 σM σC) (hK : K + 6 ≤ 30) (hL : K + 3 ≤ L) (x y : Int32) (hx : σM 0 39 = 0 → x = y) : Res 5 b m L σM0 σC0 (σM 0 39) (f_X12_reads x σM) (f_X5_reads_p8 y σC) := by
  unfold f_X12_reads f_X12_reads_b21 f_X12_reads_b32 f_X12_reads_b46 f_X12_reads_b67 f_X5_reads_p8 f_X4_reads_p8
  simp only [bd2_bind, bd2_bd2, bd2_some]
  rw [R.1.2.2, if_neg (show ¬ nI 5 = (2 : Int32) by decide), if_pos (show ¬ nI 5 = (3 : Int32) by decide), if_pos trivial, if_neg (show ¬ ¬ nI 5 = (5 : Int32) from fun z => z rfl)]
  refine act_run R (by omega) 60 (fun σ1 τ1 R1 e1 => ?_)
  refine act_run R1 (by omega) 11 (fun σ2 τ2 R2 e2 => ?_)
  rw [if_pos trivial]
  refine act_call (K := L) (q := σM 0 39) (by rw [← e1, ← e2]; exact fl_5 R2 (by omega) (by omega) _ _ (fun z => hx (by rw [← e1, ← e2]; exact z))) (fun v w σ3 τ3 R3 e3 => ?_)
  rw [lt_ap, R3.1.2.2, if_neg (show ¬ ¬ nI 5 = (5 : Int32) from fun z => z rfl), R3.1.2.1, R3.2.1.2]
  exact act_ret R3 (Nat.le_refl _) (fun z => ⟨(e3 z).1, by rw [(e3 z).2]⟩)
theorem pp_0 (hb : b < 6) (hm : m < 6) (R : ActR 0 b m K σM0 σC0 σM σC) (hK : K + 1 ≤ 30) (hL : K + 1 ≤ L) (x : Int32) : Res 0 b m L σM0 σC0 (σM 0 39) (f_X12_plainParts x σM) (f_X4_parts_p3 x σC) := by
  unfold f_X12_plainParts f_X4_parts_p3
  refine act_run R (by omega) 12 (fun σ1 τ1 R1 e1 => ?_)
  have s6 := sub6 b hb m hm
  simp only [lt_ap]
  rw [R1.1.1, R1.1.2.1, show τ1 3 1 = nI b from R1.2.1.1, show τ1 3 2 = nI m from R1.2.1.2]
  by_cases q : nI b = nI m
  · rw [if_neg (show ¬ ¬ nI b = nI m from fun z => z q), if_neg (show ¬ ¬ nI b - nI m = 0 from fun z => z (s6.mpr q))]
    obtain ⟨⟨r1, r2, r3⟩, ⟨r4, r5⟩, ⟨c, c1, c2, c3, c4⟩, r6, ⟨r7, r8⟩, r9⟩ := id R1
    exact ⟨0, 0, _, _, rfl, rfl, fun z => absurd ((upS_at (σ := σ1) (p := 0) (i := 39) (v := 1)).symm.trans z) (by decide), ⟨by rw [upS_nj (by omega)]; exact r1, by rw [upS_nj (by omega)]; exact r2, by rw [upS_nj (by omega)]; exact r3⟩, ⟨by rw [upS_nj (by omega)]; exact r4, by rw [upS_nj (by omega)]; exact r5⟩, ⟨c, by omega, by rw [upS_nj (by omega)]; exact c2, by rw [upS_nj (by omega)]; exact c3, fun j hj => by rw [upS_ne (by decide), upS_ne (by decide)]; exact c4 j hj⟩, Or.inr ⟨upS_at, upS_at⟩, ⟨fun p a b => by rw [upS_ne a]; exact r7 p a b, fun j a b => by rw [upS_nj (by omega)]; exact r8 j a b⟩, fun p a b => by rw [upS_ne b]; exact r9 p a b⟩
  · rw [if_pos (show ¬ nI b = nI m from q), if_pos (show ¬ nI b - nI m = 0 from fun z => q (s6.mp z)), if_neg (show ¬ nI b - nI m = 0 from fun z => q (s6.mp z)), if_neg (show ¬ nI b - nI m = 0 from fun z => q (s6.mp z))]
    exact act_ret R1 (by omega) (fun z => ⟨by rw [← e1]; exact z, rfl⟩)
theorem pp_1 (hb : b < 6) (hm : m < 6) (R : ActR 1 b m K σM0 σC0 σM σC) (hK : K + 1 ≤ 30) (hL : K + 1 ≤ L) (x : Int32) : Res 1 b m L σM0 σC0 (σM 0 39) (f_X12_plainParts x σM) (f_X4_parts_p4 x σC) := by
  unfold f_X12_plainParts f_X4_parts_p4
  refine act_run R (by omega) 12 (fun σ1 τ1 R1 e1 => ?_)
  have s6 := sub6 b hb m hm
  simp only [lt_ap]
  rw [R1.1.1, R1.1.2.1, show τ1 4 1 = nI b from R1.2.1.1, show τ1 4 2 = nI m from R1.2.1.2]
  by_cases q : nI b = nI m
  · rw [if_neg (show ¬ ¬ nI b = nI m from fun z => z q), if_neg (show ¬ ¬ nI b - nI m = 0 from fun z => z (s6.mpr q))]
    obtain ⟨⟨r1, r2, r3⟩, ⟨r4, r5⟩, ⟨c, c1, c2, c3, c4⟩, r6, ⟨r7, r8⟩, r9⟩ := id R1
    exact ⟨0, 0, _, _, rfl, rfl, fun z => absurd ((upS_at (σ := σ1) (p := 0) (i := 39) (v := 1)).symm.trans z) (by decide), ⟨by rw [upS_nj (by omega)]; exact r1, by rw [upS_nj (by omega)]; exact r2, by rw [upS_nj (by omega)]; exact r3⟩, ⟨by rw [upS_nj (by omega)]; exact r4, by rw [upS_nj (by omega)]; exact r5⟩, ⟨c, by omega, by rw [upS_nj (by omega)]; exact c2, by rw [upS_nj (by omega)]; exact c3, fun j hj => by rw [upS_ne (by decide), upS_ne (by decide)]; exact c4 j hj⟩, Or.inr ⟨upS_at, upS_at⟩, ⟨fun p a b => by rw [upS_ne a]; exact r7 p a b, fun j a b => by rw [upS_nj (by omega)]; exact r8 j a b⟩, fun p a b => by rw [upS_ne b]; exact r9 p a b⟩
  · rw [if_pos (show ¬ nI b = nI m from q), if_pos (show ¬ nI b - nI m = 0 from fun z => q (s6.mp z)), if_neg (show ¬ nI b - nI m = 0 from fun z => q (s6.mp z)), if_neg (show ¬ nI b - nI m = 0 from fun z => q (s6.mp z))]
    exact act_ret R1 (by omega) (fun z => ⟨by rw [← e1]; exact z, rfl⟩)
theorem pp_2 (hb : b < 6) (hm : m < 6) (R : ActR 2 b m K σM0 σC0 σM σC) (hK : K + 1 ≤ 30) (hL : K + 1 ≤ L) (x : Int32) : Res 2 b m L σM0 σC0 (σM 0 39) (f_X12_plainParts x σM) (f_X4_parts_p5 x σC) := by
  unfold f_X12_plainParts f_X4_parts_p5
  refine act_run R (by omega) 12 (fun σ1 τ1 R1 e1 => ?_)
  have s6 := sub6 b hb m hm
  simp only [lt_ap]
  rw [R1.1.1, R1.1.2.1, show τ1 5 1 = nI b from R1.2.1.1, show τ1 5 2 = nI m from R1.2.1.2]
  by_cases q : nI b = nI m
  · rw [if_neg (show ¬ ¬ nI b = nI m from fun z => z q), if_neg (show ¬ ¬ nI b - nI m = 0 from fun z => z (s6.mpr q))]
    obtain ⟨⟨r1, r2, r3⟩, ⟨r4, r5⟩, ⟨c, c1, c2, c3, c4⟩, r6, ⟨r7, r8⟩, r9⟩ := id R1
    exact ⟨0, 0, _, _, rfl, rfl, fun z => absurd ((upS_at (σ := σ1) (p := 0) (i := 39) (v := 1)).symm.trans z) (by decide), ⟨by rw [upS_nj (by omega)]; exact r1, by rw [upS_nj (by omega)]; exact r2, by rw [upS_nj (by omega)]; exact r3⟩, ⟨by rw [upS_nj (by omega)]; exact r4, by rw [upS_nj (by omega)]; exact r5⟩, ⟨c, by omega, by rw [upS_nj (by omega)]; exact c2, by rw [upS_nj (by omega)]; exact c3, fun j hj => by rw [upS_ne (by decide), upS_ne (by decide)]; exact c4 j hj⟩, Or.inr ⟨upS_at, upS_at⟩, ⟨fun p a b => by rw [upS_ne a]; exact r7 p a b, fun j a b => by rw [upS_nj (by omega)]; exact r8 j a b⟩, fun p a b => by rw [upS_ne b]; exact r9 p a b⟩
  · rw [if_pos (show ¬ nI b = nI m from q), if_pos (show ¬ nI b - nI m = 0 from fun z => q (s6.mp z)), if_neg (show ¬ nI b - nI m = 0 from fun z => q (s6.mp z)), if_neg (show ¬ nI b - nI m = 0 from fun z => q (s6.mp z))]
    exact act_ret R1 (by omega) (fun z => ⟨by rw [← e1]; exact z, rfl⟩)
theorem pp_3 (hb : b < 6) (hm : m < 6) (R : ActR 3 b m K σM0 σC0 σM σC) (hK : K + 1 ≤ 30) (hL : K + 1 ≤ L) (x : Int32) : Res 3 b m L σM0 σC0 (σM 0 39) (f_X12_plainParts x σM) (f_X4_parts_p6 x σC) := by
  unfold f_X12_plainParts f_X4_parts_p6
  refine act_run R (by omega) 12 (fun σ1 τ1 R1 e1 => ?_)
  have s6 := sub6 b hb m hm
  simp only [lt_ap]
  rw [R1.1.1, R1.1.2.1, show τ1 6 1 = nI b from R1.2.1.1, show τ1 6 2 = nI m from R1.2.1.2]
  by_cases q : nI b = nI m
  · rw [if_neg (show ¬ ¬ nI b = nI m from fun z => z q), if_neg (show ¬ ¬ nI b - nI m = 0 from fun z => z (s6.mpr q))]
    obtain ⟨⟨r1, r2, r3⟩, ⟨r4, r5⟩, ⟨c, c1, c2, c3, c4⟩, r6, ⟨r7, r8⟩, r9⟩ := id R1
    exact ⟨0, 0, _, _, rfl, rfl, fun z => absurd ((upS_at (σ := σ1) (p := 0) (i := 39) (v := 1)).symm.trans z) (by decide), ⟨by rw [upS_nj (by omega)]; exact r1, by rw [upS_nj (by omega)]; exact r2, by rw [upS_nj (by omega)]; exact r3⟩, ⟨by rw [upS_nj (by omega)]; exact r4, by rw [upS_nj (by omega)]; exact r5⟩, ⟨c, by omega, by rw [upS_nj (by omega)]; exact c2, by rw [upS_nj (by omega)]; exact c3, fun j hj => by rw [upS_ne (by decide), upS_ne (by decide)]; exact c4 j hj⟩, Or.inr ⟨upS_at, upS_at⟩, ⟨fun p a b => by rw [upS_ne a]; exact r7 p a b, fun j a b => by rw [upS_nj (by omega)]; exact r8 j a b⟩, fun p a b => by rw [upS_ne b]; exact r9 p a b⟩
  · rw [if_pos (show ¬ nI b = nI m from q), if_pos (show ¬ nI b - nI m = 0 from fun z => q (s6.mp z)), if_neg (show ¬ nI b - nI m = 0 from fun z => q (s6.mp z)), if_neg (show ¬ nI b - nI m = 0 from fun z => q (s6.mp z))]
    exact act_ret R1 (by omega) (fun z => ⟨by rw [← e1]; exact z, rfl⟩)
theorem pp_4 (hb : b < 6) (hm : m < 6) (R : ActR 4 b m K σM0 σC0 σM σC) (hK : K + 1 ≤ 30) (hL : K + 1 ≤ L) (x : Int32) : Res 4 b m L σM0 σC0 (σM 0 39) (f_X12_plainParts x σM) (f_X4_parts_p7 x σC) := by
  unfold f_X12_plainParts f_X4_parts_p7
  refine act_run R (by omega) 12 (fun σ1 τ1 R1 e1 => ?_)
  have s6 := sub6 b hb m hm
  simp only [lt_ap]
  rw [R1.1.1, R1.1.2.1, show τ1 7 1 = nI b from R1.2.1.1, show τ1 7 2 = nI m from R1.2.1.2]
  by_cases q : nI b = nI m
  · rw [if_neg (show ¬ ¬ nI b = nI m from fun z => z q), if_neg (show ¬ ¬ nI b - nI m = 0 from fun z => z (s6.mpr q))]
    obtain ⟨⟨r1, r2, r3⟩, ⟨r4, r5⟩, ⟨c, c1, c2, c3, c4⟩, r6, ⟨r7, r8⟩, r9⟩ := id R1
    exact ⟨0, 0, _, _, rfl, rfl, fun z => absurd ((upS_at (σ := σ1) (p := 0) (i := 39) (v := 1)).symm.trans z) (by decide), ⟨by rw [upS_nj (by omega)]; exact r1, by rw [upS_nj (by omega)]; exact r2, by rw [upS_nj (by omega)]; exact r3⟩, ⟨by rw [upS_nj (by omega)]; exact r4, by rw [upS_nj (by omega)]; exact r5⟩, ⟨c, by omega, by rw [upS_nj (by omega)]; exact c2, by rw [upS_nj (by omega)]; exact c3, fun j hj => by rw [upS_ne (by decide), upS_ne (by decide)]; exact c4 j hj⟩, Or.inr ⟨upS_at, upS_at⟩, ⟨fun p a b => by rw [upS_ne a]; exact r7 p a b, fun j a b => by rw [upS_nj (by omega)]; exact r8 j a b⟩, fun p a b => by rw [upS_ne b]; exact r9 p a b⟩
  · rw [if_pos (show ¬ nI b = nI m from q), if_pos (show ¬ nI b - nI m = 0 from fun z => q (s6.mp z)), if_neg (show ¬ nI b - nI m = 0 from fun z => q (s6.mp z)), if_neg (show ¬ nI b - nI m = 0 from fun z => q (s6.mp z))]
    exact act_ret R1 (by omega) (fun z => ⟨by rw [← e1]; exact z, rfl⟩)
theorem pp_5 (hb : b < 6) (hm : m < 6) (R : ActR 5 b m K σM0 σC0 σM σC) (hK : K + 1 ≤ 30) (hL : K + 1 ≤ L) (x : Int32) : Res 5 b m L σM0 σC0 (σM 0 39) (f_X12_plainParts x σM) (f_X4_parts_p8 x σC) := by
  unfold f_X12_plainParts f_X4_parts_p8
  refine act_run R (by omega) 12 (fun σ1 τ1 R1 e1 => ?_)
  have s6 := sub6 b hb m hm
  simp only [lt_ap]
  rw [R1.1.1, R1.1.2.1, show τ1 8 1 = nI b from R1.2.1.1, show τ1 8 2 = nI m from R1.2.1.2]
  by_cases q : nI b = nI m
  · rw [if_neg (show ¬ ¬ nI b = nI m from fun z => z q), if_neg (show ¬ ¬ nI b - nI m = 0 from fun z => z (s6.mpr q))]
    obtain ⟨⟨r1, r2, r3⟩, ⟨r4, r5⟩, ⟨c, c1, c2, c3, c4⟩, r6, ⟨r7, r8⟩, r9⟩ := id R1
    exact ⟨0, 0, _, _, rfl, rfl, fun z => absurd ((upS_at (σ := σ1) (p := 0) (i := 39) (v := 1)).symm.trans z) (by decide), ⟨by rw [upS_nj (by omega)]; exact r1, by rw [upS_nj (by omega)]; exact r2, by rw [upS_nj (by omega)]; exact r3⟩, ⟨by rw [upS_nj (by omega)]; exact r4, by rw [upS_nj (by omega)]; exact r5⟩, ⟨c, by omega, by rw [upS_nj (by omega)]; exact c2, by rw [upS_nj (by omega)]; exact c3, fun j hj => by rw [upS_ne (by decide), upS_ne (by decide)]; exact c4 j hj⟩, Or.inr ⟨upS_at, upS_at⟩, ⟨fun p a b => by rw [upS_ne a]; exact r7 p a b, fun j a b => by rw [upS_nj (by omega)]; exact r8 j a b⟩, fun p a b => by rw [upS_ne b]; exact r9 p a b⟩
  · rw [if_pos (show ¬ nI b = nI m from q), if_pos (show ¬ nI b - nI m = 0 from fun z => q (s6.mp z)), if_neg (show ¬ nI b - nI m = 0 from fun z => q (s6.mp z)), if_neg (show ¬ nI b - nI m = 0 from fun z => q (s6.mp z))]
    exact act_ret R1 (by omega) (fun z => ⟨by rw [← e1]; exact z, rfl⟩)
theorem pt_0 (hb : b < 6) (hm : m < 6) (R : ActR 0 b m K σM0 σC0 σM σC) (hK : K + 6 ≤ 30) (hL : K + 1 ≤ L) (x : Int32) : Res 0 b m L σM0 σC0 (σM 0 39) (f_X12_parts x σM) (f_X4_parts_p3 x σC) := by
  unfold f_X12_parts
  rw [R.1.2.2, if_pos (show ¬ nI 0 = (4 : Int32) by decide), if_pos (show ¬ nI 0 = (5 : Int32) by decide), bd2_id]
  exact pp_0 hb hm R (by omega) hL x
theorem pt_1 (hb : b < 6) (hm : m < 6) (R : ActR 1 b m K σM0 σC0 σM σC) (hK : K + 6 ≤ 30) (hL : K + 1 ≤ L) (x : Int32) : Res 1 b m L σM0 σC0 (σM 0 39) (f_X12_parts x σM) (f_X4_parts_p4 x σC) := by
  unfold f_X12_parts
  rw [R.1.2.2, if_pos (show ¬ nI 1 = (4 : Int32) by decide), if_pos (show ¬ nI 1 = (5 : Int32) by decide), bd2_id]
  exact pp_1 hb hm R (by omega) hL x
theorem pt_2 (hb : b < 6) (hm : m < 6) (R : ActR 2 b m K σM0 σC0 σM σC) (hK : K + 6 ≤ 30) (hL : K + 1 ≤ L) (x : Int32) : Res 2 b m L σM0 σC0 (σM 0 39) (f_X12_parts x σM) (f_X4_parts_p5 x σC) := by
  unfold f_X12_parts
  rw [R.1.2.2, if_pos (show ¬ nI 2 = (4 : Int32) by decide), if_pos (show ¬ nI 2 = (5 : Int32) by decide), bd2_id]
  exact pp_2 hb hm R (by omega) hL x
theorem pt_3 (hb : b < 6) (hm : m < 6) (R : ActR 3 b m K σM0 σC0 σM σC) (hK : K + 6 ≤ 30) (hL : K + 1 ≤ L) (x : Int32) : Res 3 b m L σM0 σC0 (σM 0 39) (f_X12_parts x σM) (f_X4_parts_p6 x σC) := by
  unfold f_X12_parts
  rw [R.1.2.2, if_pos (show ¬ nI 3 = (4 : Int32) by decide), if_pos (show ¬ nI 3 = (5 : Int32) by decide), bd2_id]
  exact pp_3 hb hm R (by omega) hL x
theorem pt_4 (hb : b < 6) (hm : m < 6) (R : ActR 4 b m K σM0 σC0 σM σC) (hK : K + 6 ≤ 30) (hL : K + 2 ≤ L) (x : Int32) : Res 4 b m L σM0 σC0 (σM 0 39) (f_X12_parts x σM) (f_X0_parts_p7 x σC) := by
  unfold f_X12_parts f_X0_parts_p7
  rw [R.1.2.2, if_neg (show ¬ ¬ nI 4 = (4 : Int32) from fun z => z rfl)]
  refine act_run R (by omega) 40 (fun σ1 τ1 R1 e1 => ?_)
  refine act_call (K := L) (q := σM 0 39) (by rw [← e1]; exact pp_4 hb hm R1 (by omega) (by omega) x) (fun v w σ3 τ3 R3 e3 => ?_)
  exact act_ret R3 (Nat.le_refl _) (fun z => ⟨(e3 z).1, by rw [(e3 z).2]⟩)
theorem pt_5 (hb : b < 6) (hm : m < 6) (R : ActR 5 b m K σM0 σC0 σM σC) (hK : K + 6 ≤ 30) (hL : K + 4 ≤ L) (x : Int32) : Res 5 b m L σM0 σC0 (σM 0 39) (f_X12_parts x σM) (f_X5_parts_p8 x σC) := by
  unfold f_X12_parts f_X5_parts_p8 f_X0_parts_p8
  simp only [bd2_bind, bd2_bd2, bd2_some]
  rw [R.1.2.2, if_pos (show ¬ nI 5 = (4 : Int32) by decide), if_neg (show ¬ ¬ nI 5 = (5 : Int32) from fun z => z rfl)]
  refine act_run R (by omega) 61 (fun σ1 τ1 R1 e1 => ?_)
  refine act_run R1 (by omega) 40 (fun σ2 τ2 R2 e2 => ?_)
  refine act_call (K := K + 3) (q := σM 0 39) (by rw [← e1, ← e2]; exact pp_5 hb hm R2 (by omega) (by omega) x) (fun v w σ3 τ3 R3 e3 => ?_)
  rw [lt_ap, R3.1.1, R3.2.1.1]
  rcases R3.2.2.2.1 with ⟨p1, p2⟩ | ⟨p1, p2⟩
  · rw [if_pos p1]
    refine act_call (K := L) (q := σM 0 39) (by rw [(e3 p1).1, ← p1]; exact fl_5 R3 (by omega) (by omega) _ _ (fun _ => rfl)) (fun v' w' σ4 τ4 R4 e4 => ?_)
    exact act_ret R4 (Nat.le_refl _) (fun z => ⟨(e4 z).1, by rw [(e4 z).2, (e3 p1).2]⟩)
  · rw [if_neg (show ¬ σ3 0 39 = 0 by rw [p1]; decide)]
    unfold f_X4_flies_p8
    rw [show f_X4_begin_p8 10 τ3 = some τ3 from begin_p (p := 8) p2, bnd_some, bd2_some]
    exact act_ret R3 (by omega) (fun z => absurd (p1.symm.trans z) (by decide))
theorem cll_0 (hb : b < 6) (hm : m < 6) (R : ActR 0 b m 0 σM0 σC0 σM σC) (x : Int32) : Res 0 b m 30 σM0 σC0 (σM 0 39) (f_X12_calls x σM) (f_X4_calls_p3 x σC) := by
  unfold f_X12_calls f_X12_calls_b14 f_X4_calls_p3
  rw [R.1.2.2, if_pos (show ¬ nI 0 = (3 : Int32) by decide)]
  refine act_run R (by omega) 13 (fun σ1 τ1 R1 e1 => ?_)
  refine act_call (K := 6) (q := σM 0 39) (by rw [← e1]; exact rd_0 R1 (by omega) (by omega) _ _ (fun _ => rfl)) (fun v w σ2 τ2 R2 e2 => ?_)
  obtain ⟨v', w', σ3, τ3, f1, f2, e3, R3⟩ := pt_0 (L := 30) hb hm R2 (by omega) (by omega) x
  rw [f1, f2, bd2_some, bd2_some, lt_ap, R3.1.2.2, if_pos (show ¬ nI 0 = (3 : Int32) by decide)]
  exact act_ret R3 (by omega) (fun z => ⟨(e2 (e3 z).1).1, by rw [(e3 z).2, (e2 (e3 z).1).2]⟩)
theorem cll_1 (hb : b < 6) (hm : m < 6) (R : ActR 1 b m 0 σM0 σC0 σM σC) (x : Int32) : Res 1 b m 30 σM0 σC0 (σM 0 39) (f_X12_calls x σM) (f_X4_calls_p4 x σC) := by
  unfold f_X12_calls f_X12_calls_b14 f_X4_calls_p4
  rw [R.1.2.2, if_pos (show ¬ nI 1 = (3 : Int32) by decide)]
  refine act_run R (by omega) 13 (fun σ1 τ1 R1 e1 => ?_)
  refine act_call (K := 6) (q := σM 0 39) (by rw [← e1]; exact rd_1 R1 (by omega) (by omega) _ _ (fun _ => rfl)) (fun v w σ2 τ2 R2 e2 => ?_)
  obtain ⟨v', w', σ3, τ3, f1, f2, e3, R3⟩ := pt_1 (L := 30) hb hm R2 (by omega) (by omega) x
  rw [f1, f2, bd2_some, bd2_some, lt_ap, R3.1.2.2, if_pos (show ¬ nI 1 = (3 : Int32) by decide)]
  exact act_ret R3 (by omega) (fun z => ⟨(e2 (e3 z).1).1, by rw [(e3 z).2, (e2 (e3 z).1).2]⟩)
theorem cll_2 (hb : b < 6) (hm : m < 6) (R : ActR 2 b m 0 σM0 σC0 σM σC) (x : Int32) : Res 2 b m 30 σM0 σC0 (σM 0 39) (f_X12_calls x σM) (f_X4_calls_p5 x σC) := by
  unfold f_X12_calls f_X12_calls_b14 f_X4_calls_p5
  rw [R.1.2.2, if_pos (show ¬ nI 2 = (3 : Int32) by decide)]
  refine act_run R (by omega) 13 (fun σ1 τ1 R1 e1 => ?_)
  refine act_call (K := 6) (q := σM 0 39) (by rw [← e1]; exact rd_2 R1 (by omega) (by omega) _ _ (fun _ => rfl)) (fun v w σ2 τ2 R2 e2 => ?_)
  obtain ⟨v', w', σ3, τ3, f1, f2, e3, R3⟩ := pt_2 (L := 30) hb hm R2 (by omega) (by omega) x
  rw [f1, f2, bd2_some, bd2_some, lt_ap, R3.1.2.2, if_pos (show ¬ nI 2 = (3 : Int32) by decide)]
  exact act_ret R3 (by omega) (fun z => ⟨(e2 (e3 z).1).1, by rw [(e3 z).2, (e2 (e3 z).1).2]⟩)
theorem cll_3 (hb : b < 6) (hm : m < 6) (R : ActR 3 b m 0 σM0 σC0 σM σC) (x : Int32) : Res 3 b m 30 σM0 σC0 (σM 0 39) (f_X12_calls x σM) (f_X3_calls_p6 x σC) := by
  unfold f_X12_calls f_X12_calls_b14 f_X3_calls_p6 f_X4_calls_p6
  simp only [bd2_bind, bd2_bd2, bd2_some]
  rw [R.1.2.2, if_neg (show ¬ ¬ nI 3 = (3 : Int32) from fun z => z rfl)]
  refine act_run R (by omega) 51 (fun σ0 τ0 R0 e0 => ?_)
  refine act_run R0 (by omega) 13 (fun σ1 τ1 R1 e1 => ?_)
  refine act_call (K := 6) (q := σM 0 39) (by rw [← e0, ← e1]; exact rd_3 R1 (by omega) (by omega) _ _ (fun _ => rfl)) (fun v w σ2 τ2 R2 e2 => ?_)
  obtain ⟨v', w', σ3, τ3, f1, f2, e3, R3⟩ := pt_3 (L := 7) hb hm R2 (by omega) (by omega) x
  rw [f1, show f_X4_parts_p6 x τ2 = some (w', τ3) from f2, bd2_some, bd2_some, lt_ap, R3.1.2.2, if_neg (show ¬ ¬ nI 3 = (3 : Int32) from fun z => z rfl), R3.1.1, R3.2.1.1]
  rcases R3.2.2.2.1 with ⟨p1, p2⟩ | ⟨p1, p2⟩
  · obtain ⟨a1, a2⟩ := e3 p1
    rw [if_neg (fun z => z p1)]
    refine act_call (K := 30) (q := σM 0 39) (by rw [(e2 a1).1, ← p1]; exact rd_3 R3 (by omega) (by omega) _ _ (fun _ => rfl)) (fun v4 w4 σ4 τ4 R4 e4 => ?_)
    exact act_ret R4 (Nat.le_refl _) (fun z => ⟨(e4 z).1, by rw [(e4 z).2, a2, (e2 a1).2]⟩)
  · rw [if_pos (show ¬ σ3 0 39 = 0 by rw [p1]; decide)]
    unfold f_X2_reads_p6 f_X4_reads_p6 f_X3_flies_p6 f_X4_flies_p6
    have bp : ∀ bo, f_X4_begin_p6 bo τ3 = some τ3 := fun bo => begin_p (p := 6) p2
    simp only [bp, bnd_some, bd2_some]
    exact act_ret R3 (by omega) (fun z => absurd (p1.symm.trans z) (by decide))
theorem cll_4 (hb : b < 6) (hm : m < 6) (R : ActR 4 b m 0 σM0 σC0 σM σC) (x : Int32) : Res 4 b m 30 σM0 σC0 (σM 0 39) (f_X12_calls x σM) (f_X4_calls_p7 x σC) := by
  unfold f_X12_calls f_X12_calls_b14 f_X4_calls_p7
  rw [R.1.2.2, if_pos (show ¬ nI 4 = (3 : Int32) by decide)]
  refine act_run R (by omega) 13 (fun σ1 τ1 R1 e1 => ?_)
  refine act_call (K := 6) (q := σM 0 39) (by rw [← e1]; exact rd_4 R1 (by omega) (by omega) _ _ (fun _ => rfl)) (fun v w σ2 τ2 R2 e2 => ?_)
  obtain ⟨v', w', σ3, τ3, f1, f2, e3, R3⟩ := pt_4 (L := 30) hb hm R2 (by omega) (by omega) x
  rw [f1, f2, bd2_some, bd2_some, lt_ap, R3.1.2.2, if_pos (show ¬ nI 4 = (3 : Int32) by decide)]
  exact act_ret R3 (by omega) (fun z => ⟨(e2 (e3 z).1).1, by rw [(e3 z).2, (e2 (e3 z).1).2]⟩)
theorem cll_5 (hb : b < 6) (hm : m < 6) (R : ActR 5 b m 0 σM0 σC0 σM σC) (x : Int32) : Res 5 b m 30 σM0 σC0 (σM 0 39) (f_X12_calls x σM) (f_X4_calls_p8 x σC) := by
  unfold f_X12_calls f_X12_calls_b14 f_X4_calls_p8
  rw [R.1.2.2, if_pos (show ¬ nI 5 = (3 : Int32) by decide)]
  refine act_run R (by omega) 13 (fun σ1 τ1 R1 e1 => ?_)
  refine act_call (K := 6) (q := σM 0 39) (by rw [← e1]; exact rd_5 R1 (by omega) (by omega) _ _ (fun _ => rfl)) (fun v w σ2 τ2 R2 e2 => ?_)
  obtain ⟨v', w', σ3, τ3, f1, f2, e3, R3⟩ := pt_5 (L := 30) hb hm R2 (by omega) (by omega) x
  rw [f1, f2, bd2_some, bd2_some, lt_ap, R3.1.2.2, if_pos (show ¬ nI 5 = (3 : Int32) by decide)]
  exact act_ret R3 (by omega) (fun z => ⟨(e2 (e3 z).1).1, by rw [(e3 z).2, (e2 (e3 z).1).2]⟩)
end AC
