/-! the new object, as a world of places -/
def adC0 (h0 : Nat) (u : Nat → Nat) : Nat → Nat := fun k => ([h0, u 0, u 1, u 31, u 32, u 33, u 34, u 35, u 36, u 26, u 27, u 28, u 29, u 30, u 16, u 17, u 18, u 19, u 20, u 21, u 22, u 23, u 24, u 25, u 37, u 38, u 39, u 40, u 41, u 42, u 43, u 44, u 45, u 46, u 47, u 48, u 49, u 50, u 51, u 52, u 53, u 54, u 55, u 56, u 57, u 58, u 59, u 60, u 61, u 62, u 63, u 64, u 65, u 66, u 67, u 68, u 69, u 70, u 71, u 72, u 73, u 74, u 75, u 76, u 13, u 14, u 15, u 2, u 3, u 4, u 5, u 6, u 7, u 8, u 9, u 10, u 11, u 12, u 77, u 78, u 79, u 80, u 81, u 82, u 83, u 84, u 85, u 86, u 87, u 88, u 89, u 90, u 91, u 92, u 93, u 94, u 95] : List Nat).getD k 0
def σ0C : Sg := fun k => if k = 9 then (fun k => if k < 4 then (-1) else (fun _ => 0) k) else if k = 11 then (fun k => if k < 4 then 2 else (fun _ => 0) k) else if k = 24 then (fun i => ([0, 0, 12, 1, 0, 0, 0, 0, 0, 0, 0, 0, 0, 0, 0, 0] : List Int32).getD i 0) else if k = 27 then (fun k => if k < 16 then 4 else (fun _ => 0) k) else if k = 29 then (fun k => if k < 6 then 3 else (fun _ => 0) k) else if k = 44 then (fun i => ([0, 0, 12, 1, 0, 0, 0, 0, 0, 0, 0, 0, 0, 0, 0, 0] : List Int32).getD i 0) else if k = 47 then (fun k => if k < 16 then 4 else (fun _ => 0) k) else if k = 49 then (fun k => if k < 6 then 3 else (fun _ => 0) k) else if k = 67 then (fun i => ([0, 0, 0, 0, 0, 0, (-1), 0] : List Int32).getD i 0) else if k = 78 then (fun i => ([0, 0, 0, 0, 0, 0, 0, (-3), 0, 0, 0] : List Int32).getD i 0) else (fun _ => 0)
def posC : List Nat := [0, 1, 2, 32, 33, 34, 35, 36, 37, 27, 28, 29, 30, 31, 17, 18, 19, 20, 21, 22, 23, 24, 25, 26, 38, 39, 40, 41, 42, 43, 44, 45, 46, 47, 48, 49, 50, 51, 52, 53, 54, 55, 56, 57, 58, 59, 60, 61, 62, 63, 64, 65, 66, 67, 68, 69, 70, 71, 72, 73, 74, 75, 76, 77, 14, 15, 16, 3, 4, 5, 6, 7, 8, 9, 10, 11, 12, 13, 78, 79, 80, 81, 82, 83, 84, 85, 86, 87, 88, 89, 90, 91, 92, 93, 94, 95, 96]
theorem r_refs {c : ClassId} {n : Nat} {f g : Nat → Option Nat} (h : ∀ j, j < n → f j = g j) : vp_cell c (n, .inr (.inr (.inr (.inr f)))) = vp_cell c (n, .inr (.inr (.inr (.inr g)))) := by
  rw [vp_cell_q, vp_cell_q]
  refine r_ext (fun j hj => ?_)
  show va_rf (f j) = va_rf (g j)
  rw [h j hj]
set_option maxRecDepth 100000 in
set_option maxHeartbeats 8000000 in
theorem w0C {D : va_G} {cy : Cy} {h0 : Nat} {u : Nat → Nat} {H : Heap} (hP : va_P D vwCl (g_X11_init_11 cy h0 u) H) : va_P D vwCl (wG 97 (celC (adC0 h0 u) cy) (adC0 h0 u) σ0C) H := by
  intro k q hk
  obtain ⟨hlt, rfl⟩ := wG_at hk
  clear hk
  match k, hlt with
  | 0, _ => exact hP 0 _ rfl
  | 1, _ => exact hP 1 _ rfl
  | 2, _ => exact (show H[_]? = some (vp_cell _ _) from (show H[_]? = some (vp_cell _ _) from hP 2 _ rfl).trans (congrArg some (r_refs (fun j hj => by rcases (show j = 0 ∨ j = 1 ∨ j = 2 ∨ j = 3 ∨ j = 4 ∨ j = 5 by omega) with rfl | rfl | rfl | rfl | rfl | rfl <;> rfl))))
  | 3, _ => exact hP 32 _ rfl
  | 4, _ => exact hP 33 _ rfl
  | 5, _ => exact hP 34 _ rfl
  | 6, _ => exact hP 35 _ rfl
  | 7, _ => exact hP 36 _ rfl
  | 8, _ => exact hP 37 _ rfl
  | 9, _ => exact hP 27 _ rfl
  | 10, _ => exact hP 28 _ rfl
  | 11, _ => exact hP 29 _ rfl
  | 12, _ => exact hP 30 _ rfl
  | 13, _ => exact hP 31 _ rfl
  | 14, _ => exact (show H[_]? = some (vp_cell _ _) from (show H[_]? = some (vp_cell _ _) from hP 17 _ rfl).trans (congrArg some (r_refs (fun j hj => by rcases (show j = 0 ∨ j = 1 ∨ j = 2 ∨ j = 3 by omega) with rfl | rfl | rfl | rfl <;> rfl))))
  | 15, _ => exact hP 18 _ rfl
  | 16, _ => exact hP 19 _ rfl
  | 17, _ => exact hP 20 _ rfl
  | 18, _ => exact hP 21 _ rfl
  | 19, _ => exact (show H[_]? = some (vp_cell _ _) from (show H[_]? = some (vp_cell _ _) from hP 22 _ rfl).trans (congrArg some (r_refs (fun j hj => by rcases (show j = 0 ∨ j = 1 ∨ j = 2 ∨ j = 3 by omega) with rfl | rfl | rfl | rfl <;> rfl))))
  | 20, _ => exact (show H[_]? = some (vp_cell _ _) from (show H[_]? = some (vp_cell _ _) from hP 23 _ rfl))
  | 21, _ => exact (show H[_]? = some (vp_cell _ _) from (show H[_]? = some (vp_cell _ _) from hP 24 _ rfl))
  | 22, _ => exact (show H[_]? = some (vp_cell _ _) from (show H[_]? = some (vp_cell _ _) from hP 25 _ rfl))
  | 23, _ => exact (show H[_]? = some (vp_cell _ _) from (show H[_]? = some (vp_cell _ _) from hP 26 _ rfl))
  | 24, _ => exact hP 38 _ rfl
  | 25, _ => exact hP 39 _ rfl
  | 26, _ => exact hP 40 _ rfl
  | 27, _ => exact hP 41 _ rfl
  | 28, _ => exact hP 42 _ rfl
  | 29, _ => exact hP 43 _ rfl
  | 30, _ => exact hP 44 _ rfl
  | 31, _ => exact hP 45 _ rfl
  | 32, _ => exact hP 46 _ rfl
  | 33, _ => exact hP 47 _ rfl
  | 34, _ => exact hP 48 _ rfl
  | 35, _ => exact hP 49 _ rfl
  | 36, _ => exact hP 50 _ rfl
  | 37, _ => exact hP 51 _ rfl
  | 38, _ => exact hP 52 _ rfl
  | 39, _ => exact hP 53 _ rfl
  | 40, _ => exact hP 54 _ rfl
  | 41, _ => exact hP 55 _ rfl
  | 42, _ => exact hP 56 _ rfl
  | 43, _ => exact hP 57 _ rfl
  | 44, _ => exact hP 58 _ rfl
  | 45, _ => exact hP 59 _ rfl
  | 46, _ => exact hP 60 _ rfl
  | 47, _ => exact hP 61 _ rfl
  | 48, _ => exact hP 62 _ rfl
  | 49, _ => exact hP 63 _ rfl
  | 50, _ => exact hP 64 _ rfl
  | 51, _ => exact hP 65 _ rfl
  | 52, _ => exact hP 66 _ rfl
  | 53, _ => exact hP 67 _ rfl
  | 54, _ => exact hP 68 _ rfl
  | 55, _ => exact hP 69 _ rfl
  | 56, _ => exact hP 70 _ rfl
  | 57, _ => exact hP 71 _ rfl
  | 58, _ => exact hP 72 _ rfl
  | 59, _ => exact hP 73 _ rfl
  | 60, _ => exact hP 74 _ rfl
  | 61, _ => exact hP 75 _ rfl
  | 62, _ => exact hP 76 _ rfl
  | 63, _ => exact hP 77 _ rfl
  | 64, _ => exact hP 14 _ rfl
  | 65, _ => exact hP 15 _ rfl
  | 66, _ => exact hP 16 _ rfl
  | 67, _ => exact hP 3 _ rfl
  | 68, _ => exact hP 4 _ rfl
  | 69, _ => exact hP 5 _ rfl
  | 70, _ => exact hP 6 _ rfl
  | 71, _ => exact hP 7 _ rfl
  | 72, _ => exact hP 8 _ rfl
  | 73, _ => exact hP 9 _ rfl
  | 74, _ => exact hP 10 _ rfl
  | 75, _ => exact hP 11 _ rfl
  | 76, _ => exact hP 12 _ rfl
  | 77, _ => exact hP 13 _ rfl
  | 78, _ => exact hP 78 _ rfl
  | 79, _ => exact (show H[_]? = some (vp_cell _ _) from (show H[_]? = some (vp_cell _ _) from hP 79 _ rfl).trans (congrArg some (r_refs (fun j hj => by rcases (show j = 0 ∨ j = 1 ∨ j = 2 ∨ j = 3 ∨ j = 4 by omega) with rfl | rfl | rfl | rfl | rfl <;> rfl))))
  | 80, _ => exact hP 80 _ rfl
  | 81, _ => exact hP 81 _ rfl
  | 82, _ => exact hP 82 _ rfl
  | 83, _ => exact hP 83 _ rfl
  | 84, _ => exact hP 84 _ rfl
  | 85, _ => exact hP 85 _ rfl
  | 86, _ => exact hP 86 _ rfl
  | 87, _ => exact hP 87 _ rfl
  | 88, _ => exact hP 88 _ rfl
  | 89, _ => exact hP 89 _ rfl
  | 90, _ => exact hP 90 _ rfl
  | 91, _ => exact hP 91 _ rfl
  | 92, _ => exact hP 92 _ rfl
  | 93, _ => exact hP 93 _ rfl
  | 94, _ => exact hP 94 _ rfl
  | 95, _ => exact hP 95 _ rfl
  | 96, _ => exact hP 96 _ rfl
  | k + 97, h => exact absurd h (by omega)
set_option maxRecDepth 100000 in
set_option maxHeartbeats 8000000 in
theorem p0C {cy : Cy} {h0 : Nat} {u : Nat → Nat} : ∀ k, k < 97 → ∃ e, (g_X11_init_11 cy h0 u)[posC.getD k 0]? = some (adC0 h0 u k, e) := by
  intro k hlt
  match k, hlt with
  | 0, _ => exact ⟨_, rfl⟩
  | 1, _ => exact ⟨_, rfl⟩
  | 2, _ => exact ⟨_, rfl⟩
  | 3, _ => exact ⟨_, rfl⟩
  | 4, _ => exact ⟨_, rfl⟩
  | 5, _ => exact ⟨_, rfl⟩
  | 6, _ => exact ⟨_, rfl⟩
  | 7, _ => exact ⟨_, rfl⟩
  | 8, _ => exact ⟨_, rfl⟩
  | 9, _ => exact ⟨_, rfl⟩
  | 10, _ => exact ⟨_, rfl⟩
  | 11, _ => exact ⟨_, rfl⟩
  | 12, _ => exact ⟨_, rfl⟩
  | 13, _ => exact ⟨_, rfl⟩
  | 14, _ => exact ⟨_, rfl⟩
  | 15, _ => exact ⟨_, rfl⟩
  | 16, _ => exact ⟨_, rfl⟩
  | 17, _ => exact ⟨_, rfl⟩
  | 18, _ => exact ⟨_, rfl⟩
  | 19, _ => exact ⟨_, rfl⟩
  | 20, _ => exact ⟨_, rfl⟩
  | 21, _ => exact ⟨_, rfl⟩
  | 22, _ => exact ⟨_, rfl⟩
  | 23, _ => exact ⟨_, rfl⟩
  | 24, _ => exact ⟨_, rfl⟩
  | 25, _ => exact ⟨_, rfl⟩
  | 26, _ => exact ⟨_, rfl⟩
  | 27, _ => exact ⟨_, rfl⟩
  | 28, _ => exact ⟨_, rfl⟩
  | 29, _ => exact ⟨_, rfl⟩
  | 30, _ => exact ⟨_, rfl⟩
  | 31, _ => exact ⟨_, rfl⟩
  | 32, _ => exact ⟨_, rfl⟩
  | 33, _ => exact ⟨_, rfl⟩
  | 34, _ => exact ⟨_, rfl⟩
  | 35, _ => exact ⟨_, rfl⟩
  | 36, _ => exact ⟨_, rfl⟩
  | 37, _ => exact ⟨_, rfl⟩
  | 38, _ => exact ⟨_, rfl⟩
  | 39, _ => exact ⟨_, rfl⟩
  | 40, _ => exact ⟨_, rfl⟩
  | 41, _ => exact ⟨_, rfl⟩
  | 42, _ => exact ⟨_, rfl⟩
  | 43, _ => exact ⟨_, rfl⟩
  | 44, _ => exact ⟨_, rfl⟩
  | 45, _ => exact ⟨_, rfl⟩
  | 46, _ => exact ⟨_, rfl⟩
  | 47, _ => exact ⟨_, rfl⟩
  | 48, _ => exact ⟨_, rfl⟩
  | 49, _ => exact ⟨_, rfl⟩
  | 50, _ => exact ⟨_, rfl⟩
  | 51, _ => exact ⟨_, rfl⟩
  | 52, _ => exact ⟨_, rfl⟩
  | 53, _ => exact ⟨_, rfl⟩
  | 54, _ => exact ⟨_, rfl⟩
  | 55, _ => exact ⟨_, rfl⟩
  | 56, _ => exact ⟨_, rfl⟩
  | 57, _ => exact ⟨_, rfl⟩
  | 58, _ => exact ⟨_, rfl⟩
  | 59, _ => exact ⟨_, rfl⟩
  | 60, _ => exact ⟨_, rfl⟩
  | 61, _ => exact ⟨_, rfl⟩
  | 62, _ => exact ⟨_, rfl⟩
  | 63, _ => exact ⟨_, rfl⟩
  | 64, _ => exact ⟨_, rfl⟩
  | 65, _ => exact ⟨_, rfl⟩
  | 66, _ => exact ⟨_, rfl⟩
  | 67, _ => exact ⟨_, rfl⟩
  | 68, _ => exact ⟨_, rfl⟩
  | 69, _ => exact ⟨_, rfl⟩
  | 70, _ => exact ⟨_, rfl⟩
  | 71, _ => exact ⟨_, rfl⟩
  | 72, _ => exact ⟨_, rfl⟩
  | 73, _ => exact ⟨_, rfl⟩
  | 74, _ => exact ⟨_, rfl⟩
  | 75, _ => exact ⟨_, rfl⟩
  | 76, _ => exact ⟨_, rfl⟩
  | 77, _ => exact ⟨_, rfl⟩
  | 78, _ => exact ⟨_, rfl⟩
  | 79, _ => exact ⟨_, rfl⟩
  | 80, _ => exact ⟨_, rfl⟩
  | 81, _ => exact ⟨_, rfl⟩
  | 82, _ => exact ⟨_, rfl⟩
  | 83, _ => exact ⟨_, rfl⟩
  | 84, _ => exact ⟨_, rfl⟩
  | 85, _ => exact ⟨_, rfl⟩
  | 86, _ => exact ⟨_, rfl⟩
  | 87, _ => exact ⟨_, rfl⟩
  | 88, _ => exact ⟨_, rfl⟩
  | 89, _ => exact ⟨_, rfl⟩
  | 90, _ => exact ⟨_, rfl⟩
  | 91, _ => exact ⟨_, rfl⟩
  | 92, _ => exact ⟨_, rfl⟩
  | 93, _ => exact ⟨_, rfl⟩
  | 94, _ => exact ⟨_, rfl⟩
  | 95, _ => exact ⟨_, rfl⟩
  | 96, _ => exact ⟨_, rfl⟩
  | k + 97, h => exact absurd h (by omega)
theorem i0C : ∀ i, i < 97 → ∀ j, j < 97 → posC.getD i 0 = posC.getD j 0 → i = j := by decide +kernel
theorem o0C {cy : Cy} {h0 : Nat} {u : Nat → Nat} {A : Nat → Prop} (hD : va_D A (g_X11_init_11 cy h0 u)) : okAd 97 (adC0 h0 u) A := by
  refine ⟨fun i j hi hj e => ?_, fun k hk => ?_⟩
  · obtain ⟨a, ha⟩ := p0C (cy := cy) (h0 := h0) (u := u) i hi
    obtain ⟨b, hb⟩ := p0C (cy := cy) (h0 := h0) (u := u) j hj
    exact i0C i hi j hj (hD.1 _ _ _ _ ha hb e)
  · obtain ⟨a, ha⟩ := p0C (cy := cy) (h0 := h0) (u := u) k hk
    exact hD.2 _ _ ha
