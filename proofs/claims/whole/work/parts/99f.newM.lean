/-! the new object, as a world of places -/
def adM0 (h0 : Nat) (u : Nat → Nat) : Nat → Nat := fun k => ([h0, u 0, u 1, u 2, u 3, u 4, u 5, u 6, u 7, u 8, u 9, u 10, u 11, u 12, u 13, u 14, u 15] : List Nat).getD k 0
def σ0M : Sg := fun k => if k = 1 then (upd (upd (upd (upd (upd (upd (upd (upd (upd (upd (upd (upd (upd (upd (upd (upd (upd (upd (upd (upd (upd (upd (upd (upd (fun _ => 0) 6 1) 2 12) 7 4) 8 4) 9 4) 10 4) 11 4) 12 4) 13 4) 14 4) 15 4) 16 4) 17 4) 18 4) 19 4) 20 4) 21 4) 22 4) 24 3) 26 3) 28 3) 30 3) 32 3) 34 3) else if k = 10 then (upd (upd (upd (upd (fun _ => 0) 0 (-1)) 1 (-1)) 2 (-1)) 3 (-1)) else (fun _ => 0)
def posM : List Nat := [0, 1, 2, 3, 4, 5, 6, 7, 8, 9, 10, 11, 12, 13, 14, 15, 16]
set_option maxRecDepth 100000 in
set_option maxHeartbeats 8000000 in
theorem w0M {D : va_G} {cy : Cy} {h0 : Nat} {u : Nat → Nat} {H : Heap} (hP : va_P D vwCl (g_X12_init_12 cy h0 u) H) : va_P D vwCl (wG 17 (celM (adM0 h0 u) cy) (adM0 h0 u) σ0M) H := by
  intro k q hk
  obtain ⟨hlt, rfl⟩ := wG_at hk
  clear hk
  match k, hlt with
  | 0, _ => exact hP 0 _ rfl
  | 1, _ => exact hP 1 _ rfl
  | 2, _ => exact hP 2 _ rfl
  | 3, _ => exact hP 3 _ rfl
  | 4, _ => exact hP 4 _ rfl
  | 5, _ => exact hP 5 _ rfl
  | 6, _ => exact hP 6 _ rfl
  | 7, _ => exact hP 7 _ rfl
  | 8, _ => exact hP 8 _ rfl
  | 9, _ => exact hP 9 _ rfl
  | 10, _ => exact hP 10 _ rfl
  | 11, _ => exact hP 11 _ rfl
  | 12, _ => exact hP 12 _ rfl
  | 13, _ => exact hP 13 _ rfl
  | 14, _ => exact hP 14 _ rfl
  | 15, _ => exact hP 15 _ rfl
  | 16, _ => exact hP 16 _ rfl
  | k + 17, h => exact absurd h (by omega)
set_option maxRecDepth 100000 in
set_option maxHeartbeats 8000000 in
theorem p0M {cy : Cy} {h0 : Nat} {u : Nat → Nat} : ∀ k, k < 17 → ∃ e, (g_X12_init_12 cy h0 u)[posM.getD k 0]? = some (adM0 h0 u k, e) := by
  intro k hlt
  match k, hlt with
  | 0, _ => exact ⟨_, rfl⟩
  | 1, _ => exact ⟨_, rfl⟩
  | 2, _ => exact ⟨_, rfl⟩
  | 3, _ => exact ⟨_, rfl⟩
  | 4, _ => exact ⟨_, rfl⟩
  | 5, _ => exact ⟨_, rfl⟩
  | 6, _ => exact ⟨_, rfl⟩
  | 7, _ => exact ⟨_, rfl⟩
  | 8, _ => exact ⟨_, rfl⟩
  | 9, _ => exact ⟨_, rfl⟩
  | 10, _ => exact ⟨_, rfl⟩
  | 11, _ => exact ⟨_, rfl⟩
  | 12, _ => exact ⟨_, rfl⟩
  | 13, _ => exact ⟨_, rfl⟩
  | 14, _ => exact ⟨_, rfl⟩
  | 15, _ => exact ⟨_, rfl⟩
  | 16, _ => exact ⟨_, rfl⟩
  | k + 17, h => exact absurd h (by omega)
theorem i0M : ∀ i, i < 17 → ∀ j, j < 17 → posM.getD i 0 = posM.getD j 0 → i = j := by decide +kernel
theorem o0M {cy : Cy} {h0 : Nat} {u : Nat → Nat} {A : Nat → Prop} (hD : va_D A (g_X12_init_12 cy h0 u)) : okAd 17 (adM0 h0 u) A := by
  refine ⟨fun i j hi hj e => ?_, fun k hk => ?_⟩
  · obtain ⟨a, ha⟩ := p0M (cy := cy) (h0 := h0) (u := u) i hi
    obtain ⟨b, hb⟩ := p0M (cy := cy) (h0 := h0) (u := u) j hj
    exact i0M i hi j hj (hD.1 _ _ _ _ ha hb e)
  · obtain ⟨a, ha⟩ := p0M (cy := cy) (h0 := h0) (u := u) k hk
    exact hD.2 _ _ ha
