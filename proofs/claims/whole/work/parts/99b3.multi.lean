/-! new T[4][K] over a list of cells -/
theorem r_ext {cA : ClassId} {N : Nat} {f g : Nat → Value} (h : ∀ j, j < N → f j = g j) : arrV cA N f = arrV cA N g := by
  unfold arrV
  have e : (fun j : Fin N => f j.val) = (fun j : Fin N => g j.val) := funext fun j => h j.val j.isLt
  rw [e]
section RMW
variable {p : Program} {l : Launch} {e : Env} {R : Room} {s : State} {m : MethodId} {args : Array Value} {below : List Frame} {meth : Method} {c : Code} {H : Heap} {locs : List Loc} {cells slots : Nat} {Q : State → Prop}
variable {cc : ByteArray} {nL : Nat} {own : String} {D : va_G} {cy : Cy} {A : Nat → Prop} {ws : va_W} {H0 : Heap}
variable {pc : Nat} {ls : Array Slot} {rest : List Value}
theorem nmulti (E : ZI p s m args c cc nL own D cy) {idx t0 t1 : Nat} {ty : FieldType} {K : Nat} {z : vp_A} (hcl : (Cond.classLink own idx ("[" ++ (FieldType.array ty).toString)).before args s = true) (hao : (Cond.arrayOver (.array ty)).before #[] s = true) (harr : (Cond.arrayClass ty).before args s = true) (ht0 : (tysG cy)[t0]? = some (cy t0, .array ty)) (ht1 : (tysG cy)[t1]? = some (cy t1, ty)) (hf1 : s.vm.findClass (FieldType.array ty).toString = some (cy t1)) (hf0 : s.vm.findClass ("[" ++ (FieldType.array ty).toString) = some (cy t0)) (hz : ∀ cC, rI cC K (defaultValue ty) = vp_cell cC z)
    (hP : va_P D vwCl ws H) (hD : va_D A ws) (hS : va_S A H0 H locs) (hA : ∀ q, H0.size ≤ q → A q) {n k : Int32} (hn : ¬ n < 0) (hk : ¬ k < 0) (hn4 : n.toNatClampNeg = 4) (hK : k.toNatClampNeg = K) (hb2 : K * componentBytes ty ≤ 536870912) (hb3 : K ≤ 536870912) (hdf : fits ty (defaultValue ty) = true) (hdd : (defaultValue ty).isDefault = true)
    (hcells : cells + (1 + 4) ≤ R.cells) (hslots : slots + (4 + 4 * K) ≤ R.slots) (hdg : decode cc pc = .ok (.multianewarray idx 2, 4))
    (kk : ∀ (q : Nat) (r : Nat → Nat) (H1 : Heap) (locs1 : List Loc), va_P D vwCl ((ws ++ [(q, .inl (cy t0, 4, .inr (.inr (.inr (.inr (fun i => ([some (r 0), some (r 1), some (r 2), some (r 3)] : List (Option Nat)).getD i none))))))]) ++ [(r 0, .inl (cy t1, z)), (r 1, .inl (cy t1, z)), (r 2, .inl (cy t1, z)), (r 3, .inl (cy t1, z))]) H1 → va_D A ((ws ++ [(q, .inl (cy t0, 4, .inr (.inr (.inr (.inr (fun i => ([some (r 0), some (r 1), some (r 2), some (r 3)] : List (Option Nat)).getD i none))))))]) ++ [(r 0, .inl (cy t1, z)), (r 1, .inl (cy t1, z)), (r 2, .inl (cy t1, z)), (r 3, .inl (cy t1, z))]) → va_S A H0 H1 locs1 →
      W p l e R s m args below meth c H1 locs1 (cells + 1 + 4) (slots + 4 + 4 * K) Q (F0 m (pc + 4) ls (.ref q :: rest))) : W p l e R s m args below meth c H locs cells slots Q (F0 m pc ls (.int k :: .int n :: rest)) := by
  subst hK
  intro T hT Xs
  obtain ⟨vm₁, cA, cC, locs1, fA, fC, hlocs, X', step⟩ := r_multi Xs E.hx E.hown hcl hao harr (g := F0 m pc ls (.int k :: .int n :: rest)) rfl (by rw [E.hb]; exact hdg) rfl hn hk (by rw [hn4]; exact Nat.le_of_ble_eq_true rfl) hb2 hb3 hdf hdd (by rw [hn4]; exact hcells) (by rw [hn4]; exact hslots)
  have e1 : cA = cy t0 := Option.some.inj (fA.symm.trans hf0)
  have e2 : cC = cy t1 := Option.some.inj (fC.symm.trans hf1)
  subst e1
  subst e2
  rw [hn4] at X' step
  have hTh : (T.setVm vm₁).heap = H := hT
  obtain ⟨f1, f2, -, -⟩ := rS_at (T.setVm vm₁) (cy t0) (cy t1) 4 k.toNatClampNeg (defaultValue ty) 4
  have hold : ∀ x : Nat, x < H.size → (rS (T.setVm vm₁) (cy t0) (cy t1) 4 k.toNatClampNeg (defaultValue ty) 4).heap[x]? = H[x]? := fun x hx => by
    have := rS_old (T.setVm vm₁) (cy t0) (cy t1) 4 k.toNatClampNeg (defaultValue ty) (a := x) (by rw [hTh]; exact hx) 4
    rw [this, hTh]
  have hrow : ∀ j : Nat, j < 4 → (rS (T.setVm vm₁) (cy t0) (cy t1) 4 k.toNatClampNeg (defaultValue ty) 4).heap[H.size + 1 + j]? = some (vp_cell (cy t1) z) := fun j hj => by
    have := rS_row (T.setVm vm₁) (cy t0) (cy t1) 4 k.toNatClampNeg (defaultValue ty) 4 j hj
    rw [hTh, hz] at this
    exact this
  rw [hTh] at f1 f2
  generalize rS (T.setVm vm₁) (cy t0) (cy t1) 4 k.toNatClampNeg (defaultValue ty) 4 = F at X' step f1 f2 hold hrow
  have hout : rO (cy t0) 4 H.size 4 = vp_cell (cy t0) (4, .inr (.inr (.inr (.inr (fun i => ([some (H.size + 1 + 0), some (H.size + 1 + 1), some (H.size + 1 + 2), some (H.size + 1 + 3)] : List (Option Nat)).getD i none))))) := by
    rw [vp_cell_q]
    unfold rO
    refine r_ext (fun j hj => ?_)
    rcases (show j = 0 ∨ j = 1 ∨ j = 2 ∨ j = 3 by omega) with rfl | rfl | rfl | rfl <;> rfl
  rw [hout] at f2
  generalize hL : ([(H.size, .inl (cy t0, 4, .inr (.inr (.inr (.inr (fun i => ([some (H.size + 1 + 0), some (H.size + 1 + 1), some (H.size + 1 + 2), some (H.size + 1 + 3)] : List (Option Nat)).getD i none)))))), (H.size + 1 + 0, .inl (cy t1, z)), (H.size + 1 + 1, .inl (cy t1, z)), (H.size + 1 + 2, .inl (cy t1, z)), (H.size + 1 + 3, .inl (cy t1, z))] : va_W) = L5
  have hL5 : ∀ (j : Nat) (q : Nat × va_E), L5[j]? = some q → q.1 = H.size + j ∧ va_at D vwCl q F.heap := by
    intro j q hq
    rw [← hL] at hq
    match j, hq with
    | 0, hq => cases hq; exact ⟨rfl, f2⟩
    | 1, hq => cases hq; exact ⟨rfl, hrow 0 (by decide)⟩
    | 2, hq => cases hq; exact ⟨rfl, hrow 1 (by decide)⟩
    | 3, hq => cases hq; exact ⟨rfl, hrow 2 (by decide)⟩
    | 4, hq => cases hq; exact ⟨rfl, hrow 3 (by decide)⟩
    | j + 5, hq => simp at hq
  have hP1 : va_P D vwCl (ws ++ L5) F.heap := va_P.app (hP.kept (fun k9 x hx => hold x.1 ((hP k9 x hx).lt))) (fun j q hq => (hL5 j q hq).2)
  have hD1 : va_D A (ws ++ L5) := va_D.app hD ⟨fun i j a b ha hb hab => (by
      have h1 := (hL5 i a ha).1
      have h2 := (hL5 j b hb).1
      omega), fun j q hq => hA _ (by
      have h1 := (hL5 j q hq).1
      have h2 := hS.1
      omega)⟩ (fun i j a b ha hb hab => by
      have h1 := (hP i a ha).lt
      have h2 := (hL5 j b hb).1
      omega)
  have hS1 : va_S A H0 F.heap locs1 := ⟨by rw [f1]; have := hS.1; omega, fun x h1 h2 => (hold x (Nat.lt_of_lt_of_le h1 hS.1)).trans (hS.2.1 x h1 h2), fun q hq => by
    rcases hlocs q hq with h | h
    · exact hS.2.2 q h
    · rw [h]
      have e : T.heap.size = H.size := by rw [hT]
      rw [e]
      exact hA _ hS.1⟩
  have eL : ws ++ L5 = (ws ++ [(H.size, .inl (cy t0, 4, .inr (.inr (.inr (.inr (fun i => ([some (H.size + 1 + 0), some (H.size + 1 + 1), some (H.size + 1 + 2), some (H.size + 1 + 3)] : List (Option Nat)).getD i none))))))]) ++ [(H.size + 1 + 0, .inl (cy t1, z)), (H.size + 1 + 1, .inl (cy t1, z)), (H.size + 1 + 2, .inl (cy t1, z)), (H.size + 1 + 3, .inl (cy t1, z))] := by
    rw [List.append_assoc, ← hL]
    rfl
  rw [eL] at hP1 hD1
  obtain ⟨t, a1, b1⟩ := kk H.size (fun i => H.size + 1 + i) F.heap locs1 hP1 hD1 hS1 F rfl X'
  refine ⟨t, step t ?_, b1⟩
  have e : T.heap.size = H.size := by rw [hT]
  rw [e]
  exact a1
theorem nmulti_int (E : ZI p s m args c cc nL "KiteSummons" D cy) (hP : va_P D vwCl ws H) (hD : va_D A ws) (hS : va_S A H0 H locs) (hA : ∀ q, H0.size ≤ q → A q) (hcells : cells + (1 + 4) ≤ R.cells) (hslots : slots + (4 + 4 * 3) ≤ R.slots) (hdg : decode cc pc = .ok (.multianewarray 33 2, 4))
    (kk : ∀ (q : Nat) (r : Nat → Nat) (H1 : Heap) (locs1 : List Loc), va_P D vwCl ((ws ++ [(q, .inl (cy 5, 4, .inr (.inr (.inr (.inr (fun i => ([some (r 0), some (r 1), some (r 2), some (r 3)] : List (Option Nat)).getD i none))))))]) ++ [(r 0, .inl (cy 1, 3, .inl (fun _ => 0))), (r 1, .inl (cy 1, 3, .inl (fun _ => 0))), (r 2, .inl (cy 1, 3, .inl (fun _ => 0))), (r 3, .inl (cy 1, 3, .inl (fun _ => 0)))]) H1 → va_D A ((ws ++ [(q, .inl (cy 5, 4, .inr (.inr (.inr (.inr (fun i => ([some (r 0), some (r 1), some (r 2), some (r 3)] : List (Option Nat)).getD i none))))))]) ++ [(r 0, .inl (cy 1, 3, .inl (fun _ => 0))), (r 1, .inl (cy 1, 3, .inl (fun _ => 0))), (r 2, .inl (cy 1, 3, .inl (fun _ => 0))), (r 3, .inl (cy 1, 3, .inl (fun _ => 0)))]) → va_S A H0 H1 locs1 →
      W p l e R s m args below meth c H1 locs1 (cells + 1 + 4) (slots + 4 + 4 * 3) Q (F0 m (pc + 4) ls (.ref q :: rest))) : W p l e R s m args below meth c H locs cells slots Q (F0 m pc ls (.int 3 :: .int 4 :: rest)) :=
  nmulti (ty := .int) (t0 := 5) (t1 := 1) (K := 3) (z := (3, .inl (fun _ => 0))) E (E.ht _ k1_139) E.hO.2.2.1 (E.ht _ k1_73) rfl rfl (E.hK.2 1 _ rfl).2 (E.hK.2 5 _ rfl).2 (fun _ => rfl) hP hD hS hA (by decide) (by decide) (by decide) (by decide) (by decide) (by decide) rfl rfl hcells hslots hdg kk
theorem nmulti_long (E : ZI p s m args c cc nL "KiteSummons" D cy) (hP : va_P D vwCl ws H) (hD : va_D A ws) (hS : va_S A H0 H locs) (hA : ∀ q, H0.size ≤ q → A q) (hcells : cells + (1 + 4) ≤ R.cells) (hslots : slots + (4 + 4 * 40) ≤ R.slots) (hdg : decode cc pc = .ok (.multianewarray 38 2, 4))
    (kk : ∀ (q : Nat) (r : Nat → Nat) (H1 : Heap) (locs1 : List Loc), va_P D vwCl ((ws ++ [(q, .inl (cy 6, 4, .inr (.inr (.inr (.inr (fun i => ([some (r 0), some (r 1), some (r 2), some (r 3)] : List (Option Nat)).getD i none))))))]) ++ [(r 0, .inl (cy 2, 40, .inr (.inl (fun _ => 0)))), (r 1, .inl (cy 2, 40, .inr (.inl (fun _ => 0)))), (r 2, .inl (cy 2, 40, .inr (.inl (fun _ => 0)))), (r 3, .inl (cy 2, 40, .inr (.inl (fun _ => 0))))]) H1 → va_D A ((ws ++ [(q, .inl (cy 6, 4, .inr (.inr (.inr (.inr (fun i => ([some (r 0), some (r 1), some (r 2), some (r 3)] : List (Option Nat)).getD i none))))))]) ++ [(r 0, .inl (cy 2, 40, .inr (.inl (fun _ => 0)))), (r 1, .inl (cy 2, 40, .inr (.inl (fun _ => 0)))), (r 2, .inl (cy 2, 40, .inr (.inl (fun _ => 0)))), (r 3, .inl (cy 2, 40, .inr (.inl (fun _ => 0))))]) → va_S A H0 H1 locs1 →
      W p l e R s m args below meth c H1 locs1 (cells + 1 + 4) (slots + 4 + 4 * 40) Q (F0 m (pc + 4) ls (.ref q :: rest))) : W p l e R s m args below meth c H locs cells slots Q (F0 m pc ls (.int 40 :: .int 4 :: rest)) :=
  nmulti (ty := .long) (t0 := 6) (t1 := 2) (K := 40) (z := (40, .inr (.inl (fun _ => 0)))) E (E.ht _ k1_141) E.hO.2.2.2 (E.ht _ k1_174) rfl rfl (E.hK.2 2 _ rfl).2 (E.hK.2 6 _ rfl).2 (fun _ => rfl) hP hD hS hA (by decide) (by decide) (by decide) (by decide) (by decide) (by decide) rfl rfl hcells hslots hdg kk
end RMW
