/-! the law from its entry -/
theorem b_grp {D : va_G} {A0 : Nat → Prop} {g1 g2 : va_W} {H : Heap} (hP : va_P D vwCl (g1 ++ g2) H) (hD : va_D A0 (g1 ++ g2)) : va_P D vwCl g1 H ∧ va_P D vwCl g2 H ∧ va_D (fun q => ∃ (i : Nat) (e : va_E), g1[i]? = some (q, e)) g1 ∧ va_D (fun q => ∃ (i : Nat) (e : va_E), g2[i]? = some (q, e)) g2 ∧ (∀ q, (∃ (i : Nat) (e : va_E), g1[i]? = some (q, e)) → A0 q) ∧ (∀ q, (∃ (i : Nat) (e : va_E), g2[i]? = some (q, e)) → A0 q) ∧ ∀ q, (∃ (i : Nat) (e : va_E), g1[i]? = some (q, e)) → ¬ ∃ (i : Nat) (e : va_E), g2[i]? = some (q, e) := by
  have e1 : ∀ (i : Nat) (x : Nat × va_E), g1[i]? = some x → (g1 ++ g2)[i]? = some x := fun i x h => by
    rw [List.getElem?_append_left (List.getElem?_eq_some_iff.mp h).1]
    exact h
  have e2 : ∀ (i : Nat) (x : Nat × va_E), g2[i]? = some x → (g1 ++ g2)[g1.length + i]? = some x := fun i x h => by
    rw [List.getElem?_append_right (by omega), Nat.add_sub_cancel_left]
    exact h
  refine ⟨fun k q h => hP k q (e1 k q h), fun k q h => hP _ q (e2 k q h), ⟨fun i j a b ha hb hab => hD.1 i j a b (e1 i a ha) (e1 j b hb) hab, fun k q h => ⟨k, q.2, h⟩⟩, ⟨fun i j a b ha hb hab => (by
    have := hD.1 _ _ a b (e2 i a ha) (e2 j b hb) hab
    omega), fun k q h => ⟨k, q.2, h⟩⟩, fun q ⟨i, e, h⟩ => hD.2 i (q, e) (e1 i _ h), fun q ⟨i, e, h⟩ => hD.2 _ (q, e) (e2 i _ h), fun q ⟨i, e, h⟩ ⟨j, e', h'⟩ => ?_⟩
  have h1 := (List.getElem?_eq_some_iff.mp h).1
  have := hD.1 _ _ _ _ (e1 i _ h) (e2 j _ h') rfl
  omega
theorem mfC_init : yX11_init.cls ≠ "java/lang/invoke/MethodHandle" ∧ yX11_init.cls ≠ "java/lang/invoke/VarHandle" ∧ (parseMethodDescriptor yX11_init.desc).map (fun d => d.parameters.length) = some 0 := by decide +kernel
theorem mfM_init : yX12_init.cls ≠ "java/lang/invoke/MethodHandle" ∧ yX12_init.cls ≠ "java/lang/invoke/VarHandle" ∧ (parseMethodDescriptor yX12_init.desc).map (fun d => d.parameters.length) = some 0 := by decide +kernel
set_option maxRecDepth 100000 in
set_option maxHeartbeats 8000000 in
theorem whole_start {p : Program} {e : Env} {s : State} {m : MethodId} {below : List Frame} {meth : Method} {c : Code} (l : Launch) (hflags : l.flags = flags0) {b L : Nat} {xs : Nat → Int32} (hL : L ≤ 2560) (C0 : lw_At p s m meth c b L xs) : W p l e room_1 s m #[Value.ref b] below meth c s.heap [] 0 0 (lw_Z below #[Value.ref b] s) (entryFrame m ([Value.ref b] : List Value).toArray 4) := by
  obtain ⟨hx, hb, hr, hml, hown, hts, hX, hbl, hlocks, hgv⟩ := id C0
  obtain ⟨D, cy, hK⟩ := b_K hts
  have ht : ∀ w ∈ TT, w.before #[Value.ref b] s = true := fun w h => hts w (TT_in w h)
  have E : ZI p s m #[Value.ref b] c cL_law 4 "KiteSummonsLaw" D cy := ⟨hx, hb, hml, hown, ht, hK, b_NW hts, b_AO hts⟩
  have hA : ∀ q : Nat, s.heap.size ≤ q → (fun q : Nat => s.heap.size ≤ q) q := fun _ h => h
  have hS : va_S (fun q : Nat => s.heap.size ≤ q) s.heap s.heap [] := va_S.rf
  have hP : va_P D vwCl [] s.heap := fun k q h => by simp at h
  have hD : va_D (fun q : Nat => s.heap.size ≤ q) [] := ⟨fun i j p q h => by simp at h, fun k q h => by simp at h⟩
  have hl := lv_entry ([.ref b]) (n := 4) (Nat.le_of_ble_eq_true rfl)
  rw [lg_entry_eq]
  generalize (lg_sl ([.ref b]) ++ List.replicate (4 - (lg_sl ([.ref b])).length) Slot.unset).toArray = ls at hl ⊢
  have hl : lv_has ls 4 [(0, .ref b)] := hl
  refine va_new (ci := 11) (fs := [.null, .null, .null, .null, .null, .null, .null, .null, .null, .null, .null, .null, .null, .null, .int 0, .int 0, .int 0]) (C := RX11) (T := TX11) (N := 17) hx hb E.ht inX11 tyX11 tyX11_ok E.hown (E.ht _ k1_22) (E.ht _ k1_23) (E.ht _ k1_1) E.hK hP hD hS hA rfl (by decide) (Nat.le_of_ble_eq_true rfl) (Nat.le_of_ble_eq_true rfl) dL_law_0 (fun q1 H hP hD hS => ?_)
  refine W.widen (k := 1) (n := 17) (Nat.le_of_ble_eq_true rfl) (Nat.le_of_ble_eq_true rfl) ?_
  refine lv_dup hx hb dL_law_3 rfl ?_
  refine nmk (y := (q1, .inr (11, [.null, .null, .null, .null, .null, .null, .null, .null, .null, .null, .null, .null, .null, .null, .int 0, .int 0, .int 0]))) (X := []) (w := fun u => g_X11_init_11 cy q1 u) hP hD hS hA (va_runI (As := []) (rest := [.ref q1]) E.fix (c_X11_init_11 (l := l) (D := D) (cy := cy) q1 H.size) ⟨ncB E k1_26 k1_1 k1_24 mfC_init rfl rfl ⟨Nat.le_of_ble_eq_true rfl, Nat.le_of_ble_eq_true rfl⟩, rfl, E.ht _ k1_25⟩ (nPre E (fun k q hk => (by have hk0 : k = 0 := by { have := (List.getElem?_eq_some_iff.mp hk).1; simp at this; omega }; subst hk0; cases hk; exact hP 0 _ rfl)) _) rfl rfl hl.1 rfl (lv_room (Nat.le_of_ble_eq_true rfl)) dL_law_4 ⟨Nat.le_of_ble_eq_true rfl, Nat.le_of_ble_eq_true rfl⟩) (fun u1 H locs hP hD hS => ?_)
  have hP : va_P D vwCl (g_X11_init_11 cy q1 u1) H := hP
  have hD : va_D (fun q : Nat => s.heap.size ≤ q) (g_X11_init_11 cy q1 u1) := hD
  refine W.widen (k := 97) (n := 1956) (Nat.le_of_ble_eq_true rfl) (Nat.le_of_ble_eq_true rfl) ?_
  refine lv_astore_n (lv' := [(1, .ref q1), (0, .ref b)]) hx hb dL_law_7 rfl hl (by decide) rfl (fun ls hl => ?_)
  refine va_new (ci := 12) (fs := [.null, .null, .null, .int 0, .null, .null, .null, .null, .int 0, .int 0, .int 0, .int 0, .int 0, .int 0, .int 0, .int 0, .int 0, .int 0, .null, .int 0, .null, .int 0, .int 0, .int 0, .int 0, .int 0, .int 0, .int 0, .null, .null, .null, .null, .null, .null, .null, .int 0, .int 0, .int 0, .int 0, .int 0]) (C := RX12) (T := TX12) (N := 40) hx hb E.ht inX12 tyX12 tyX12_ok E.hown (E.ht _ k5_217) (E.ht _ k5_218) (E.ht _ k1_14) E.hK hP hD hS hA rfl (by decide) (Nat.le_of_ble_eq_true rfl) (Nat.le_of_ble_eq_true rfl) dL_law_8 (fun q2 H hP hD hS => ?_)
  refine W.widen (k := 98) (n := 1996) (Nat.le_of_ble_eq_true rfl) (Nat.le_of_ble_eq_true rfl) ?_
  refine lv_dup hx hb dL_law_11 rfl ?_
  have hP2 : ∀ z : Nat × va_E, [(q2, (.inr (12, [.null, .null, .null, .int 0, .null, .null, .null, .null, .int 0, .int 0, .int 0, .int 0, .int 0, .int 0, .int 0, .int 0, .int 0, .int 0, .null, .int 0, .null, .int 0, .int 0, .int 0, .int 0, .int 0, .int 0, .int 0, .null, .null, .null, .null, .null, .null, .null, .int 0, .int 0, .int 0, .int 0, .int 0]) : va_E))][0]? = some z → va_at D vwCl z H := fun z hz => hP (g_X11_init_11 cy q1 u1).length z (by rw [List.getElem?_append_right (Nat.le_refl _), Nat.sub_self]; exact hz)
  refine nmk (y := (q2, .inr (12, [.null, .null, .null, .int 0, .null, .null, .null, .null, .int 0, .int 0, .int 0, .int 0, .int 0, .int 0, .int 0, .int 0, .int 0, .int 0, .null, .int 0, .null, .int 0, .int 0, .int 0, .int 0, .int 0, .int 0, .int 0, .null, .null, .null, .null, .null, .null, .null, .int 0, .int 0, .int 0, .int 0, .int 0]))) (X := g_X11_init_11 cy q1 u1) (w := fun u => g_X12_init_12 cy q2 u) hP hD hS hA (va_runI (As := []) (rest := [.ref q2]) E.fix (c_X12_init_12 (l := l) (D := D) (cy := cy) q2 H.size) ⟨ncB E k5_221 k1_14 k5_219 mfM_init rfl rfl ⟨Nat.le_of_ble_eq_true rfl, Nat.le_of_ble_eq_true rfl⟩, rfl, E.ht _ k5_220⟩ (nPre E (fun k q hk => (by have hk0 : k = 0 := by { have := (List.getElem?_eq_some_iff.mp hk).1; simp at this; omega }; subst hk0; exact hP2 _ hk)) _) rfl rfl hl.1 rfl (lv_room (Nat.le_of_ble_eq_true rfl)) dL_law_12 ⟨Nat.le_of_ble_eq_true rfl, Nat.le_of_ble_eq_true rfl⟩) (fun u2 H locs hP hD hS => ?_)
  refine W.widen (k := 114) (n := 3713) (Nat.le_of_ble_eq_true rfl) (Nat.le_of_ble_eq_true rfl) ?_
  refine lv_astore_n (lv' := [(2, .ref q2), (1, .ref q1), (0, .ref b)]) hx hb dL_law_15 rfl hl (by decide) rfl (fun ls hl => ?_)
  refine lv_iconst (v := 0) hx hb dL_law_16 (by decide) ?_
  refine lv_istore_n (lv' := [(3, .int 0), (2, .ref q2), (1, .ref q1), (0, .ref b)]) hx hb dL_law_17 rfl hl (by decide) rfl (fun ls hl => ?_)
  obtain ⟨hPC, hPM, hDC, hDM, aC, aM, dis⟩ := b_grp hP hD
  have EL : LWe p s m #[Value.ref b] c b L xs D cy (adC0 q1 u1) (adM0 q2 u2) (fun q => ∃ (i : Nat) (e : va_E), (g_X11_init_11 cy q1 u1)[i]? = some (q, e)) (fun q => ∃ (i : Nat) (e : va_E), (g_X12_init_12 cy q2 u2)[i]? = some (q, e)) := ⟨hx, hb, hml, hown, ht, hK, b_NW hts, b_strX hts hgv, o0C hDC, o0M hDM, aC, aM, dis, hX, hbl, hL⟩
  exact law_loop EL ⟨Nat.le_of_ble_eq_true rfl, Nat.le_of_ble_eq_true rfl⟩ hr hlocks (L + 1) 0 (by omega) (Nat.zero_le L) σ0C σ0M H locs ls ⟨w0C hPC, w0M hPM, hS⟩ rel0 (lv_sub hl [0, 2, 1, 3] rfl)
