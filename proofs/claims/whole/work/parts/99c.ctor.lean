/-! constructors (by wip/gen/mk.py): what each leaves, and that it does -/
theorem mf_J7_fill_53178 : yJ7_fill_53178.cls ≠ "java/lang/invoke/MethodHandle" ∧ yJ7_fill_53178.cls ≠ "java/lang/invoke/VarHandle" ∧ (parseMethodDescriptor yJ7_fill_53178.desc).map (fun d => d.parameters.length) = some 2 := by decide +kernel
theorem mf_X0_init : yX0_init.cls ≠ "java/lang/invoke/MethodHandle" ∧ yX0_init.cls ≠ "java/lang/invoke/VarHandle" ∧ (parseMethodDescriptor yX0_init.desc).map (fun d => d.parameters.length) = some 1 := by decide +kernel
theorem mf_X10_init : yX10_init.cls ≠ "java/lang/invoke/MethodHandle" ∧ yX10_init.cls ≠ "java/lang/invoke/VarHandle" ∧ (parseMethodDescriptor yX10_init.desc).map (fun d => d.parameters.length) = some 0 := by decide +kernel
theorem mf_X1_init : yX1_init.cls ≠ "java/lang/invoke/MethodHandle" ∧ yX1_init.cls ≠ "java/lang/invoke/VarHandle" ∧ (parseMethodDescriptor yX1_init.desc).map (fun d => d.parameters.length) = some 1 := by decide +kernel
theorem mf_X2_init : yX2_init.cls ≠ "java/lang/invoke/MethodHandle" ∧ yX2_init.cls ≠ "java/lang/invoke/VarHandle" ∧ (parseMethodDescriptor yX2_init.desc).map (fun d => d.parameters.length) = some 1 := by decide +kernel
theorem mf_X3_init : yX3_init.cls ≠ "java/lang/invoke/MethodHandle" ∧ yX3_init.cls ≠ "java/lang/invoke/VarHandle" ∧ (parseMethodDescriptor yX3_init.desc).map (fun d => d.parameters.length) = some 1 := by decide +kernel
theorem mf_X4_init : yX4_init.cls ≠ "java/lang/invoke/MethodHandle" ∧ yX4_init.cls ≠ "java/lang/invoke/VarHandle" ∧ (parseMethodDescriptor yX4_init.desc).map (fun d => d.parameters.length) = some 1 := by decide +kernel
theorem mf_X5_init : yX5_init.cls ≠ "java/lang/invoke/MethodHandle" ∧ yX5_init.cls ≠ "java/lang/invoke/VarHandle" ∧ (parseMethodDescriptor yX5_init.desc).map (fun d => d.parameters.length) = some 1 := by decide +kernel
theorem mf_X6_init : yX6_init.cls ≠ "java/lang/invoke/MethodHandle" ∧ yX6_init.cls ≠ "java/lang/invoke/VarHandle" ∧ (parseMethodDescriptor yX6_init.desc).map (fun d => d.parameters.length) = some 1 := by decide +kernel
theorem mf_X7_init : yX7_init.cls ≠ "java/lang/invoke/MethodHandle" ∧ yX7_init.cls ≠ "java/lang/invoke/VarHandle" ∧ (parseMethodDescriptor yX7_init.desc).map (fun d => d.parameters.length) = some 1 := by decide +kernel
theorem mf_X8_init : yX8_init.cls ≠ "java/lang/invoke/MethodHandle" ∧ yX8_init.cls ≠ "java/lang/invoke/VarHandle" ∧ (parseMethodDescriptor yX8_init.desc).map (fun d => d.parameters.length) = some 0 := by decide +kernel
theorem mf_X9_init : yX9_init.cls ≠ "java/lang/invoke/MethodHandle" ∧ yX9_init.cls ≠ "java/lang/invoke/VarHandle" ∧ (parseMethodDescriptor yX9_init.desc).map (fun d => d.parameters.length) = some 0 := by decide +kernel
def g_X9_init_9 (cy : Cy) (h0 : Nat) (u : Nat → Nat) : va_W := [(h0, .inr (9, [.int 0, .int 0, .ref (u 0), .ref (u 1), .ref (u 2), .ref (u 3), .ref (u 4), .ref (u 5)])), ((u 0), .inl (cy 1, 8, .inl (fun _ => 0))), ((u 1), .inl (cy 1, 8, .inl (fun _ => 0))), ((u 2), .inl (cy 1, 8, .inl (fun _ => 0))), ((u 3), .inl (cy 1, 8, .inl (fun _ => 0))), ((u 4), .inl (cy 1, 200, .inl (fun _ => 0))), ((u 5), .inl (cy 1, 5, .inl (fun _ => 0)))]
set_option maxRecDepth 100000 in
set_option maxHeartbeats 8000000 in
theorem c_X9_init_9 {l : Launch} {D : va_G} {cy : Cy} (h0 sz : Nat) : Met l yX9_init (.code yX9_init cX9_init 1 none :: TT) ({ frames := 1, cells := 6, slots := 237, locals := 12 } : Room) (zPn D cy sz [(h0, .inr (9, [.int 0, .int 0, .null, .null, .null, .null, .null, .null]))] [.ref h0]) (zQn D (fun u => g_X9_init_9 cy h0 u) (va_A [(h0, .inr (9, [.int 0, .int 0, .null, .null, .null, .null, .null, .null]))] sz)) 6 237 (va_A [(h0, .inr (9, [.int 0, .int 0, .null, .null, .null, .null, .null, .null]))] sz) := by
  refine nofW (by decide) (Nat.le_of_ble_eq_true rfl) ?_
  intro p e s m args below meth c ls E hsz hP hr hlk hin hl
  have E : ZI p s m args c cX9_init 1 "KiteSummons$Rules" D cy := E
  have hx := E.hx
  have hb := E.hb
  subst hsz
  have hD0 : va_D (va_A [(h0, .inr (9, [.int 0, .int 0, .null, .null, .null, .null, .null, .null]))] s.heap.size) [(h0, .inr (9, [.int 0, .int 0, .null, .null, .null, .null, .null, .null]))] := va_D.self (A := fun _ => True) ⟨fun i j p q hp hq _ => (by have h1 := (List.getElem?_eq_some_iff.mp hp).1; have h2 := (List.getElem?_eq_some_iff.mp hq).1; simp at h1 h2; omega), fun _ _ _ => trivial⟩
  have hA : ∀ q : Nat, s.heap.size ≤ q → va_A [(h0, .inr (9, [.int 0, .int 0, .null, .null, .null, .null, .null, .null]))] s.heap.size q := fun q h => Or.inr h
  generalize hAe : va_A [(h0, .inr (9, [.int 0, .int 0, .null, .null, .null, .null, .null, .null]))] s.heap.size = A at hD0 hA ⊢
  have hD := hD0
  have hS : va_S A s.heap s.heap [] := va_S.rf
  have hl : lv_has ls 1 [(0, .ref h0)] := hl
  refine lv_aload_n hx hb dX9_init_0 rfl (lv_at hl 0 rfl) ?_
  refine W.objInit hx hb E.hown (E.ht _ k1_43) (E.ht _ k1_28) (E.ht _ k1_29) rfl (by rw [E.hml]; exact hl.1) rfl dX9_init_1 (Nat.le_of_ble_eq_true rfl) (Nat.le_of_ble_eq_true rfl) ?_
  change W _ _ _ _ _ _ _ _ _ _ _ _ _ _ _ (F0 m 4 ls [])
  refine lv_aload_n hx hb dX9_init_4 rfl (lv_at hl 0 rfl) ?_
  refine lv_iconst (v := 0) hx hb dX9_init_5 (by decide) ?_
  refine va_put (D := D) (ci := 9) (v := .int 0) (ty := tyX9 0) (C := RX9) (T := TX9) (N := 8) hx hb E.ht inX9 tyX9 tyX9_ok nmX9 E.hown E.hK hP hD hS 0 rfl rfl 0 (by decide) (E.ht _ k1_44) (fun _ h9 => h9) rfl (tyX9_ok 0 (by decide)) rfl rfl (Nat.le_of_ble_eq_true rfl) dX9_init_6 (fun H locs hP hD hS => ?_)
  have hP : va_P D vwCl ([(h0, .inr (9, [.int 0, .int 0, .null, .null, .null, .null, .null, .null]))]) H := hP
  have hD : va_D _ ([(h0, .inr (9, [.int 0, .int 0, .null, .null, .null, .null, .null, .null]))]) := hD
  refine lv_aload_n hx hb dX9_init_9 rfl (lv_at hl 0 rfl) ?_
  refine lv_iconst (v := 0) hx hb dX9_init_10 (by decide) ?_
  refine va_put (D := D) (ci := 9) (v := .int 0) (ty := tyX9 1) (C := RX9) (T := TX9) (N := 8) hx hb E.ht inX9 tyX9 tyX9_ok nmX9 E.hown E.hK hP hD hS 0 rfl rfl 1 (by decide) (E.ht _ k1_47) (fun _ h9 => h9) rfl (tyX9_ok 1 (by decide)) rfl rfl (Nat.le_of_ble_eq_true rfl) dX9_init_11 (fun H locs hP hD hS => ?_)
  have hP : va_P D vwCl ([(h0, .inr (9, [.int 0, .int 0, .null, .null, .null, .null, .null, .null]))]) H := hP
  have hD : va_D _ ([(h0, .inr (9, [.int 0, .int 0, .null, .null, .null, .null, .null, .null]))]) := hD
  refine lv_aload_n hx hb dX9_init_14 rfl (lv_at hl 0 rfl) ?_
  refine lv_bipush (v := 8) hx hb dX9_init_15 (by decide) ?_
  refine nnewi (N := 8) E hP hD hS hA (by decide) (by decide) (Nat.le_of_ble_eq_true rfl) (Nat.le_of_ble_eq_true rfl) (Nat.le_of_ble_eq_true rfl) dX9_init_17 (fun q1 H hP hD hS => ?_)
  have hP : va_P D vwCl ([(h0, .inr (9, [.int 0, .int 0, .null, .null, .null, .null, .null, .null])), (q1, .inl (cy 1, 8, .inl (fun _ => 0)))]) H := hP
  have hD : va_D _ ([(h0, .inr (9, [.int 0, .int 0, .null, .null, .null, .null, .null, .null])), (q1, .inl (cy 1, 8, .inl (fun _ => 0)))]) := hD
  refine W.widen (k := 1) (n := 8) (Nat.le_of_ble_eq_true rfl) (Nat.le_of_ble_eq_true rfl) ?_
  refine va_putF (D := D) (ci := 9) (v := .ref q1) (ty := tyX9 2) (C := RX9) (T := TX9) (N := 8) hx hb E.ht inX9 tyX9 tyX9_ok nmX9 E.hown E.hK hP hD hS 0 rfl rfl 2 (by decide) (E.ht _ k1_49) (fun _ h9 => h9) rfl hin rfl (tyX9_ok 2 (by decide)) rfl rfl (Nat.le_of_ble_eq_true rfl) dX9_init_19 (fun H locs hP hD hS => ?_)
  have hP : va_P D vwCl ([(h0, .inr (9, [.int 0, .int 0, .ref q1, .null, .null, .null, .null, .null])), (q1, .inl (cy 1, 8, .inl (fun _ => 0)))]) H := hP
  have hD : va_D _ ([(h0, .inr (9, [.int 0, .int 0, .ref q1, .null, .null, .null, .null, .null])), (q1, .inl (cy 1, 8, .inl (fun _ => 0)))]) := hD
  refine lv_aload_n hx hb dX9_init_22 rfl (lv_at hl 0 rfl) ?_
  refine lv_bipush (v := 8) hx hb dX9_init_23 (by decide) ?_
  refine nnewi (N := 8) E hP hD hS hA (by decide) (by decide) (Nat.le_of_ble_eq_true rfl) (Nat.le_of_ble_eq_true rfl) (Nat.le_of_ble_eq_true rfl) dX9_init_25 (fun q2 H hP hD hS => ?_)
  have hP : va_P D vwCl ([(h0, .inr (9, [.int 0, .int 0, .ref q1, .null, .null, .null, .null, .null])), (q1, .inl (cy 1, 8, .inl (fun _ => 0))), (q2, .inl (cy 1, 8, .inl (fun _ => 0)))]) H := hP
  have hD : va_D _ ([(h0, .inr (9, [.int 0, .int 0, .ref q1, .null, .null, .null, .null, .null])), (q1, .inl (cy 1, 8, .inl (fun _ => 0))), (q2, .inl (cy 1, 8, .inl (fun _ => 0)))]) := hD
  refine W.widen (k := 2) (n := 16) (Nat.le_of_ble_eq_true rfl) (Nat.le_of_ble_eq_true rfl) ?_
  refine va_putF (D := D) (ci := 9) (v := .ref q2) (ty := tyX9 3) (C := RX9) (T := TX9) (N := 8) hx hb E.ht inX9 tyX9 tyX9_ok nmX9 E.hown E.hK hP hD hS 0 rfl rfl 3 (by decide) (E.ht _ k1_50) (fun _ h9 => h9) rfl hin rfl (tyX9_ok 3 (by decide)) rfl rfl (Nat.le_of_ble_eq_true rfl) dX9_init_27 (fun H locs hP hD hS => ?_)
  have hP : va_P D vwCl ([(h0, .inr (9, [.int 0, .int 0, .ref q1, .ref q2, .null, .null, .null, .null])), (q1, .inl (cy 1, 8, .inl (fun _ => 0))), (q2, .inl (cy 1, 8, .inl (fun _ => 0)))]) H := hP
  have hD : va_D _ ([(h0, .inr (9, [.int 0, .int 0, .ref q1, .ref q2, .null, .null, .null, .null])), (q1, .inl (cy 1, 8, .inl (fun _ => 0))), (q2, .inl (cy 1, 8, .inl (fun _ => 0)))]) := hD
  refine lv_aload_n hx hb dX9_init_30 rfl (lv_at hl 0 rfl) ?_
  refine lv_bipush (v := 8) hx hb dX9_init_31 (by decide) ?_
  refine nnewi (N := 8) E hP hD hS hA (by decide) (by decide) (Nat.le_of_ble_eq_true rfl) (Nat.le_of_ble_eq_true rfl) (Nat.le_of_ble_eq_true rfl) dX9_init_33 (fun q3 H hP hD hS => ?_)
  have hP : va_P D vwCl ([(h0, .inr (9, [.int 0, .int 0, .ref q1, .ref q2, .null, .null, .null, .null])), (q1, .inl (cy 1, 8, .inl (fun _ => 0))), (q2, .inl (cy 1, 8, .inl (fun _ => 0))), (q3, .inl (cy 1, 8, .inl (fun _ => 0)))]) H := hP
  have hD : va_D _ ([(h0, .inr (9, [.int 0, .int 0, .ref q1, .ref q2, .null, .null, .null, .null])), (q1, .inl (cy 1, 8, .inl (fun _ => 0))), (q2, .inl (cy 1, 8, .inl (fun _ => 0))), (q3, .inl (cy 1, 8, .inl (fun _ => 0)))]) := hD
  refine W.widen (k := 3) (n := 24) (Nat.le_of_ble_eq_true rfl) (Nat.le_of_ble_eq_true rfl) ?_
  refine va_putF (D := D) (ci := 9) (v := .ref q3) (ty := tyX9 4) (C := RX9) (T := TX9) (N := 8) hx hb E.ht inX9 tyX9 tyX9_ok nmX9 E.hown E.hK hP hD hS 0 rfl rfl 4 (by decide) (E.ht _ k1_51) (fun _ h9 => h9) rfl hin rfl (tyX9_ok 4 (by decide)) rfl rfl (Nat.le_of_ble_eq_true rfl) dX9_init_35 (fun H locs hP hD hS => ?_)
  have hP : va_P D vwCl ([(h0, .inr (9, [.int 0, .int 0, .ref q1, .ref q2, .ref q3, .null, .null, .null])), (q1, .inl (cy 1, 8, .inl (fun _ => 0))), (q2, .inl (cy 1, 8, .inl (fun _ => 0))), (q3, .inl (cy 1, 8, .inl (fun _ => 0)))]) H := hP
  have hD : va_D _ ([(h0, .inr (9, [.int 0, .int 0, .ref q1, .ref q2, .ref q3, .null, .null, .null])), (q1, .inl (cy 1, 8, .inl (fun _ => 0))), (q2, .inl (cy 1, 8, .inl (fun _ => 0))), (q3, .inl (cy 1, 8, .inl (fun _ => 0)))]) := hD
  refine lv_aload_n hx hb dX9_init_38 rfl (lv_at hl 0 rfl) ?_
  refine lv_bipush (v := 8) hx hb dX9_init_39 (by decide) ?_
  refine nnewi (N := 8) E hP hD hS hA (by decide) (by decide) (Nat.le_of_ble_eq_true rfl) (Nat.le_of_ble_eq_true rfl) (Nat.le_of_ble_eq_true rfl) dX9_init_41 (fun q4 H hP hD hS => ?_)
  have hP : va_P D vwCl ([(h0, .inr (9, [.int 0, .int 0, .ref q1, .ref q2, .ref q3, .null, .null, .null])), (q1, .inl (cy 1, 8, .inl (fun _ => 0))), (q2, .inl (cy 1, 8, .inl (fun _ => 0))), (q3, .inl (cy 1, 8, .inl (fun _ => 0))), (q4, .inl (cy 1, 8, .inl (fun _ => 0)))]) H := hP
  have hD : va_D _ ([(h0, .inr (9, [.int 0, .int 0, .ref q1, .ref q2, .ref q3, .null, .null, .null])), (q1, .inl (cy 1, 8, .inl (fun _ => 0))), (q2, .inl (cy 1, 8, .inl (fun _ => 0))), (q3, .inl (cy 1, 8, .inl (fun _ => 0))), (q4, .inl (cy 1, 8, .inl (fun _ => 0)))]) := hD
  refine W.widen (k := 4) (n := 32) (Nat.le_of_ble_eq_true rfl) (Nat.le_of_ble_eq_true rfl) ?_
  refine va_putF (D := D) (ci := 9) (v := .ref q4) (ty := tyX9 5) (C := RX9) (T := TX9) (N := 8) hx hb E.ht inX9 tyX9 tyX9_ok nmX9 E.hown E.hK hP hD hS 0 rfl rfl 5 (by decide) (E.ht _ k1_52) (fun _ h9 => h9) rfl hin rfl (tyX9_ok 5 (by decide)) rfl rfl (Nat.le_of_ble_eq_true rfl) dX9_init_43 (fun H locs hP hD hS => ?_)
  have hP : va_P D vwCl ([(h0, .inr (9, [.int 0, .int 0, .ref q1, .ref q2, .ref q3, .ref q4, .null, .null])), (q1, .inl (cy 1, 8, .inl (fun _ => 0))), (q2, .inl (cy 1, 8, .inl (fun _ => 0))), (q3, .inl (cy 1, 8, .inl (fun _ => 0))), (q4, .inl (cy 1, 8, .inl (fun _ => 0)))]) H := hP
  have hD : va_D _ ([(h0, .inr (9, [.int 0, .int 0, .ref q1, .ref q2, .ref q3, .ref q4, .null, .null])), (q1, .inl (cy 1, 8, .inl (fun _ => 0))), (q2, .inl (cy 1, 8, .inl (fun _ => 0))), (q3, .inl (cy 1, 8, .inl (fun _ => 0))), (q4, .inl (cy 1, 8, .inl (fun _ => 0)))]) := hD
  refine lv_aload_n hx hb dX9_init_46 rfl (lv_at hl 0 rfl) ?_
  refine lv_sipush (v := 200) hx hb dX9_init_47 (by decide) ?_
  refine nnewi (N := 200) E hP hD hS hA (by decide) (by decide) (Nat.le_of_ble_eq_true rfl) (Nat.le_of_ble_eq_true rfl) (Nat.le_of_ble_eq_true rfl) dX9_init_50 (fun q5 H hP hD hS => ?_)
  have hP : va_P D vwCl ([(h0, .inr (9, [.int 0, .int 0, .ref q1, .ref q2, .ref q3, .ref q4, .null, .null])), (q1, .inl (cy 1, 8, .inl (fun _ => 0))), (q2, .inl (cy 1, 8, .inl (fun _ => 0))), (q3, .inl (cy 1, 8, .inl (fun _ => 0))), (q4, .inl (cy 1, 8, .inl (fun _ => 0))), (q5, .inl (cy 1, 200, .inl (fun _ => 0)))]) H := hP
  have hD : va_D _ ([(h0, .inr (9, [.int 0, .int 0, .ref q1, .ref q2, .ref q3, .ref q4, .null, .null])), (q1, .inl (cy 1, 8, .inl (fun _ => 0))), (q2, .inl (cy 1, 8, .inl (fun _ => 0))), (q3, .inl (cy 1, 8, .inl (fun _ => 0))), (q4, .inl (cy 1, 8, .inl (fun _ => 0))), (q5, .inl (cy 1, 200, .inl (fun _ => 0)))]) := hD
  refine W.widen (k := 5) (n := 232) (Nat.le_of_ble_eq_true rfl) (Nat.le_of_ble_eq_true rfl) ?_
  refine va_putF (D := D) (ci := 9) (v := .ref q5) (ty := tyX9 6) (C := RX9) (T := TX9) (N := 8) hx hb E.ht inX9 tyX9 tyX9_ok nmX9 E.hown E.hK hP hD hS 0 rfl rfl 6 (by decide) (E.ht _ k1_53) (fun _ h9 => h9) rfl hin rfl (tyX9_ok 6 (by decide)) rfl rfl (Nat.le_of_ble_eq_true rfl) dX9_init_52 (fun H locs hP hD hS => ?_)
  have hP : va_P D vwCl ([(h0, .inr (9, [.int 0, .int 0, .ref q1, .ref q2, .ref q3, .ref q4, .ref q5, .null])), (q1, .inl (cy 1, 8, .inl (fun _ => 0))), (q2, .inl (cy 1, 8, .inl (fun _ => 0))), (q3, .inl (cy 1, 8, .inl (fun _ => 0))), (q4, .inl (cy 1, 8, .inl (fun _ => 0))), (q5, .inl (cy 1, 200, .inl (fun _ => 0)))]) H := hP
  have hD : va_D _ ([(h0, .inr (9, [.int 0, .int 0, .ref q1, .ref q2, .ref q3, .ref q4, .ref q5, .null])), (q1, .inl (cy 1, 8, .inl (fun _ => 0))), (q2, .inl (cy 1, 8, .inl (fun _ => 0))), (q3, .inl (cy 1, 8, .inl (fun _ => 0))), (q4, .inl (cy 1, 8, .inl (fun _ => 0))), (q5, .inl (cy 1, 200, .inl (fun _ => 0)))]) := hD
  refine lv_aload_n hx hb dX9_init_55 rfl (lv_at hl 0 rfl) ?_
  refine lv_iconst (v := 5) hx hb dX9_init_56 (by decide) ?_
  refine nnewi (N := 5) E hP hD hS hA (by decide) (by decide) (Nat.le_of_ble_eq_true rfl) (Nat.le_of_ble_eq_true rfl) (Nat.le_of_ble_eq_true rfl) dX9_init_57 (fun q6 H hP hD hS => ?_)
  have hP : va_P D vwCl ([(h0, .inr (9, [.int 0, .int 0, .ref q1, .ref q2, .ref q3, .ref q4, .ref q5, .null])), (q1, .inl (cy 1, 8, .inl (fun _ => 0))), (q2, .inl (cy 1, 8, .inl (fun _ => 0))), (q3, .inl (cy 1, 8, .inl (fun _ => 0))), (q4, .inl (cy 1, 8, .inl (fun _ => 0))), (q5, .inl (cy 1, 200, .inl (fun _ => 0))), (q6, .inl (cy 1, 5, .inl (fun _ => 0)))]) H := hP
  have hD : va_D _ ([(h0, .inr (9, [.int 0, .int 0, .ref q1, .ref q2, .ref q3, .ref q4, .ref q5, .null])), (q1, .inl (cy 1, 8, .inl (fun _ => 0))), (q2, .inl (cy 1, 8, .inl (fun _ => 0))), (q3, .inl (cy 1, 8, .inl (fun _ => 0))), (q4, .inl (cy 1, 8, .inl (fun _ => 0))), (q5, .inl (cy 1, 200, .inl (fun _ => 0))), (q6, .inl (cy 1, 5, .inl (fun _ => 0)))]) := hD
  refine W.widen (k := 6) (n := 237) (Nat.le_of_ble_eq_true rfl) (Nat.le_of_ble_eq_true rfl) ?_
  refine va_putF (D := D) (ci := 9) (v := .ref q6) (ty := tyX9 7) (C := RX9) (T := TX9) (N := 8) hx hb E.ht inX9 tyX9 tyX9_ok nmX9 E.hown E.hK hP hD hS 0 rfl rfl 7 (by decide) (E.ht _ k1_54) (fun _ h9 => h9) rfl hin rfl (tyX9_ok 7 (by decide)) rfl rfl (Nat.le_of_ble_eq_true rfl) dX9_init_59 (fun H locs hP hD hS => ?_)
  have hP : va_P D vwCl ([(h0, .inr (9, [.int 0, .int 0, .ref q1, .ref q2, .ref q3, .ref q4, .ref q5, .ref q6])), (q1, .inl (cy 1, 8, .inl (fun _ => 0))), (q2, .inl (cy 1, 8, .inl (fun _ => 0))), (q3, .inl (cy 1, 8, .inl (fun _ => 0))), (q4, .inl (cy 1, 8, .inl (fun _ => 0))), (q5, .inl (cy 1, 200, .inl (fun _ => 0))), (q6, .inl (cy 1, 5, .inl (fun _ => 0)))]) H := hP
  have hD : va_D _ ([(h0, .inr (9, [.int 0, .int 0, .ref q1, .ref q2, .ref q3, .ref q4, .ref q5, .ref q6])), (q1, .inl (cy 1, 8, .inl (fun _ => 0))), (q2, .inl (cy 1, 8, .inl (fun _ => 0))), (q3, .inl (cy 1, 8, .inl (fun _ => 0))), (q4, .inl (cy 1, 8, .inl (fun _ => 0))), (q5, .inl (cy 1, 200, .inl (fun _ => 0))), (q6, .inl (cy 1, 5, .inl (fun _ => 0)))]) := hD
  exact W.vret hx hb hr (fun t ht _ => ⟨⟨(fun k => ([q1, q2, q3, q4, q5, q6] : List Nat).getD k 0), rfl, trivial, by rw [ht]; exact hP, hD⟩, hS.F ht⟩) hS.2.2 dX9_init_62 hlk
def g_X8_init_8 (cy : Cy) (h0 : Nat) (u : Nat → Nat) : va_W := [(h0, .inr (8, [.int 0, .ref (u 0), .ref (u 1), .ref (u 2), .int 0, .int 0, .int (-1), .ref (u 3)])), ((u 0), .inl (cy 0, 200, .inl (fun _ => 0))), ((u 1), .inl (cy 1, 201, .inl (fun _ => 0))), ((u 2), .inl (cy 1, 201, .inl (fun _ => 0))), ((u 3), .inr (9, [.int 0, .int 0, .ref (u 4), .ref (u 5), .ref (u 6), .ref (u 7), .ref (u 8), .ref (u 9)])), ((u 4), .inl (cy 1, 8, .inl (fun _ => 0))), ((u 5), .inl (cy 1, 8, .inl (fun _ => 0))), ((u 6), .inl (cy 1, 8, .inl (fun _ => 0))), ((u 7), .inl (cy 1, 8, .inl (fun _ => 0))), ((u 8), .inl (cy 1, 200, .inl (fun _ => 0))), ((u 9), .inl (cy 1, 5, .inl (fun _ => 0)))]
set_option maxRecDepth 100000 in
set_option maxHeartbeats 8000000 in
theorem c_X8_init_8 {l : Launch} {D : va_G} {cy : Cy} (h0 sz : Nat) : Met l yX8_init (.code yX8_init cX8_init 1 none :: TT) ({ frames := 2, cells := 10, slots := 847, locals := 32 } : Room) (zPn D cy sz [(h0, .inr (8, [.int 0, .null, .null, .null, .int 0, .int 0, .int 0, .null]))] [.ref h0]) (zQn D (fun u => g_X8_init_8 cy h0 u) (va_A [(h0, .inr (8, [.int 0, .null, .null, .null, .int 0, .int 0, .int 0, .null]))] sz)) 10 847 (va_A [(h0, .inr (8, [.int 0, .null, .null, .null, .int 0, .int 0, .int 0, .null]))] sz) := by
  refine nofW (by decide) (Nat.le_of_ble_eq_true rfl) ?_
  intro p e s m args below meth c ls E hsz hP hr hlk hin hl
  have E : ZI p s m args c cX8_init 1 "KiteSummons$RuleReader" D cy := E
  have hx := E.hx
  have hb := E.hb
  subst hsz
  have hD0 : va_D (va_A [(h0, .inr (8, [.int 0, .null, .null, .null, .int 0, .int 0, .int 0, .null]))] s.heap.size) [(h0, .inr (8, [.int 0, .null, .null, .null, .int 0, .int 0, .int 0, .null]))] := va_D.self (A := fun _ => True) ⟨fun i j p q hp hq _ => (by have h1 := (List.getElem?_eq_some_iff.mp hp).1; have h2 := (List.getElem?_eq_some_iff.mp hq).1; simp at h1 h2; omega), fun _ _ _ => trivial⟩
  have hA : ∀ q : Nat, s.heap.size ≤ q → va_A [(h0, .inr (8, [.int 0, .null, .null, .null, .int 0, .int 0, .int 0, .null]))] s.heap.size q := fun q h => Or.inr h
  generalize hAe : va_A [(h0, .inr (8, [.int 0, .null, .null, .null, .int 0, .int 0, .int 0, .null]))] s.heap.size = A at hD0 hA ⊢
  have hD := hD0
  have hS : va_S A s.heap s.heap [] := va_S.rf
  have hl : lv_has ls 1 [(0, .ref h0)] := hl
  refine lv_aload_n hx hb dX8_init_0 rfl (lv_at hl 0 rfl) ?_
  refine W.objInit hx hb E.hown (E.ht _ k1_37) (E.ht _ k1_28) (E.ht _ k1_29) rfl (by rw [E.hml]; exact hl.1) rfl dX8_init_1 (Nat.le_of_ble_eq_true rfl) (Nat.le_of_ble_eq_true rfl) ?_
  change W _ _ _ _ _ _ _ _ _ _ _ _ _ _ _ (F0 m 4 ls [])
  refine lv_aload_n hx hb dX8_init_4 rfl (lv_at hl 0 rfl) ?_
  refine lv_iconst (v := 0) hx hb dX8_init_5 (by decide) ?_
  refine va_put (D := D) (ci := 8) (v := .int 0) (ty := tyX8 0) (C := RX8) (T := TX8) (N := 8) hx hb E.ht inX8 tyX8 tyX8_ok nmX8 E.hown E.hK hP hD hS 0 rfl rfl 0 (by decide) (E.ht _ k1_75) (fun _ h9 => h9) rfl (tyX8_ok 0 (by decide)) rfl rfl (Nat.le_of_ble_eq_true rfl) dX8_init_6 (fun H locs hP hD hS => ?_)
  have hP : va_P D vwCl ([(h0, .inr (8, [.int 0, .null, .null, .null, .int 0, .int 0, .int 0, .null]))]) H := hP
  have hD : va_D _ ([(h0, .inr (8, [.int 0, .null, .null, .null, .int 0, .int 0, .int 0, .null]))]) := hD
  refine lv_aload_n hx hb dX8_init_9 rfl (lv_at hl 0 rfl) ?_
  refine lv_sipush (v := 200) hx hb dX8_init_10 (by decide) ?_
  refine nnewb (N := 200) E hP hD hS hA (by decide) (by decide) (Nat.le_of_ble_eq_true rfl) (Nat.le_of_ble_eq_true rfl) (Nat.le_of_ble_eq_true rfl) dX8_init_13 (fun q1 H hP hD hS => ?_)
  have hP : va_P D vwCl ([(h0, .inr (8, [.int 0, .null, .null, .null, .int 0, .int 0, .int 0, .null])), (q1, .inl (cy 0, 200, .inl (fun _ => 0)))]) H := hP
  have hD : va_D _ ([(h0, .inr (8, [.int 0, .null, .null, .null, .int 0, .int 0, .int 0, .null])), (q1, .inl (cy 0, 200, .inl (fun _ => 0)))]) := hD
  refine W.widen (k := 1) (n := 200) (Nat.le_of_ble_eq_true rfl) (Nat.le_of_ble_eq_true rfl) ?_
  refine va_putF (D := D) (ci := 8) (v := .ref q1) (ty := tyX8 1) (C := RX8) (T := TX8) (N := 8) hx hb E.ht inX8 tyX8 tyX8_ok nmX8 E.hown E.hK hP hD hS 0 rfl rfl 1 (by decide) (E.ht _ k1_77) (fun _ h9 => h9) rfl hin rfl (tyX8_ok 1 (by decide)) rfl rfl (Nat.le_of_ble_eq_true rfl) dX8_init_15 (fun H locs hP hD hS => ?_)
  have hP : va_P D vwCl ([(h0, .inr (8, [.int 0, .ref q1, .null, .null, .int 0, .int 0, .int 0, .null])), (q1, .inl (cy 0, 200, .inl (fun _ => 0)))]) H := hP
  have hD : va_D _ ([(h0, .inr (8, [.int 0, .ref q1, .null, .null, .int 0, .int 0, .int 0, .null])), (q1, .inl (cy 0, 200, .inl (fun _ => 0)))]) := hD
  refine lv_aload_n hx hb dX8_init_18 rfl (lv_at hl 0 rfl) ?_
  refine lv_sipush (v := 201) hx hb dX8_init_19 (by decide) ?_
  refine nnewi (N := 201) E hP hD hS hA (by decide) (by decide) (Nat.le_of_ble_eq_true rfl) (Nat.le_of_ble_eq_true rfl) (Nat.le_of_ble_eq_true rfl) dX8_init_22 (fun q2 H hP hD hS => ?_)
  have hP : va_P D vwCl ([(h0, .inr (8, [.int 0, .ref q1, .null, .null, .int 0, .int 0, .int 0, .null])), (q1, .inl (cy 0, 200, .inl (fun _ => 0))), (q2, .inl (cy 1, 201, .inl (fun _ => 0)))]) H := hP
  have hD : va_D _ ([(h0, .inr (8, [.int 0, .ref q1, .null, .null, .int 0, .int 0, .int 0, .null])), (q1, .inl (cy 0, 200, .inl (fun _ => 0))), (q2, .inl (cy 1, 201, .inl (fun _ => 0)))]) := hD
  refine W.widen (k := 2) (n := 401) (Nat.le_of_ble_eq_true rfl) (Nat.le_of_ble_eq_true rfl) ?_
  refine va_putF (D := D) (ci := 8) (v := .ref q2) (ty := tyX8 2) (C := RX8) (T := TX8) (N := 8) hx hb E.ht inX8 tyX8 tyX8_ok nmX8 E.hown E.hK hP hD hS 0 rfl rfl 2 (by decide) (E.ht _ k1_78) (fun _ h9 => h9) rfl hin rfl (tyX8_ok 2 (by decide)) rfl rfl (Nat.le_of_ble_eq_true rfl) dX8_init_24 (fun H locs hP hD hS => ?_)
  have hP : va_P D vwCl ([(h0, .inr (8, [.int 0, .ref q1, .ref q2, .null, .int 0, .int 0, .int 0, .null])), (q1, .inl (cy 0, 200, .inl (fun _ => 0))), (q2, .inl (cy 1, 201, .inl (fun _ => 0)))]) H := hP
  have hD : va_D _ ([(h0, .inr (8, [.int 0, .ref q1, .ref q2, .null, .int 0, .int 0, .int 0, .null])), (q1, .inl (cy 0, 200, .inl (fun _ => 0))), (q2, .inl (cy 1, 201, .inl (fun _ => 0)))]) := hD
  refine lv_aload_n hx hb dX8_init_27 rfl (lv_at hl 0 rfl) ?_
  refine lv_sipush (v := 201) hx hb dX8_init_28 (by decide) ?_
  refine nnewi (N := 201) E hP hD hS hA (by decide) (by decide) (Nat.le_of_ble_eq_true rfl) (Nat.le_of_ble_eq_true rfl) (Nat.le_of_ble_eq_true rfl) dX8_init_31 (fun q3 H hP hD hS => ?_)
  have hP : va_P D vwCl ([(h0, .inr (8, [.int 0, .ref q1, .ref q2, .null, .int 0, .int 0, .int 0, .null])), (q1, .inl (cy 0, 200, .inl (fun _ => 0))), (q2, .inl (cy 1, 201, .inl (fun _ => 0))), (q3, .inl (cy 1, 201, .inl (fun _ => 0)))]) H := hP
  have hD : va_D _ ([(h0, .inr (8, [.int 0, .ref q1, .ref q2, .null, .int 0, .int 0, .int 0, .null])), (q1, .inl (cy 0, 200, .inl (fun _ => 0))), (q2, .inl (cy 1, 201, .inl (fun _ => 0))), (q3, .inl (cy 1, 201, .inl (fun _ => 0)))]) := hD
  refine W.widen (k := 3) (n := 602) (Nat.le_of_ble_eq_true rfl) (Nat.le_of_ble_eq_true rfl) ?_
  refine va_putF (D := D) (ci := 8) (v := .ref q3) (ty := tyX8 3) (C := RX8) (T := TX8) (N := 8) hx hb E.ht inX8 tyX8 tyX8_ok nmX8 E.hown E.hK hP hD hS 0 rfl rfl 3 (by decide) (E.ht _ k1_79) (fun _ h9 => h9) rfl hin rfl (tyX8_ok 3 (by decide)) rfl rfl (Nat.le_of_ble_eq_true rfl) dX8_init_33 (fun H locs hP hD hS => ?_)
  have hP : va_P D vwCl ([(h0, .inr (8, [.int 0, .ref q1, .ref q2, .ref q3, .int 0, .int 0, .int 0, .null])), (q1, .inl (cy 0, 200, .inl (fun _ => 0))), (q2, .inl (cy 1, 201, .inl (fun _ => 0))), (q3, .inl (cy 1, 201, .inl (fun _ => 0)))]) H := hP
  have hD : va_D _ ([(h0, .inr (8, [.int 0, .ref q1, .ref q2, .ref q3, .int 0, .int 0, .int 0, .null])), (q1, .inl (cy 0, 200, .inl (fun _ => 0))), (q2, .inl (cy 1, 201, .inl (fun _ => 0))), (q3, .inl (cy 1, 201, .inl (fun _ => 0)))]) := hD
  refine lv_aload_n hx hb dX8_init_36 rfl (lv_at hl 0 rfl) ?_
  refine lv_iconst (v := 0) hx hb dX8_init_37 (by decide) ?_
  refine va_put (D := D) (ci := 8) (v := .int 0) (ty := tyX8 4) (C := RX8) (T := TX8) (N := 8) hx hb E.ht inX8 tyX8 tyX8_ok nmX8 E.hown E.hK hP hD hS 0 rfl rfl 4 (by decide) (E.ht _ k1_80) (fun _ h9 => h9) rfl (tyX8_ok 4 (by decide)) rfl rfl (Nat.le_of_ble_eq_true rfl) dX8_init_38 (fun H locs hP hD hS => ?_)
  have hP : va_P D vwCl ([(h0, .inr (8, [.int 0, .ref q1, .ref q2, .ref q3, .int 0, .int 0, .int 0, .null])), (q1, .inl (cy 0, 200, .inl (fun _ => 0))), (q2, .inl (cy 1, 201, .inl (fun _ => 0))), (q3, .inl (cy 1, 201, .inl (fun _ => 0)))]) H := hP
  have hD : va_D _ ([(h0, .inr (8, [.int 0, .ref q1, .ref q2, .ref q3, .int 0, .int 0, .int 0, .null])), (q1, .inl (cy 0, 200, .inl (fun _ => 0))), (q2, .inl (cy 1, 201, .inl (fun _ => 0))), (q3, .inl (cy 1, 201, .inl (fun _ => 0)))]) := hD
  refine lv_aload_n hx hb dX8_init_41 rfl (lv_at hl 0 rfl) ?_
  refine lv_iconst (v := 0) hx hb dX8_init_42 (by decide) ?_
  refine va_put (D := D) (ci := 8) (v := .int 0) (ty := tyX8 5) (C := RX8) (T := TX8) (N := 8) hx hb E.ht inX8 tyX8 tyX8_ok nmX8 E.hown E.hK hP hD hS 0 rfl rfl 5 (by decide) (E.ht _ k1_81) (fun _ h9 => h9) rfl (tyX8_ok 5 (by decide)) rfl rfl (Nat.le_of_ble_eq_true rfl) dX8_init_43 (fun H locs hP hD hS => ?_)
  have hP : va_P D vwCl ([(h0, .inr (8, [.int 0, .ref q1, .ref q2, .ref q3, .int 0, .int 0, .int 0, .null])), (q1, .inl (cy 0, 200, .inl (fun _ => 0))), (q2, .inl (cy 1, 201, .inl (fun _ => 0))), (q3, .inl (cy 1, 201, .inl (fun _ => 0)))]) H := hP
  have hD : va_D _ ([(h0, .inr (8, [.int 0, .ref q1, .ref q2, .ref q3, .int 0, .int 0, .int 0, .null])), (q1, .inl (cy 0, 200, .inl (fun _ => 0))), (q2, .inl (cy 1, 201, .inl (fun _ => 0))), (q3, .inl (cy 1, 201, .inl (fun _ => 0)))]) := hD
  refine lv_aload_n hx hb dX8_init_46 rfl (lv_at hl 0 rfl) ?_
  refine lv_iconst (v := (-1)) hx hb dX8_init_47 (by decide) ?_
  refine va_put (D := D) (ci := 8) (v := .int (-1)) (ty := tyX8 6) (C := RX8) (T := TX8) (N := 8) hx hb E.ht inX8 tyX8 tyX8_ok nmX8 E.hown E.hK hP hD hS 0 rfl rfl 6 (by decide) (E.ht _ k1_82) (fun _ h9 => h9) rfl (tyX8_ok 6 (by decide)) rfl rfl (Nat.le_of_ble_eq_true rfl) dX8_init_48 (fun H locs hP hD hS => ?_)
  have hP : va_P D vwCl ([(h0, .inr (8, [.int 0, .ref q1, .ref q2, .ref q3, .int 0, .int 0, .int (-1), .null])), (q1, .inl (cy 0, 200, .inl (fun _ => 0))), (q2, .inl (cy 1, 201, .inl (fun _ => 0))), (q3, .inl (cy 1, 201, .inl (fun _ => 0)))]) H := hP
  have hD : va_D _ ([(h0, .inr (8, [.int 0, .ref q1, .ref q2, .ref q3, .int 0, .int 0, .int (-1), .null])), (q1, .inl (cy 0, 200, .inl (fun _ => 0))), (q2, .inl (cy 1, 201, .inl (fun _ => 0))), (q3, .inl (cy 1, 201, .inl (fun _ => 0)))]) := hD
  refine lv_aload_n hx hb dX8_init_51 rfl (lv_at hl 0 rfl) ?_
  refine va_new (ci := 9) (fs := [.int 0, .int 0, .null, .null, .null, .null, .null, .null]) (C := RX9) (T := TX9) (N := 8) hx hb E.ht inX9 tyX9 tyX9_ok E.hown (E.ht _ k1_38) (E.ht _ k1_39) (E.ht _ k1_3) E.hK hP hD hS hA rfl (by decide) (Nat.le_of_ble_eq_true rfl) (Nat.le_of_ble_eq_true rfl) dX8_init_52 (fun q4 H hP hD hS => ?_)
  refine W.widen (k := 4) (n := 610) (Nat.le_of_ble_eq_true rfl) (Nat.le_of_ble_eq_true rfl) ?_
  refine lv_dup hx hb dX8_init_55 rfl ?_
  refine nmk (y := (q4, .inr (9, [.int 0, .int 0, .null, .null, .null, .null, .null, .null]))) (X := [(h0, .inr (8, [.int 0, .ref q1, .ref q2, .ref q3, .int 0, .int 0, .int (-1), .null])), (q1, .inl (cy 0, 200, .inl (fun _ => 0))), (q2, .inl (cy 1, 201, .inl (fun _ => 0))), (q3, .inl (cy 1, 201, .inl (fun _ => 0)))]) (w := fun u => g_X9_init_9 cy q4 u) hP hD hS hA (va_runIN (As := []) (rest := [.ref q4, .ref h0]) E.fix (c_X9_init_9 (l := l) (D := D) (cy := cy) q4 H.size) ⟨ncN E k1_42 k1_3 k1_40 mf_X9_init rfl rfl ⟨Nat.le_of_ble_eq_true rfl, Nat.le_of_ble_eq_true rfl⟩, rfl, E.ht _ k1_41⟩ (nPre E (fun k q hk => (by have hk0 : k = 0 := by { have := (List.getElem?_eq_some_iff.mp hk).1; simp at this; omega }; subst hk0; cases hk; exact hP 4 _ rfl)) _) rfl rfl hl.1 rfl (lv_room (Nat.le_of_ble_eq_true rfl)) dX8_init_56 ⟨Nat.le_of_ble_eq_true rfl, Nat.le_of_ble_eq_true rfl⟩) (fun u5 H locs hP hD hS => ?_)
  have hP : va_P D vwCl ([(h0, .inr (8, [.int 0, .ref q1, .ref q2, .ref q3, .int 0, .int 0, .int (-1), .null])), (q1, .inl (cy 0, 200, .inl (fun _ => 0))), (q2, .inl (cy 1, 201, .inl (fun _ => 0))), (q3, .inl (cy 1, 201, .inl (fun _ => 0))), (q4, .inr (9, [.int 0, .int 0, .ref (u5 0), .ref (u5 1), .ref (u5 2), .ref (u5 3), .ref (u5 4), .ref (u5 5)])), ((u5 0), .inl (cy 1, 8, .inl (fun _ => 0))), ((u5 1), .inl (cy 1, 8, .inl (fun _ => 0))), ((u5 2), .inl (cy 1, 8, .inl (fun _ => 0))), ((u5 3), .inl (cy 1, 8, .inl (fun _ => 0))), ((u5 4), .inl (cy 1, 200, .inl (fun _ => 0))), ((u5 5), .inl (cy 1, 5, .inl (fun _ => 0)))]) H := hP
  have hD : va_D _ ([(h0, .inr (8, [.int 0, .ref q1, .ref q2, .ref q3, .int 0, .int 0, .int (-1), .null])), (q1, .inl (cy 0, 200, .inl (fun _ => 0))), (q2, .inl (cy 1, 201, .inl (fun _ => 0))), (q3, .inl (cy 1, 201, .inl (fun _ => 0))), (q4, .inr (9, [.int 0, .int 0, .ref (u5 0), .ref (u5 1), .ref (u5 2), .ref (u5 3), .ref (u5 4), .ref (u5 5)])), ((u5 0), .inl (cy 1, 8, .inl (fun _ => 0))), ((u5 1), .inl (cy 1, 8, .inl (fun _ => 0))), ((u5 2), .inl (cy 1, 8, .inl (fun _ => 0))), ((u5 3), .inl (cy 1, 8, .inl (fun _ => 0))), ((u5 4), .inl (cy 1, 200, .inl (fun _ => 0))), ((u5 5), .inl (cy 1, 5, .inl (fun _ => 0)))]) := hD
  refine W.widen (k := 10) (n := 847) (Nat.le_of_ble_eq_true rfl) (Nat.le_of_ble_eq_true rfl) ?_
  refine va_putF (D := D) (ci := 8) (v := .ref q4) (ty := tyX8 7) (C := RX8) (T := TX8) (N := 8) hx hb E.ht inX8 tyX8 tyX8_ok nmX8 E.hown E.hK hP hD hS 0 rfl rfl 7 (by decide) (E.ht _ k1_83) (fun _ h9 => h9) rfl hin rfl (tyX8_ok 7 (by decide)) rfl rfl (Nat.le_of_ble_eq_true rfl) dX8_init_59 (fun H locs hP hD hS => ?_)
  have hP : va_P D vwCl ([(h0, .inr (8, [.int 0, .ref q1, .ref q2, .ref q3, .int 0, .int 0, .int (-1), .ref q4])), (q1, .inl (cy 0, 200, .inl (fun _ => 0))), (q2, .inl (cy 1, 201, .inl (fun _ => 0))), (q3, .inl (cy 1, 201, .inl (fun _ => 0))), (q4, .inr (9, [.int 0, .int 0, .ref (u5 0), .ref (u5 1), .ref (u5 2), .ref (u5 3), .ref (u5 4), .ref (u5 5)])), ((u5 0), .inl (cy 1, 8, .inl (fun _ => 0))), ((u5 1), .inl (cy 1, 8, .inl (fun _ => 0))), ((u5 2), .inl (cy 1, 8, .inl (fun _ => 0))), ((u5 3), .inl (cy 1, 8, .inl (fun _ => 0))), ((u5 4), .inl (cy 1, 200, .inl (fun _ => 0))), ((u5 5), .inl (cy 1, 5, .inl (fun _ => 0)))]) H := hP
  have hD : va_D _ ([(h0, .inr (8, [.int 0, .ref q1, .ref q2, .ref q3, .int 0, .int 0, .int (-1), .ref q4])), (q1, .inl (cy 0, 200, .inl (fun _ => 0))), (q2, .inl (cy 1, 201, .inl (fun _ => 0))), (q3, .inl (cy 1, 201, .inl (fun _ => 0))), (q4, .inr (9, [.int 0, .int 0, .ref (u5 0), .ref (u5 1), .ref (u5 2), .ref (u5 3), .ref (u5 4), .ref (u5 5)])), ((u5 0), .inl (cy 1, 8, .inl (fun _ => 0))), ((u5 1), .inl (cy 1, 8, .inl (fun _ => 0))), ((u5 2), .inl (cy 1, 8, .inl (fun _ => 0))), ((u5 3), .inl (cy 1, 8, .inl (fun _ => 0))), ((u5 4), .inl (cy 1, 200, .inl (fun _ => 0))), ((u5 5), .inl (cy 1, 5, .inl (fun _ => 0)))]) := hD
  exact W.vret hx hb hr (fun t ht _ => ⟨⟨(fun k => ([q1, q2, q3, q4, (u5 0), (u5 1), (u5 2), (u5 3), (u5 4), (u5 5)] : List Nat).getD k 0), rfl, trivial, by rw [ht]; exact hP, hD⟩, hS.F ht⟩) hS.2.2 dX8_init_62 hlk
def g_X10_init_10 (cy : Cy) (h0 : Nat) (u : Nat → Nat) : va_W := [(h0, .inr (10, [.int 0, .int 0, .int 0, .int 0, .ref (u 0), .ref (u 1)])), ((u 0), .inl (cy 1, 6, .inl (fun _ => 0))), ((u 1), .inl (cy 1, 6, .inl (fun _ => 0)))]
set_option maxRecDepth 100000 in
set_option maxHeartbeats 8000000 in
theorem c_X10_init_10 {l : Launch} {D : va_G} {cy : Cy} (h0 sz : Nat) : Met l yX10_init (.code yX10_init cX10_init 1 none :: TT) ({ frames := 1, cells := 2, slots := 12, locals := 12 } : Room) (zPn D cy sz [(h0, .inr (10, [.int 0, .int 0, .int 0, .int 0, .null, .null]))] [.ref h0]) (zQn D (fun u => g_X10_init_10 cy h0 u) (va_A [(h0, .inr (10, [.int 0, .int 0, .int 0, .int 0, .null, .null]))] sz)) 2 12 (va_A [(h0, .inr (10, [.int 0, .int 0, .int 0, .int 0, .null, .null]))] sz) := by
  refine nofW (by decide) (Nat.le_of_ble_eq_true rfl) ?_
  intro p e s m args below meth c ls E hsz hP hr hlk hin hl
  have E : ZI p s m args c cX10_init 1 "KiteSummons$Sky" D cy := E
  have hx := E.hx
  have hb := E.hb
  subst hsz
  have hD0 : va_D (va_A [(h0, .inr (10, [.int 0, .int 0, .int 0, .int 0, .null, .null]))] s.heap.size) [(h0, .inr (10, [.int 0, .int 0, .int 0, .int 0, .null, .null]))] := va_D.self (A := fun _ => True) ⟨fun i j p q hp hq _ => (by have h1 := (List.getElem?_eq_some_iff.mp hp).1; have h2 := (List.getElem?_eq_some_iff.mp hq).1; simp at h1 h2; omega), fun _ _ _ => trivial⟩
  have hA : ∀ q : Nat, s.heap.size ≤ q → va_A [(h0, .inr (10, [.int 0, .int 0, .int 0, .int 0, .null, .null]))] s.heap.size q := fun q h => Or.inr h
  generalize hAe : va_A [(h0, .inr (10, [.int 0, .int 0, .int 0, .int 0, .null, .null]))] s.heap.size = A at hD0 hA ⊢
  have hD := hD0
  have hS : va_S A s.heap s.heap [] := va_S.rf
  have hl : lv_has ls 1 [(0, .ref h0)] := hl
  refine lv_aload_n hx hb dX10_init_0 rfl (lv_at hl 0 rfl) ?_
  refine W.objInit hx hb E.hown (E.ht _ k1_106) (E.ht _ k1_28) (E.ht _ k1_29) rfl (by rw [E.hml]; exact hl.1) rfl dX10_init_1 (Nat.le_of_ble_eq_true rfl) (Nat.le_of_ble_eq_true rfl) ?_
  change W _ _ _ _ _ _ _ _ _ _ _ _ _ _ _ (F0 m 4 ls [])
  refine lv_aload_n hx hb dX10_init_4 rfl (lv_at hl 0 rfl) ?_
  refine lv_iconst (v := 0) hx hb dX10_init_5 (by decide) ?_
  refine va_put (D := D) (ci := 10) (v := .int 0) (ty := tyX10 0) (C := RX10) (T := TX10) (N := 6) hx hb E.ht inX10 tyX10 tyX10_ok nmX10 E.hown E.hK hP hD hS 0 rfl rfl 0 (by decide) (E.ht _ k1_107) (fun _ h9 => h9) rfl (tyX10_ok 0 (by decide)) rfl rfl (Nat.le_of_ble_eq_true rfl) dX10_init_6 (fun H locs hP hD hS => ?_)
  have hP : va_P D vwCl ([(h0, .inr (10, [.int 0, .int 0, .int 0, .int 0, .null, .null]))]) H := hP
  have hD : va_D _ ([(h0, .inr (10, [.int 0, .int 0, .int 0, .int 0, .null, .null]))]) := hD
  refine lv_aload_n hx hb dX10_init_9 rfl (lv_at hl 0 rfl) ?_
  refine lv_iconst (v := 0) hx hb dX10_init_10 (by decide) ?_
  refine va_put (D := D) (ci := 10) (v := .int 0) (ty := tyX10 1) (C := RX10) (T := TX10) (N := 6) hx hb E.ht inX10 tyX10 tyX10_ok nmX10 E.hown E.hK hP hD hS 0 rfl rfl 1 (by decide) (E.ht _ k1_110) (fun _ h9 => h9) rfl (tyX10_ok 1 (by decide)) rfl rfl (Nat.le_of_ble_eq_true rfl) dX10_init_11 (fun H locs hP hD hS => ?_)
  have hP : va_P D vwCl ([(h0, .inr (10, [.int 0, .int 0, .int 0, .int 0, .null, .null]))]) H := hP
  have hD : va_D _ ([(h0, .inr (10, [.int 0, .int 0, .int 0, .int 0, .null, .null]))]) := hD
  refine lv_aload_n hx hb dX10_init_14 rfl (lv_at hl 0 rfl) ?_
  refine lv_iconst (v := 0) hx hb dX10_init_15 (by decide) ?_
  refine va_put (D := D) (ci := 10) (v := .int 0) (ty := tyX10 2) (C := RX10) (T := TX10) (N := 6) hx hb E.ht inX10 tyX10 tyX10_ok nmX10 E.hown E.hK hP hD hS 0 rfl rfl 2 (by decide) (E.ht _ k1_113) (fun _ h9 => h9) rfl (tyX10_ok 2 (by decide)) rfl rfl (Nat.le_of_ble_eq_true rfl) dX10_init_16 (fun H locs hP hD hS => ?_)
  have hP : va_P D vwCl ([(h0, .inr (10, [.int 0, .int 0, .int 0, .int 0, .null, .null]))]) H := hP
  have hD : va_D _ ([(h0, .inr (10, [.int 0, .int 0, .int 0, .int 0, .null, .null]))]) := hD
  refine lv_aload_n hx hb dX10_init_19 rfl (lv_at hl 0 rfl) ?_
  refine lv_iconst (v := 0) hx hb dX10_init_20 (by decide) ?_
  refine va_put (D := D) (ci := 10) (v := .int 0) (ty := tyX10 3) (C := RX10) (T := TX10) (N := 6) hx hb E.ht inX10 tyX10 tyX10_ok nmX10 E.hown E.hK hP hD hS 0 rfl rfl 3 (by decide) (E.ht _ k1_116) (fun _ h9 => h9) rfl (tyX10_ok 3 (by decide)) rfl rfl (Nat.le_of_ble_eq_true rfl) dX10_init_21 (fun H locs hP hD hS => ?_)
  have hP : va_P D vwCl ([(h0, .inr (10, [.int 0, .int 0, .int 0, .int 0, .null, .null]))]) H := hP
  have hD : va_D _ ([(h0, .inr (10, [.int 0, .int 0, .int 0, .int 0, .null, .null]))]) := hD
  refine lv_aload_n hx hb dX10_init_24 rfl (lv_at hl 0 rfl) ?_
  refine lv_bipush (v := 6) hx hb dX10_init_25 (by decide) ?_
  refine nnewi (N := 6) E hP hD hS hA (by decide) (by decide) (Nat.le_of_ble_eq_true rfl) (Nat.le_of_ble_eq_true rfl) (Nat.le_of_ble_eq_true rfl) dX10_init_27 (fun q1 H hP hD hS => ?_)
  have hP : va_P D vwCl ([(h0, .inr (10, [.int 0, .int 0, .int 0, .int 0, .null, .null])), (q1, .inl (cy 1, 6, .inl (fun _ => 0)))]) H := hP
  have hD : va_D _ ([(h0, .inr (10, [.int 0, .int 0, .int 0, .int 0, .null, .null])), (q1, .inl (cy 1, 6, .inl (fun _ => 0)))]) := hD
  refine W.widen (k := 1) (n := 6) (Nat.le_of_ble_eq_true rfl) (Nat.le_of_ble_eq_true rfl) ?_
  refine va_putF (D := D) (ci := 10) (v := .ref q1) (ty := tyX10 4) (C := RX10) (T := TX10) (N := 6) hx hb E.ht inX10 tyX10 tyX10_ok nmX10 E.hown E.hK hP hD hS 0 rfl rfl 4 (by decide) (E.ht _ k1_120) (fun _ h9 => h9) rfl hin rfl (tyX10_ok 4 (by decide)) rfl rfl (Nat.le_of_ble_eq_true rfl) dX10_init_29 (fun H locs hP hD hS => ?_)
  have hP : va_P D vwCl ([(h0, .inr (10, [.int 0, .int 0, .int 0, .int 0, .ref q1, .null])), (q1, .inl (cy 1, 6, .inl (fun _ => 0)))]) H := hP
  have hD : va_D _ ([(h0, .inr (10, [.int 0, .int 0, .int 0, .int 0, .ref q1, .null])), (q1, .inl (cy 1, 6, .inl (fun _ => 0)))]) := hD
  refine lv_aload_n hx hb dX10_init_32 rfl (lv_at hl 0 rfl) ?_
  refine lv_bipush (v := 6) hx hb dX10_init_33 (by decide) ?_
  refine nnewi (N := 6) E hP hD hS hA (by decide) (by decide) (Nat.le_of_ble_eq_true rfl) (Nat.le_of_ble_eq_true rfl) (Nat.le_of_ble_eq_true rfl) dX10_init_35 (fun q2 H hP hD hS => ?_)
  have hP : va_P D vwCl ([(h0, .inr (10, [.int 0, .int 0, .int 0, .int 0, .ref q1, .null])), (q1, .inl (cy 1, 6, .inl (fun _ => 0))), (q2, .inl (cy 1, 6, .inl (fun _ => 0)))]) H := hP
  have hD : va_D _ ([(h0, .inr (10, [.int 0, .int 0, .int 0, .int 0, .ref q1, .null])), (q1, .inl (cy 1, 6, .inl (fun _ => 0))), (q2, .inl (cy 1, 6, .inl (fun _ => 0)))]) := hD
  refine W.widen (k := 2) (n := 12) (Nat.le_of_ble_eq_true rfl) (Nat.le_of_ble_eq_true rfl) ?_
  refine va_putF (D := D) (ci := 10) (v := .ref q2) (ty := tyX10 5) (C := RX10) (T := TX10) (N := 6) hx hb E.ht inX10 tyX10 tyX10_ok nmX10 E.hown E.hK hP hD hS 0 rfl rfl 5 (by decide) (E.ht _ k1_123) (fun _ h9 => h9) rfl hin rfl (tyX10_ok 5 (by decide)) rfl rfl (Nat.le_of_ble_eq_true rfl) dX10_init_37 (fun H locs hP hD hS => ?_)
  have hP : va_P D vwCl ([(h0, .inr (10, [.int 0, .int 0, .int 0, .int 0, .ref q1, .ref q2])), (q1, .inl (cy 1, 6, .inl (fun _ => 0))), (q2, .inl (cy 1, 6, .inl (fun _ => 0)))]) H := hP
  have hD : va_D _ ([(h0, .inr (10, [.int 0, .int 0, .int 0, .int 0, .ref q1, .ref q2])), (q1, .inl (cy 1, 6, .inl (fun _ => 0))), (q2, .inl (cy 1, 6, .inl (fun _ => 0)))]) := hD
  exact W.vret hx hb hr (fun t ht _ => ⟨⟨(fun k => ([q1, q2] : List Nat).getD k 0), rfl, trivial, by rw [ht]; exact hP, hD⟩, hS.F ht⟩) hS.2.2 dX10_init_40 hlk
def g_X4_init_4 (cy : Cy) (h0 : Nat) (b0 : Nat) (u : Nat → Nat) : va_W := [(h0, .inr (4, [.ref b0, .int 0, .int 0, .int 0, .int 0]))]
set_option maxRecDepth 100000 in
set_option maxHeartbeats 8000000 in
theorem c_X4_init_4 {l : Launch} {D : va_G} {cy : Cy} (h0 sz : Nat) (b0 : Nat) : Met l yX4_init (.code yX4_init cX4_init 2 none :: TT) ({ frames := 1, cells := 0, slots := 0, locals := 12 } : Room) (zPn D cy sz [(h0, .inr (4, [.null, .int 0, .int 0, .int 0, .int 0]))] [.ref h0, .ref b0]) (zQn D (fun u => g_X4_init_4 cy h0 b0 u) (va_A [(h0, .inr (4, [.null, .int 0, .int 0, .int 0, .int 0]))] sz)) 0 0 (va_A [(h0, .inr (4, [.null, .int 0, .int 0, .int 0, .int 0]))] sz) := by
  refine nofW (by decide) (Nat.le_of_ble_eq_true rfl) ?_
  intro p e s m args below meth c ls E hsz hP hr hlk hin hl
  have E : ZI p s m args c cX4_init 2 "KiteSummons$Kite" D cy := E
  have hx := E.hx
  have hb := E.hb
  subst hsz
  have hD0 : va_D (va_A [(h0, .inr (4, [.null, .int 0, .int 0, .int 0, .int 0]))] s.heap.size) [(h0, .inr (4, [.null, .int 0, .int 0, .int 0, .int 0]))] := va_D.self (A := fun _ => True) ⟨fun i j p q hp hq _ => (by have h1 := (List.getElem?_eq_some_iff.mp hp).1; have h2 := (List.getElem?_eq_some_iff.mp hq).1; simp at h1 h2; omega), fun _ _ _ => trivial⟩
  have hA : ∀ q : Nat, s.heap.size ≤ q → va_A [(h0, .inr (4, [.null, .int 0, .int 0, .int 0, .int 0]))] s.heap.size q := fun q h => Or.inr h
  generalize hAe : va_A [(h0, .inr (4, [.null, .int 0, .int 0, .int 0, .int 0]))] s.heap.size = A at hD0 hA ⊢
  have hD := hD0
  have hS : va_S A s.heap s.heap [] := va_S.rf
  have hl : lv_has ls 2 [(0, .ref h0), (1, .ref b0)] := hl
  refine lv_aload_n hx hb dX4_init_0 rfl (lv_at hl 0 rfl) ?_
  refine W.objInit hx hb E.hown (E.ht _ k1_147) (E.ht _ k1_28) (E.ht _ k1_29) rfl (by rw [E.hml]; exact hl.1) rfl dX4_init_1 (Nat.le_of_ble_eq_true rfl) (Nat.le_of_ble_eq_true rfl) ?_
  change W _ _ _ _ _ _ _ _ _ _ _ _ _ _ _ (F0 m 4 ls [])
  refine lv_aload_n hx hb dX4_init_4 rfl (lv_at hl 0 rfl) ?_
  refine lv_iconst (v := 0) hx hb dX4_init_5 (by decide) ?_
  refine va_put (D := D) (ci := 4) (v := .int 0) (ty := tyX4 1) (C := RX4) (T := TX4) (N := 5) hx hb E.ht inX4 tyX4 tyX4_ok nmX4 E.hown E.hK hP hD hS 0 rfl rfl 1 (by decide) (E.ht _ k1_149) (fun _ h9 => h9) rfl (tyX4_ok 1 (by decide)) rfl rfl (Nat.le_of_ble_eq_true rfl) dX4_init_6 (fun H locs hP hD hS => ?_)
  have hP : va_P D vwCl ([(h0, .inr (4, [.null, .int 0, .int 0, .int 0, .int 0]))]) H := hP
  have hD : va_D _ ([(h0, .inr (4, [.null, .int 0, .int 0, .int 0, .int 0]))]) := hD
  refine lv_aload_n hx hb dX4_init_9 rfl (lv_at hl 0 rfl) ?_
  refine lv_iconst (v := 0) hx hb dX4_init_10 (by decide) ?_
  refine va_put (D := D) (ci := 4) (v := .int 0) (ty := tyX4 2) (C := RX4) (T := TX4) (N := 5) hx hb E.ht inX4 tyX4 tyX4_ok nmX4 E.hown E.hK hP hD hS 0 rfl rfl 2 (by decide) (E.ht _ k1_156) (fun _ h9 => h9) rfl (tyX4_ok 2 (by decide)) rfl rfl (Nat.le_of_ble_eq_true rfl) dX4_init_11 (fun H locs hP hD hS => ?_)
  have hP : va_P D vwCl ([(h0, .inr (4, [.null, .int 0, .int 0, .int 0, .int 0]))]) H := hP
  have hD : va_D _ ([(h0, .inr (4, [.null, .int 0, .int 0, .int 0, .int 0]))]) := hD
  refine lv_aload_n hx hb dX4_init_14 rfl (lv_at hl 0 rfl) ?_
  refine lv_iconst (v := 0) hx hb dX4_init_15 (by decide) ?_
  refine va_put (D := D) (ci := 4) (v := .int 0) (ty := tyX4 3) (C := RX4) (T := TX4) (N := 5) hx hb E.ht inX4 tyX4 tyX4_ok nmX4 E.hown E.hK hP hD hS 0 rfl rfl 3 (by decide) (E.ht _ k1_159) (fun _ h9 => h9) rfl (tyX4_ok 3 (by decide)) rfl rfl (Nat.le_of_ble_eq_true rfl) dX4_init_16 (fun H locs hP hD hS => ?_)
  have hP : va_P D vwCl ([(h0, .inr (4, [.null, .int 0, .int 0, .int 0, .int 0]))]) H := hP
  have hD : va_D _ ([(h0, .inr (4, [.null, .int 0, .int 0, .int 0, .int 0]))]) := hD
  refine lv_aload_n hx hb dX4_init_19 rfl (lv_at hl 0 rfl) ?_
  refine lv_iconst (v := 0) hx hb dX4_init_20 (by decide) ?_
  refine va_put (D := D) (ci := 4) (v := .int 0) (ty := tyX4 4) (C := RX4) (T := TX4) (N := 5) hx hb E.ht inX4 tyX4 tyX4_ok nmX4 E.hown E.hK hP hD hS 0 rfl rfl 4 (by decide) (E.ht _ k1_161) (fun _ h9 => h9) rfl (tyX4_ok 4 (by decide)) rfl rfl (Nat.le_of_ble_eq_true rfl) dX4_init_21 (fun H locs hP hD hS => ?_)
  have hP : va_P D vwCl ([(h0, .inr (4, [.null, .int 0, .int 0, .int 0, .int 0]))]) H := hP
  have hD : va_D _ ([(h0, .inr (4, [.null, .int 0, .int 0, .int 0, .int 0]))]) := hD
  refine lv_aload_n hx hb dX4_init_24 rfl (lv_at hl 0 rfl) ?_
  refine lv_aload_n hx hb dX4_init_25 rfl (lv_at hl 1 rfl) ?_
  refine va_putF (D := D) (ci := 4) (v := .ref b0) (ty := tyX4 0) (C := RX4) (T := TX4) (N := 5) hx hb E.ht inX4 tyX4 tyX4_ok nmX4 E.hown E.hK hP hD hS 0 rfl rfl 0 (by decide) (E.ht _ k1_148) (fun _ h9 => h9) rfl hin rfl (tyX4_ok 0 (by decide)) rfl rfl (Nat.le_of_ble_eq_true rfl) dX4_init_26 (fun H locs hP hD hS => ?_)
  have hP : va_P D vwCl ([(h0, .inr (4, [.ref b0, .int 0, .int 0, .int 0, .int 0]))]) H := hP
  have hD : va_D _ ([(h0, .inr (4, [.ref b0, .int 0, .int 0, .int 0, .int 0]))]) := hD
  exact W.vret hx hb hr (fun t ht _ => ⟨⟨(fun _ => 0), rfl, trivial, by rw [ht]; exact hP, hD⟩, hS.F ht⟩) hS.2.2 dX4_init_29 hlk
def g_X4_init_7 (cy : Cy) (h0 : Nat) (b0 : Nat) (u : Nat → Nat) : va_W := [(h0, .inr (7, [.ref b0, .int 0, .int 0, .int 0, .int 0]))]
set_option maxRecDepth 100000 in
set_option maxHeartbeats 8000000 in
theorem c_X4_init_7 {l : Launch} {D : va_G} {cy : Cy} (h0 sz : Nat) (b0 : Nat) : Met l yX4_init (.code yX4_init cX4_init 2 none :: TT) ({ frames := 1, cells := 0, slots := 0, locals := 12 } : Room) (zPn D cy sz [(h0, .inr (7, [.null, .int 0, .int 0, .int 0, .int 0]))] [.ref h0, .ref b0]) (zQn D (fun u => g_X4_init_7 cy h0 b0 u) (va_A [(h0, .inr (7, [.null, .int 0, .int 0, .int 0, .int 0]))] sz)) 0 0 (va_A [(h0, .inr (7, [.null, .int 0, .int 0, .int 0, .int 0]))] sz) := by
  refine nofW (by decide) (Nat.le_of_ble_eq_true rfl) ?_
  intro p e s m args below meth c ls E hsz hP hr hlk hin hl
  have E : ZI p s m args c cX4_init 2 "KiteSummons$Kite" D cy := E
  have hx := E.hx
  have hb := E.hb
  subst hsz
  have hD0 : va_D (va_A [(h0, .inr (7, [.null, .int 0, .int 0, .int 0, .int 0]))] s.heap.size) [(h0, .inr (7, [.null, .int 0, .int 0, .int 0, .int 0]))] := va_D.self (A := fun _ => True) ⟨fun i j p q hp hq _ => (by have h1 := (List.getElem?_eq_some_iff.mp hp).1; have h2 := (List.getElem?_eq_some_iff.mp hq).1; simp at h1 h2; omega), fun _ _ _ => trivial⟩
  have hA : ∀ q : Nat, s.heap.size ≤ q → va_A [(h0, .inr (7, [.null, .int 0, .int 0, .int 0, .int 0]))] s.heap.size q := fun q h => Or.inr h
  generalize hAe : va_A [(h0, .inr (7, [.null, .int 0, .int 0, .int 0, .int 0]))] s.heap.size = A at hD0 hA ⊢
  have hD := hD0
  have hS : va_S A s.heap s.heap [] := va_S.rf
  have hl : lv_has ls 2 [(0, .ref h0), (1, .ref b0)] := hl
  refine lv_aload_n hx hb dX4_init_0 rfl (lv_at hl 0 rfl) ?_
  refine W.objInit hx hb E.hown (E.ht _ k1_147) (E.ht _ k1_28) (E.ht _ k1_29) rfl (by rw [E.hml]; exact hl.1) rfl dX4_init_1 (Nat.le_of_ble_eq_true rfl) (Nat.le_of_ble_eq_true rfl) ?_
  change W _ _ _ _ _ _ _ _ _ _ _ _ _ _ _ (F0 m 4 ls [])
  refine lv_aload_n hx hb dX4_init_4 rfl (lv_at hl 0 rfl) ?_
  refine lv_iconst (v := 0) hx hb dX4_init_5 (by decide) ?_
  refine va_put (D := D) (ci := 7) (v := .int 0) (ty := tyX7 1) (C := RX7) (T := TX7) (N := 5) hx hb E.ht inX7 tyX7 tyX7_ok nmX7 E.hown E.hK hP hD hS 0 rfl rfl 1 (by decide) (E.ht _ k1_149) (fun _ h9 => h9) rfl (tyX7_ok 1 (by decide)) rfl rfl (Nat.le_of_ble_eq_true rfl) dX4_init_6 (fun H locs hP hD hS => ?_)
  have hP : va_P D vwCl ([(h0, .inr (7, [.null, .int 0, .int 0, .int 0, .int 0]))]) H := hP
  have hD : va_D _ ([(h0, .inr (7, [.null, .int 0, .int 0, .int 0, .int 0]))]) := hD
  refine lv_aload_n hx hb dX4_init_9 rfl (lv_at hl 0 rfl) ?_
  refine lv_iconst (v := 0) hx hb dX4_init_10 (by decide) ?_
  refine va_put (D := D) (ci := 7) (v := .int 0) (ty := tyX7 2) (C := RX7) (T := TX7) (N := 5) hx hb E.ht inX7 tyX7 tyX7_ok nmX7 E.hown E.hK hP hD hS 0 rfl rfl 2 (by decide) (E.ht _ k1_156) (fun _ h9 => h9) rfl (tyX7_ok 2 (by decide)) rfl rfl (Nat.le_of_ble_eq_true rfl) dX4_init_11 (fun H locs hP hD hS => ?_)
  have hP : va_P D vwCl ([(h0, .inr (7, [.null, .int 0, .int 0, .int 0, .int 0]))]) H := hP
  have hD : va_D _ ([(h0, .inr (7, [.null, .int 0, .int 0, .int 0, .int 0]))]) := hD
  refine lv_aload_n hx hb dX4_init_14 rfl (lv_at hl 0 rfl) ?_
  refine lv_iconst (v := 0) hx hb dX4_init_15 (by decide) ?_
  refine va_put (D := D) (ci := 7) (v := .int 0) (ty := tyX7 3) (C := RX7) (T := TX7) (N := 5) hx hb E.ht inX7 tyX7 tyX7_ok nmX7 E.hown E.hK hP hD hS 0 rfl rfl 3 (by decide) (E.ht _ k1_159) (fun _ h9 => h9) rfl (tyX7_ok 3 (by decide)) rfl rfl (Nat.le_of_ble_eq_true rfl) dX4_init_16 (fun H locs hP hD hS => ?_)
  have hP : va_P D vwCl ([(h0, .inr (7, [.null, .int 0, .int 0, .int 0, .int 0]))]) H := hP
  have hD : va_D _ ([(h0, .inr (7, [.null, .int 0, .int 0, .int 0, .int 0]))]) := hD
  refine lv_aload_n hx hb dX4_init_19 rfl (lv_at hl 0 rfl) ?_
  refine lv_iconst (v := 0) hx hb dX4_init_20 (by decide) ?_
  refine va_put (D := D) (ci := 7) (v := .int 0) (ty := tyX7 4) (C := RX7) (T := TX7) (N := 5) hx hb E.ht inX7 tyX7 tyX7_ok nmX7 E.hown E.hK hP hD hS 0 rfl rfl 4 (by decide) (E.ht _ k1_161) (fun _ h9 => h9) rfl (tyX7_ok 4 (by decide)) rfl rfl (Nat.le_of_ble_eq_true rfl) dX4_init_21 (fun H locs hP hD hS => ?_)
  have hP : va_P D vwCl ([(h0, .inr (7, [.null, .int 0, .int 0, .int 0, .int 0]))]) H := hP
  have hD : va_D _ ([(h0, .inr (7, [.null, .int 0, .int 0, .int 0, .int 0]))]) := hD
  refine lv_aload_n hx hb dX4_init_24 rfl (lv_at hl 0 rfl) ?_
  refine lv_aload_n hx hb dX4_init_25 rfl (lv_at hl 1 rfl) ?_
  refine va_putF (D := D) (ci := 7) (v := .ref b0) (ty := tyX7 0) (C := RX7) (T := TX7) (N := 5) hx hb E.ht inX7 tyX7 tyX7_ok nmX7 E.hown E.hK hP hD hS 0 rfl rfl 0 (by decide) (E.ht _ k1_148) (fun _ h9 => h9) rfl hin rfl (tyX7_ok 0 (by decide)) rfl rfl (Nat.le_of_ble_eq_true rfl) dX4_init_26 (fun H locs hP hD hS => ?_)
  have hP : va_P D vwCl ([(h0, .inr (7, [.ref b0, .int 0, .int 0, .int 0, .int 0]))]) H := hP
  have hD : va_D _ ([(h0, .inr (7, [.ref b0, .int 0, .int 0, .int 0, .int 0]))]) := hD
  exact W.vret hx hb hr (fun t ht _ => ⟨⟨(fun _ => 0), rfl, trivial, by rw [ht]; exact hP, hD⟩, hS.F ht⟩) hS.2.2 dX4_init_29 hlk
def g_X7_init_7 (cy : Cy) (h0 : Nat) (b0 : Nat) (u : Nat → Nat) : va_W := [(h0, .inr (7, [.ref b0, .int 0, .int 0, .int 0, .int 0]))]
set_option maxRecDepth 100000 in
set_option maxHeartbeats 8000000 in
theorem c_X7_init_7 {l : Launch} {D : va_G} {cy : Cy} (h0 sz : Nat) (b0 : Nat) : Met l yX7_init (.code yX7_init cX7_init 2 none :: TT) ({ frames := 2, cells := 0, slots := 0, locals := 33 } : Room) (zPn D cy sz [(h0, .inr (7, [.null, .int 0, .int 0, .int 0, .int 0]))] [.ref h0, .ref b0]) (zQn D (fun u => g_X7_init_7 cy h0 b0 u) (va_A [(h0, .inr (7, [.null, .int 0, .int 0, .int 0, .int 0]))] sz)) 0 0 (va_A [(h0, .inr (7, [.null, .int 0, .int 0, .int 0, .int 0]))] sz) := by
  refine nofW (by decide) (Nat.le_of_ble_eq_true rfl) ?_
  intro p e s m args below meth c ls E hsz hP hr hlk hin hl
  have E : ZI p s m args c cX7_init 2 "KiteSummons$Red" D cy := E
  have hx := E.hx
  have hb := E.hb
  subst hsz
  have hD0 : va_D (va_A [(h0, .inr (7, [.null, .int 0, .int 0, .int 0, .int 0]))] s.heap.size) [(h0, .inr (7, [.null, .int 0, .int 0, .int 0, .int 0]))] := va_D.self (A := fun _ => True) ⟨fun i j p q hp hq _ => (by have h1 := (List.getElem?_eq_some_iff.mp hp).1; have h2 := (List.getElem?_eq_some_iff.mp hq).1; simp at h1 h2; omega), fun _ _ _ => trivial⟩
  have hA : ∀ q : Nat, s.heap.size ≤ q → va_A [(h0, .inr (7, [.null, .int 0, .int 0, .int 0, .int 0]))] s.heap.size q := fun q h => Or.inr h
  generalize hAe : va_A [(h0, .inr (7, [.null, .int 0, .int 0, .int 0, .int 0]))] s.heap.size = A at hD0 hA ⊢
  have hD := hD0
  have hS : va_S A s.heap s.heap [] := va_S.rf
  have hl : lv_has ls 2 [(0, .ref h0), (1, .ref b0)] := hl
  refine lv_aload_n hx hb dX7_init_0 rfl (lv_at hl 0 rfl) ?_
  refine lv_aload_n hx hb dX7_init_1 rfl (lv_at hl 1 rfl) ?_
  refine nmk (y := (h0, .inr (7, [.null, .int 0, .int 0, .int 0, .int 0]))) (X := []) (w := fun u => g_X4_init_7 cy h0 b0 u) hP hD hS hA (va_runI (As := [.ref b0]) (rest := []) E.fix (c_X4_init_7 (l := l) (D := D) (cy := cy) h0 s.heap.size b0) ⟨ncB E k1_146 k1_5 k1_180 mf_X4_init rfl rfl ⟨Nat.le_of_ble_eq_true rfl, Nat.le_of_ble_eq_true rfl⟩, rfl, E.ht _ k1_145⟩ (nPre E (fun k q hk => (by have hk0 : k = 0 := by { have := (List.getElem?_eq_some_iff.mp hk).1; simp at this; omega }; subst hk0; cases hk; exact hP 0 _ rfl)) _) rfl rfl hl.1 rfl (lv_room (Nat.le_of_ble_eq_true rfl)) dX7_init_2 ⟨Nat.le_of_ble_eq_true rfl, Nat.le_of_ble_eq_true rfl⟩) (fun u1 H locs hP hD hS => ?_)
  have hP : va_P D vwCl ([(h0, .inr (7, [.ref b0, .int 0, .int 0, .int 0, .int 0]))]) H := hP
  have hD : va_D _ ([(h0, .inr (7, [.ref b0, .int 0, .int 0, .int 0, .int 0]))]) := hD
  refine W.widen (k := 0) (n := 0) (Nat.le_of_ble_eq_true rfl) (Nat.le_of_ble_eq_true rfl) ?_
  exact W.vret hx hb hr (fun t ht _ => ⟨⟨(fun _ => 0), rfl, trivial, by rw [ht]; exact hP, hD⟩, hS.F ht⟩) hS.2.2 dX7_init_5 hlk
def g_X4_init_2 (cy : Cy) (h0 : Nat) (b0 : Nat) (u : Nat → Nat) : va_W := [(h0, .inr (2, [.ref b0, .int 0, .int 0, .int 0, .int 0]))]
set_option maxRecDepth 100000 in
set_option maxHeartbeats 8000000 in
theorem c_X4_init_2 {l : Launch} {D : va_G} {cy : Cy} (h0 sz : Nat) (b0 : Nat) : Met l yX4_init (.code yX4_init cX4_init 2 none :: TT) ({ frames := 1, cells := 0, slots := 0, locals := 12 } : Room) (zPn D cy sz [(h0, .inr (2, [.null, .int 0, .int 0, .int 0, .int 0]))] [.ref h0, .ref b0]) (zQn D (fun u => g_X4_init_2 cy h0 b0 u) (va_A [(h0, .inr (2, [.null, .int 0, .int 0, .int 0, .int 0]))] sz)) 0 0 (va_A [(h0, .inr (2, [.null, .int 0, .int 0, .int 0, .int 0]))] sz) := by
  refine nofW (by decide) (Nat.le_of_ble_eq_true rfl) ?_
  intro p e s m args below meth c ls E hsz hP hr hlk hin hl
  have E : ZI p s m args c cX4_init 2 "KiteSummons$Kite" D cy := E
  have hx := E.hx
  have hb := E.hb
  subst hsz
  have hD0 : va_D (va_A [(h0, .inr (2, [.null, .int 0, .int 0, .int 0, .int 0]))] s.heap.size) [(h0, .inr (2, [.null, .int 0, .int 0, .int 0, .int 0]))] := va_D.self (A := fun _ => True) ⟨fun i j p q hp hq _ => (by have h1 := (List.getElem?_eq_some_iff.mp hp).1; have h2 := (List.getElem?_eq_some_iff.mp hq).1; simp at h1 h2; omega), fun _ _ _ => trivial⟩
  have hA : ∀ q : Nat, s.heap.size ≤ q → va_A [(h0, .inr (2, [.null, .int 0, .int 0, .int 0, .int 0]))] s.heap.size q := fun q h => Or.inr h
  generalize hAe : va_A [(h0, .inr (2, [.null, .int 0, .int 0, .int 0, .int 0]))] s.heap.size = A at hD0 hA ⊢
  have hD := hD0
  have hS : va_S A s.heap s.heap [] := va_S.rf
  have hl : lv_has ls 2 [(0, .ref h0), (1, .ref b0)] := hl
  refine lv_aload_n hx hb dX4_init_0 rfl (lv_at hl 0 rfl) ?_
  refine W.objInit hx hb E.hown (E.ht _ k1_147) (E.ht _ k1_28) (E.ht _ k1_29) rfl (by rw [E.hml]; exact hl.1) rfl dX4_init_1 (Nat.le_of_ble_eq_true rfl) (Nat.le_of_ble_eq_true rfl) ?_
  change W _ _ _ _ _ _ _ _ _ _ _ _ _ _ _ (F0 m 4 ls [])
  refine lv_aload_n hx hb dX4_init_4 rfl (lv_at hl 0 rfl) ?_
  refine lv_iconst (v := 0) hx hb dX4_init_5 (by decide) ?_
  refine va_put (D := D) (ci := 2) (v := .int 0) (ty := tyX2 1) (C := RX2) (T := TX2) (N := 5) hx hb E.ht inX2 tyX2 tyX2_ok nmX2 E.hown E.hK hP hD hS 0 rfl rfl 1 (by decide) (E.ht _ k1_149) (fun _ h9 => h9) rfl (tyX2_ok 1 (by decide)) rfl rfl (Nat.le_of_ble_eq_true rfl) dX4_init_6 (fun H locs hP hD hS => ?_)
  have hP : va_P D vwCl ([(h0, .inr (2, [.null, .int 0, .int 0, .int 0, .int 0]))]) H := hP
  have hD : va_D _ ([(h0, .inr (2, [.null, .int 0, .int 0, .int 0, .int 0]))]) := hD
  refine lv_aload_n hx hb dX4_init_9 rfl (lv_at hl 0 rfl) ?_
  refine lv_iconst (v := 0) hx hb dX4_init_10 (by decide) ?_
  refine va_put (D := D) (ci := 2) (v := .int 0) (ty := tyX2 2) (C := RX2) (T := TX2) (N := 5) hx hb E.ht inX2 tyX2 tyX2_ok nmX2 E.hown E.hK hP hD hS 0 rfl rfl 2 (by decide) (E.ht _ k1_156) (fun _ h9 => h9) rfl (tyX2_ok 2 (by decide)) rfl rfl (Nat.le_of_ble_eq_true rfl) dX4_init_11 (fun H locs hP hD hS => ?_)
  have hP : va_P D vwCl ([(h0, .inr (2, [.null, .int 0, .int 0, .int 0, .int 0]))]) H := hP
  have hD : va_D _ ([(h0, .inr (2, [.null, .int 0, .int 0, .int 0, .int 0]))]) := hD
  refine lv_aload_n hx hb dX4_init_14 rfl (lv_at hl 0 rfl) ?_
  refine lv_iconst (v := 0) hx hb dX4_init_15 (by decide) ?_
  refine va_put (D := D) (ci := 2) (v := .int 0) (ty := tyX2 3) (C := RX2) (T := TX2) (N := 5) hx hb E.ht inX2 tyX2 tyX2_ok nmX2 E.hown E.hK hP hD hS 0 rfl rfl 3 (by decide) (E.ht _ k1_159) (fun _ h9 => h9) rfl (tyX2_ok 3 (by decide)) rfl rfl (Nat.le_of_ble_eq_true rfl) dX4_init_16 (fun H locs hP hD hS => ?_)
  have hP : va_P D vwCl ([(h0, .inr (2, [.null, .int 0, .int 0, .int 0, .int 0]))]) H := hP
  have hD : va_D _ ([(h0, .inr (2, [.null, .int 0, .int 0, .int 0, .int 0]))]) := hD
  refine lv_aload_n hx hb dX4_init_19 rfl (lv_at hl 0 rfl) ?_
  refine lv_iconst (v := 0) hx hb dX4_init_20 (by decide) ?_
  refine va_put (D := D) (ci := 2) (v := .int 0) (ty := tyX2 4) (C := RX2) (T := TX2) (N := 5) hx hb E.ht inX2 tyX2 tyX2_ok nmX2 E.hown E.hK hP hD hS 0 rfl rfl 4 (by decide) (E.ht _ k1_161) (fun _ h9 => h9) rfl (tyX2_ok 4 (by decide)) rfl rfl (Nat.le_of_ble_eq_true rfl) dX4_init_21 (fun H locs hP hD hS => ?_)
  have hP : va_P D vwCl ([(h0, .inr (2, [.null, .int 0, .int 0, .int 0, .int 0]))]) H := hP
  have hD : va_D _ ([(h0, .inr (2, [.null, .int 0, .int 0, .int 0, .int 0]))]) := hD
  refine lv_aload_n hx hb dX4_init_24 rfl (lv_at hl 0 rfl) ?_
  refine lv_aload_n hx hb dX4_init_25 rfl (lv_at hl 1 rfl) ?_
  refine va_putF (D := D) (ci := 2) (v := .ref b0) (ty := tyX2 0) (C := RX2) (T := TX2) (N := 5) hx hb E.ht inX2 tyX2 tyX2_ok nmX2 E.hown E.hK hP hD hS 0 rfl rfl 0 (by decide) (E.ht _ k1_148) (fun _ h9 => h9) rfl hin rfl (tyX2_ok 0 (by decide)) rfl rfl (Nat.le_of_ble_eq_true rfl) dX4_init_26 (fun H locs hP hD hS => ?_)
  have hP : va_P D vwCl ([(h0, .inr (2, [.ref b0, .int 0, .int 0, .int 0, .int 0]))]) H := hP
  have hD : va_D _ ([(h0, .inr (2, [.ref b0, .int 0, .int 0, .int 0, .int 0]))]) := hD
  exact W.vret hx hb hr (fun t ht _ => ⟨⟨(fun _ => 0), rfl, trivial, by rw [ht]; exact hP, hD⟩, hS.F ht⟩) hS.2.2 dX4_init_29 hlk
def g_X2_init_2 (cy : Cy) (h0 : Nat) (b0 : Nat) (u : Nat → Nat) : va_W := [(h0, .inr (2, [.ref b0, .int 0, .int 0, .int 0, .int 0]))]
set_option maxRecDepth 100000 in
set_option maxHeartbeats 8000000 in
theorem c_X2_init_2 {l : Launch} {D : va_G} {cy : Cy} (h0 sz : Nat) (b0 : Nat) : Met l yX2_init (.code yX2_init cX2_init 2 none :: TT) ({ frames := 2, cells := 0, slots := 0, locals := 33 } : Room) (zPn D cy sz [(h0, .inr (2, [.null, .int 0, .int 0, .int 0, .int 0]))] [.ref h0, .ref b0]) (zQn D (fun u => g_X2_init_2 cy h0 b0 u) (va_A [(h0, .inr (2, [.null, .int 0, .int 0, .int 0, .int 0]))] sz)) 0 0 (va_A [(h0, .inr (2, [.null, .int 0, .int 0, .int 0, .int 0]))] sz) := by
  refine nofW (by decide) (Nat.le_of_ble_eq_true rfl) ?_
  intro p e s m args below meth c ls E hsz hP hr hlk hin hl
  have E : ZI p s m args c cX2_init 2 "KiteSummons$Heavy" D cy := E
  have hx := E.hx
  have hb := E.hb
  subst hsz
  have hD0 : va_D (va_A [(h0, .inr (2, [.null, .int 0, .int 0, .int 0, .int 0]))] s.heap.size) [(h0, .inr (2, [.null, .int 0, .int 0, .int 0, .int 0]))] := va_D.self (A := fun _ => True) ⟨fun i j p q hp hq _ => (by have h1 := (List.getElem?_eq_some_iff.mp hp).1; have h2 := (List.getElem?_eq_some_iff.mp hq).1; simp at h1 h2; omega), fun _ _ _ => trivial⟩
  have hA : ∀ q : Nat, s.heap.size ≤ q → va_A [(h0, .inr (2, [.null, .int 0, .int 0, .int 0, .int 0]))] s.heap.size q := fun q h => Or.inr h
  generalize hAe : va_A [(h0, .inr (2, [.null, .int 0, .int 0, .int 0, .int 0]))] s.heap.size = A at hD0 hA ⊢
  have hD := hD0
  have hS : va_S A s.heap s.heap [] := va_S.rf
  have hl : lv_has ls 2 [(0, .ref h0), (1, .ref b0)] := hl
  refine lv_aload_n hx hb dX2_init_0 rfl (lv_at hl 0 rfl) ?_
  refine lv_aload_n hx hb dX2_init_1 rfl (lv_at hl 1 rfl) ?_
  refine nmk (y := (h0, .inr (2, [.null, .int 0, .int 0, .int 0, .int 0]))) (X := []) (w := fun u => g_X4_init_2 cy h0 b0 u) hP hD hS hA (va_runI (As := [.ref b0]) (rest := []) E.fix (c_X4_init_2 (l := l) (D := D) (cy := cy) h0 s.heap.size b0) ⟨ncB E k1_146 k1_5 k1_192 mf_X4_init rfl rfl ⟨Nat.le_of_ble_eq_true rfl, Nat.le_of_ble_eq_true rfl⟩, rfl, E.ht _ k1_145⟩ (nPre E (fun k q hk => (by have hk0 : k = 0 := by { have := (List.getElem?_eq_some_iff.mp hk).1; simp at this; omega }; subst hk0; cases hk; exact hP 0 _ rfl)) _) rfl rfl hl.1 rfl (lv_room (Nat.le_of_ble_eq_true rfl)) dX2_init_2 ⟨Nat.le_of_ble_eq_true rfl, Nat.le_of_ble_eq_true rfl⟩) (fun u1 H locs hP hD hS => ?_)
  have hP : va_P D vwCl ([(h0, .inr (2, [.ref b0, .int 0, .int 0, .int 0, .int 0]))]) H := hP
  have hD : va_D _ ([(h0, .inr (2, [.ref b0, .int 0, .int 0, .int 0, .int 0]))]) := hD
  refine W.widen (k := 0) (n := 0) (Nat.le_of_ble_eq_true rfl) (Nat.le_of_ble_eq_true rfl) ?_
  exact W.vret hx hb hr (fun t ht _ => ⟨⟨(fun _ => 0), rfl, trivial, by rw [ht]; exact hP, hD⟩, hS.F ht⟩) hS.2.2 dX2_init_5 hlk
def g_X4_init_3 (cy : Cy) (h0 : Nat) (b0 : Nat) (u : Nat → Nat) : va_W := [(h0, .inr (3, [.ref b0, .int 0, .int 0, .int 0, .int 0]))]
set_option maxRecDepth 100000 in
set_option maxHeartbeats 8000000 in
theorem c_X4_init_3 {l : Launch} {D : va_G} {cy : Cy} (h0 sz : Nat) (b0 : Nat) : Met l yX4_init (.code yX4_init cX4_init 2 none :: TT) ({ frames := 1, cells := 0, slots := 0, locals := 12 } : Room) (zPn D cy sz [(h0, .inr (3, [.null, .int 0, .int 0, .int 0, .int 0]))] [.ref h0, .ref b0]) (zQn D (fun u => g_X4_init_3 cy h0 b0 u) (va_A [(h0, .inr (3, [.null, .int 0, .int 0, .int 0, .int 0]))] sz)) 0 0 (va_A [(h0, .inr (3, [.null, .int 0, .int 0, .int 0, .int 0]))] sz) := by
  refine nofW (by decide) (Nat.le_of_ble_eq_true rfl) ?_
  intro p e s m args below meth c ls E hsz hP hr hlk hin hl
  have E : ZI p s m args c cX4_init 2 "KiteSummons$Kite" D cy := E
  have hx := E.hx
  have hb := E.hb
  subst hsz
  have hD0 : va_D (va_A [(h0, .inr (3, [.null, .int 0, .int 0, .int 0, .int 0]))] s.heap.size) [(h0, .inr (3, [.null, .int 0, .int 0, .int 0, .int 0]))] := va_D.self (A := fun _ => True) ⟨fun i j p q hp hq _ => (by have h1 := (List.getElem?_eq_some_iff.mp hp).1; have h2 := (List.getElem?_eq_some_iff.mp hq).1; simp at h1 h2; omega), fun _ _ _ => trivial⟩
  have hA : ∀ q : Nat, s.heap.size ≤ q → va_A [(h0, .inr (3, [.null, .int 0, .int 0, .int 0, .int 0]))] s.heap.size q := fun q h => Or.inr h
  generalize hAe : va_A [(h0, .inr (3, [.null, .int 0, .int 0, .int 0, .int 0]))] s.heap.size = A at hD0 hA ⊢
  have hD := hD0
  have hS : va_S A s.heap s.heap [] := va_S.rf
  have hl : lv_has ls 2 [(0, .ref h0), (1, .ref b0)] := hl
  refine lv_aload_n hx hb dX4_init_0 rfl (lv_at hl 0 rfl) ?_
  refine W.objInit hx hb E.hown (E.ht _ k1_147) (E.ht _ k1_28) (E.ht _ k1_29) rfl (by rw [E.hml]; exact hl.1) rfl dX4_init_1 (Nat.le_of_ble_eq_true rfl) (Nat.le_of_ble_eq_true rfl) ?_
  change W _ _ _ _ _ _ _ _ _ _ _ _ _ _ _ (F0 m 4 ls [])
  refine lv_aload_n hx hb dX4_init_4 rfl (lv_at hl 0 rfl) ?_
  refine lv_iconst (v := 0) hx hb dX4_init_5 (by decide) ?_
  refine va_put (D := D) (ci := 3) (v := .int 0) (ty := tyX3 1) (C := RX3) (T := TX3) (N := 5) hx hb E.ht inX3 tyX3 tyX3_ok nmX3 E.hown E.hK hP hD hS 0 rfl rfl 1 (by decide) (E.ht _ k1_149) (fun _ h9 => h9) rfl (tyX3_ok 1 (by decide)) rfl rfl (Nat.le_of_ble_eq_true rfl) dX4_init_6 (fun H locs hP hD hS => ?_)
  have hP : va_P D vwCl ([(h0, .inr (3, [.null, .int 0, .int 0, .int 0, .int 0]))]) H := hP
  have hD : va_D _ ([(h0, .inr (3, [.null, .int 0, .int 0, .int 0, .int 0]))]) := hD
  refine lv_aload_n hx hb dX4_init_9 rfl (lv_at hl 0 rfl) ?_
  refine lv_iconst (v := 0) hx hb dX4_init_10 (by decide) ?_
  refine va_put (D := D) (ci := 3) (v := .int 0) (ty := tyX3 2) (C := RX3) (T := TX3) (N := 5) hx hb E.ht inX3 tyX3 tyX3_ok nmX3 E.hown E.hK hP hD hS 0 rfl rfl 2 (by decide) (E.ht _ k1_156) (fun _ h9 => h9) rfl (tyX3_ok 2 (by decide)) rfl rfl (Nat.le_of_ble_eq_true rfl) dX4_init_11 (fun H locs hP hD hS => ?_)
  have hP : va_P D vwCl ([(h0, .inr (3, [.null, .int 0, .int 0, .int 0, .int 0]))]) H := hP
  have hD : va_D _ ([(h0, .inr (3, [.null, .int 0, .int 0, .int 0, .int 0]))]) := hD
  refine lv_aload_n hx hb dX4_init_14 rfl (lv_at hl 0 rfl) ?_
  refine lv_iconst (v := 0) hx hb dX4_init_15 (by decide) ?_
  refine va_put (D := D) (ci := 3) (v := .int 0) (ty := tyX3 3) (C := RX3) (T := TX3) (N := 5) hx hb E.ht inX3 tyX3 tyX3_ok nmX3 E.hown E.hK hP hD hS 0 rfl rfl 3 (by decide) (E.ht _ k1_159) (fun _ h9 => h9) rfl (tyX3_ok 3 (by decide)) rfl rfl (Nat.le_of_ble_eq_true rfl) dX4_init_16 (fun H locs hP hD hS => ?_)
  have hP : va_P D vwCl ([(h0, .inr (3, [.null, .int 0, .int 0, .int 0, .int 0]))]) H := hP
  have hD : va_D _ ([(h0, .inr (3, [.null, .int 0, .int 0, .int 0, .int 0]))]) := hD
  refine lv_aload_n hx hb dX4_init_19 rfl (lv_at hl 0 rfl) ?_
  refine lv_iconst (v := 0) hx hb dX4_init_20 (by decide) ?_
  refine va_put (D := D) (ci := 3) (v := .int 0) (ty := tyX3 4) (C := RX3) (T := TX3) (N := 5) hx hb E.ht inX3 tyX3 tyX3_ok nmX3 E.hown E.hK hP hD hS 0 rfl rfl 4 (by decide) (E.ht _ k1_161) (fun _ h9 => h9) rfl (tyX3_ok 4 (by decide)) rfl rfl (Nat.le_of_ble_eq_true rfl) dX4_init_21 (fun H locs hP hD hS => ?_)
  have hP : va_P D vwCl ([(h0, .inr (3, [.null, .int 0, .int 0, .int 0, .int 0]))]) H := hP
  have hD : va_D _ ([(h0, .inr (3, [.null, .int 0, .int 0, .int 0, .int 0]))]) := hD
  refine lv_aload_n hx hb dX4_init_24 rfl (lv_at hl 0 rfl) ?_
  refine lv_aload_n hx hb dX4_init_25 rfl (lv_at hl 1 rfl) ?_
  refine va_putF (D := D) (ci := 3) (v := .ref b0) (ty := tyX3 0) (C := RX3) (T := TX3) (N := 5) hx hb E.ht inX3 tyX3 tyX3_ok nmX3 E.hown E.hK hP hD hS 0 rfl rfl 0 (by decide) (E.ht _ k1_148) (fun _ h9 => h9) rfl hin rfl (tyX3_ok 0 (by decide)) rfl rfl (Nat.le_of_ble_eq_true rfl) dX4_init_26 (fun H locs hP hD hS => ?_)
  have hP : va_P D vwCl ([(h0, .inr (3, [.ref b0, .int 0, .int 0, .int 0, .int 0]))]) H := hP
  have hD : va_D _ ([(h0, .inr (3, [.ref b0, .int 0, .int 0, .int 0, .int 0]))]) := hD
  exact W.vret hx hb hr (fun t ht _ => ⟨⟨(fun _ => 0), rfl, trivial, by rw [ht]; exact hP, hD⟩, hS.F ht⟩) hS.2.2 dX4_init_29 hlk
def g_X2_init_3 (cy : Cy) (h0 : Nat) (b0 : Nat) (u : Nat → Nat) : va_W := [(h0, .inr (3, [.ref b0, .int 0, .int 0, .int 0, .int 0]))]
set_option maxRecDepth 100000 in
set_option maxHeartbeats 8000000 in
theorem c_X2_init_3 {l : Launch} {D : va_G} {cy : Cy} (h0 sz : Nat) (b0 : Nat) : Met l yX2_init (.code yX2_init cX2_init 2 none :: TT) ({ frames := 2, cells := 0, slots := 0, locals := 33 } : Room) (zPn D cy sz [(h0, .inr (3, [.null, .int 0, .int 0, .int 0, .int 0]))] [.ref h0, .ref b0]) (zQn D (fun u => g_X2_init_3 cy h0 b0 u) (va_A [(h0, .inr (3, [.null, .int 0, .int 0, .int 0, .int 0]))] sz)) 0 0 (va_A [(h0, .inr (3, [.null, .int 0, .int 0, .int 0, .int 0]))] sz) := by
  refine nofW (by decide) (Nat.le_of_ble_eq_true rfl) ?_
  intro p e s m args below meth c ls E hsz hP hr hlk hin hl
  have E : ZI p s m args c cX2_init 2 "KiteSummons$Heavy" D cy := E
  have hx := E.hx
  have hb := E.hb
  subst hsz
  have hD0 : va_D (va_A [(h0, .inr (3, [.null, .int 0, .int 0, .int 0, .int 0]))] s.heap.size) [(h0, .inr (3, [.null, .int 0, .int 0, .int 0, .int 0]))] := va_D.self (A := fun _ => True) ⟨fun i j p q hp hq _ => (by have h1 := (List.getElem?_eq_some_iff.mp hp).1; have h2 := (List.getElem?_eq_some_iff.mp hq).1; simp at h1 h2; omega), fun _ _ _ => trivial⟩
  have hA : ∀ q : Nat, s.heap.size ≤ q → va_A [(h0, .inr (3, [.null, .int 0, .int 0, .int 0, .int 0]))] s.heap.size q := fun q h => Or.inr h
  generalize hAe : va_A [(h0, .inr (3, [.null, .int 0, .int 0, .int 0, .int 0]))] s.heap.size = A at hD0 hA ⊢
  have hD := hD0
  have hS : va_S A s.heap s.heap [] := va_S.rf
  have hl : lv_has ls 2 [(0, .ref h0), (1, .ref b0)] := hl
  refine lv_aload_n hx hb dX2_init_0 rfl (lv_at hl 0 rfl) ?_
  refine lv_aload_n hx hb dX2_init_1 rfl (lv_at hl 1 rfl) ?_
  refine nmk (y := (h0, .inr (3, [.null, .int 0, .int 0, .int 0, .int 0]))) (X := []) (w := fun u => g_X4_init_3 cy h0 b0 u) hP hD hS hA (va_runI (As := [.ref b0]) (rest := []) E.fix (c_X4_init_3 (l := l) (D := D) (cy := cy) h0 s.heap.size b0) ⟨ncB E k1_146 k1_5 k1_192 mf_X4_init rfl rfl ⟨Nat.le_of_ble_eq_true rfl, Nat.le_of_ble_eq_true rfl⟩, rfl, E.ht _ k1_145⟩ (nPre E (fun k q hk => (by have hk0 : k = 0 := by { have := (List.getElem?_eq_some_iff.mp hk).1; simp at this; omega }; subst hk0; cases hk; exact hP 0 _ rfl)) _) rfl rfl hl.1 rfl (lv_room (Nat.le_of_ble_eq_true rfl)) dX2_init_2 ⟨Nat.le_of_ble_eq_true rfl, Nat.le_of_ble_eq_true rfl⟩) (fun u1 H locs hP hD hS => ?_)
  have hP : va_P D vwCl ([(h0, .inr (3, [.ref b0, .int 0, .int 0, .int 0, .int 0]))]) H := hP
  have hD : va_D _ ([(h0, .inr (3, [.ref b0, .int 0, .int 0, .int 0, .int 0]))]) := hD
  refine W.widen (k := 0) (n := 0) (Nat.le_of_ble_eq_true rfl) (Nat.le_of_ble_eq_true rfl) ?_
  exact W.vret hx hb hr (fun t ht _ => ⟨⟨(fun _ => 0), rfl, trivial, by rw [ht]; exact hP, hD⟩, hS.F ht⟩) hS.2.2 dX2_init_5 hlk
def g_X3_init_3 (cy : Cy) (h0 : Nat) (b0 : Nat) (u : Nat → Nat) : va_W := [(h0, .inr (3, [.ref b0, .int 0, .int 0, .int 0, .int 0]))]
set_option maxRecDepth 100000 in
set_option maxHeartbeats 8000000 in
theorem c_X3_init_3 {l : Launch} {D : va_G} {cy : Cy} (h0 sz : Nat) (b0 : Nat) : Met l yX3_init (.code yX3_init cX3_init 2 none :: TT) ({ frames := 3, cells := 0, slots := 0, locals := 54 } : Room) (zPn D cy sz [(h0, .inr (3, [.null, .int 0, .int 0, .int 0, .int 0]))] [.ref h0, .ref b0]) (zQn D (fun u => g_X3_init_3 cy h0 b0 u) (va_A [(h0, .inr (3, [.null, .int 0, .int 0, .int 0, .int 0]))] sz)) 0 0 (va_A [(h0, .inr (3, [.null, .int 0, .int 0, .int 0, .int 0]))] sz) := by
  refine nofW (by decide) (Nat.le_of_ble_eq_true rfl) ?_
  intro p e s m args below meth c ls E hsz hP hr hlk hin hl
  have E : ZI p s m args c cX3_init 2 "KiteSummons$Judge" D cy := E
  have hx := E.hx
  have hb := E.hb
  subst hsz
  have hD0 : va_D (va_A [(h0, .inr (3, [.null, .int 0, .int 0, .int 0, .int 0]))] s.heap.size) [(h0, .inr (3, [.null, .int 0, .int 0, .int 0, .int 0]))] := va_D.self (A := fun _ => True) ⟨fun i j p q hp hq _ => (by have h1 := (List.getElem?_eq_some_iff.mp hp).1; have h2 := (List.getElem?_eq_some_iff.mp hq).1; simp at h1 h2; omega), fun _ _ _ => trivial⟩
  have hA : ∀ q : Nat, s.heap.size ≤ q → va_A [(h0, .inr (3, [.null, .int 0, .int 0, .int 0, .int 0]))] s.heap.size q := fun q h => Or.inr h
  generalize hAe : va_A [(h0, .inr (3, [.null, .int 0, .int 0, .int 0, .int 0]))] s.heap.size = A at hD0 hA ⊢
  have hD := hD0
  have hS : va_S A s.heap s.heap [] := va_S.rf
  have hl : lv_has ls 2 [(0, .ref h0), (1, .ref b0)] := hl
  refine lv_aload_n hx hb dX3_init_0 rfl (lv_at hl 0 rfl) ?_
  refine lv_aload_n hx hb dX3_init_1 rfl (lv_at hl 1 rfl) ?_
  refine nmk (y := (h0, .inr (3, [.null, .int 0, .int 0, .int 0, .int 0]))) (X := []) (w := fun u => g_X2_init_3 cy h0 b0 u) hP hD hS hA (va_runI (As := [.ref b0]) (rest := []) E.fix (c_X2_init_3 (l := l) (D := D) (cy := cy) h0 s.heap.size b0) ⟨ncB E k1_191 k1_7 k1_204 mf_X2_init rfl rfl ⟨Nat.le_of_ble_eq_true rfl, Nat.le_of_ble_eq_true rfl⟩, rfl, E.ht _ k1_190⟩ (nPre E (fun k q hk => (by have hk0 : k = 0 := by { have := (List.getElem?_eq_some_iff.mp hk).1; simp at this; omega }; subst hk0; cases hk; exact hP 0 _ rfl)) _) rfl rfl hl.1 rfl (lv_room (Nat.le_of_ble_eq_true rfl)) dX3_init_2 ⟨Nat.le_of_ble_eq_true rfl, Nat.le_of_ble_eq_true rfl⟩) (fun u1 H locs hP hD hS => ?_)
  have hP : va_P D vwCl ([(h0, .inr (3, [.ref b0, .int 0, .int 0, .int 0, .int 0]))]) H := hP
  have hD : va_D _ ([(h0, .inr (3, [.ref b0, .int 0, .int 0, .int 0, .int 0]))]) := hD
  refine W.widen (k := 0) (n := 0) (Nat.le_of_ble_eq_true rfl) (Nat.le_of_ble_eq_true rfl) ?_
  exact W.vret hx hb hr (fun t ht _ => ⟨⟨(fun _ => 0), rfl, trivial, by rw [ht]; exact hP, hD⟩, hS.F ht⟩) hS.2.2 dX3_init_5 hlk
def g_X4_init_0 (cy : Cy) (h0 : Nat) (b0 : Nat) (u : Nat → Nat) : va_W := [(h0, .inr (0, [.ref b0, .int 0, .int 0, .int 0, .int 0]))]
set_option maxRecDepth 100000 in
set_option maxHeartbeats 8000000 in
theorem c_X4_init_0 {l : Launch} {D : va_G} {cy : Cy} (h0 sz : Nat) (b0 : Nat) : Met l yX4_init (.code yX4_init cX4_init 2 none :: TT) ({ frames := 1, cells := 0, slots := 0, locals := 12 } : Room) (zPn D cy sz [(h0, .inr (0, [.null, .int 0, .int 0, .int 0, .int 0]))] [.ref h0, .ref b0]) (zQn D (fun u => g_X4_init_0 cy h0 b0 u) (va_A [(h0, .inr (0, [.null, .int 0, .int 0, .int 0, .int 0]))] sz)) 0 0 (va_A [(h0, .inr (0, [.null, .int 0, .int 0, .int 0, .int 0]))] sz) := by
  refine nofW (by decide) (Nat.le_of_ble_eq_true rfl) ?_
  intro p e s m args below meth c ls E hsz hP hr hlk hin hl
  have E : ZI p s m args c cX4_init 2 "KiteSummons$Kite" D cy := E
  have hx := E.hx
  have hb := E.hb
  subst hsz
  have hD0 : va_D (va_A [(h0, .inr (0, [.null, .int 0, .int 0, .int 0, .int 0]))] s.heap.size) [(h0, .inr (0, [.null, .int 0, .int 0, .int 0, .int 0]))] := va_D.self (A := fun _ => True) ⟨fun i j p q hp hq _ => (by have h1 := (List.getElem?_eq_some_iff.mp hp).1; have h2 := (List.getElem?_eq_some_iff.mp hq).1; simp at h1 h2; omega), fun _ _ _ => trivial⟩
  have hA : ∀ q : Nat, s.heap.size ≤ q → va_A [(h0, .inr (0, [.null, .int 0, .int 0, .int 0, .int 0]))] s.heap.size q := fun q h => Or.inr h
  generalize hAe : va_A [(h0, .inr (0, [.null, .int 0, .int 0, .int 0, .int 0]))] s.heap.size = A at hD0 hA ⊢
  have hD := hD0
  have hS : va_S A s.heap s.heap [] := va_S.rf
  have hl : lv_has ls 2 [(0, .ref h0), (1, .ref b0)] := hl
  refine lv_aload_n hx hb dX4_init_0 rfl (lv_at hl 0 rfl) ?_
  refine W.objInit hx hb E.hown (E.ht _ k1_147) (E.ht _ k1_28) (E.ht _ k1_29) rfl (by rw [E.hml]; exact hl.1) rfl dX4_init_1 (Nat.le_of_ble_eq_true rfl) (Nat.le_of_ble_eq_true rfl) ?_
  change W _ _ _ _ _ _ _ _ _ _ _ _ _ _ _ (F0 m 4 ls [])
  refine lv_aload_n hx hb dX4_init_4 rfl (lv_at hl 0 rfl) ?_
  refine lv_iconst (v := 0) hx hb dX4_init_5 (by decide) ?_
  refine va_put (D := D) (ci := 0) (v := .int 0) (ty := tyX0 1) (C := RX0) (T := TX0) (N := 5) hx hb E.ht inX0 tyX0 tyX0_ok nmX0 E.hown E.hK hP hD hS 0 rfl rfl 1 (by decide) (E.ht _ k1_149) (fun _ h9 => h9) rfl (tyX0_ok 1 (by decide)) rfl rfl (Nat.le_of_ble_eq_true rfl) dX4_init_6 (fun H locs hP hD hS => ?_)
  have hP : va_P D vwCl ([(h0, .inr (0, [.null, .int 0, .int 0, .int 0, .int 0]))]) H := hP
  have hD : va_D _ ([(h0, .inr (0, [.null, .int 0, .int 0, .int 0, .int 0]))]) := hD
  refine lv_aload_n hx hb dX4_init_9 rfl (lv_at hl 0 rfl) ?_
  refine lv_iconst (v := 0) hx hb dX4_init_10 (by decide) ?_
  refine va_put (D := D) (ci := 0) (v := .int 0) (ty := tyX0 2) (C := RX0) (T := TX0) (N := 5) hx hb E.ht inX0 tyX0 tyX0_ok nmX0 E.hown E.hK hP hD hS 0 rfl rfl 2 (by decide) (E.ht _ k1_156) (fun _ h9 => h9) rfl (tyX0_ok 2 (by decide)) rfl rfl (Nat.le_of_ble_eq_true rfl) dX4_init_11 (fun H locs hP hD hS => ?_)
  have hP : va_P D vwCl ([(h0, .inr (0, [.null, .int 0, .int 0, .int 0, .int 0]))]) H := hP
  have hD : va_D _ ([(h0, .inr (0, [.null, .int 0, .int 0, .int 0, .int 0]))]) := hD
  refine lv_aload_n hx hb dX4_init_14 rfl (lv_at hl 0 rfl) ?_
  refine lv_iconst (v := 0) hx hb dX4_init_15 (by decide) ?_
  refine va_put (D := D) (ci := 0) (v := .int 0) (ty := tyX0 3) (C := RX0) (T := TX0) (N := 5) hx hb E.ht inX0 tyX0 tyX0_ok nmX0 E.hown E.hK hP hD hS 0 rfl rfl 3 (by decide) (E.ht _ k1_159) (fun _ h9 => h9) rfl (tyX0_ok 3 (by decide)) rfl rfl (Nat.le_of_ble_eq_true rfl) dX4_init_16 (fun H locs hP hD hS => ?_)
  have hP : va_P D vwCl ([(h0, .inr (0, [.null, .int 0, .int 0, .int 0, .int 0]))]) H := hP
  have hD : va_D _ ([(h0, .inr (0, [.null, .int 0, .int 0, .int 0, .int 0]))]) := hD
  refine lv_aload_n hx hb dX4_init_19 rfl (lv_at hl 0 rfl) ?_
  refine lv_iconst (v := 0) hx hb dX4_init_20 (by decide) ?_
  refine va_put (D := D) (ci := 0) (v := .int 0) (ty := tyX0 4) (C := RX0) (T := TX0) (N := 5) hx hb E.ht inX0 tyX0 tyX0_ok nmX0 E.hown E.hK hP hD hS 0 rfl rfl 4 (by decide) (E.ht _ k1_161) (fun _ h9 => h9) rfl (tyX0_ok 4 (by decide)) rfl rfl (Nat.le_of_ble_eq_true rfl) dX4_init_21 (fun H locs hP hD hS => ?_)
  have hP : va_P D vwCl ([(h0, .inr (0, [.null, .int 0, .int 0, .int 0, .int 0]))]) H := hP
  have hD : va_D _ ([(h0, .inr (0, [.null, .int 0, .int 0, .int 0, .int 0]))]) := hD
  refine lv_aload_n hx hb dX4_init_24 rfl (lv_at hl 0 rfl) ?_
  refine lv_aload_n hx hb dX4_init_25 rfl (lv_at hl 1 rfl) ?_
  refine va_putF (D := D) (ci := 0) (v := .ref b0) (ty := tyX0 0) (C := RX0) (T := TX0) (N := 5) hx hb E.ht inX0 tyX0 tyX0_ok nmX0 E.hown E.hK hP hD hS 0 rfl rfl 0 (by decide) (E.ht _ k1_148) (fun _ h9 => h9) rfl hin rfl (tyX0_ok 0 (by decide)) rfl rfl (Nat.le_of_ble_eq_true rfl) dX4_init_26 (fun H locs hP hD hS => ?_)
  have hP : va_P D vwCl ([(h0, .inr (0, [.ref b0, .int 0, .int 0, .int 0, .int 0]))]) H := hP
  have hD : va_D _ ([(h0, .inr (0, [.ref b0, .int 0, .int 0, .int 0, .int 0]))]) := hD
  exact W.vret hx hb hr (fun t ht _ => ⟨⟨(fun _ => 0), rfl, trivial, by rw [ht]; exact hP, hD⟩, hS.F ht⟩) hS.2.2 dX4_init_29 hlk
def g_X0_init_0 (cy : Cy) (h0 : Nat) (b0 : Nat) (u : Nat → Nat) : va_W := [(h0, .inr (0, [.ref b0, .int 0, .int 0, .int 0, .int 0]))]
set_option maxRecDepth 100000 in
set_option maxHeartbeats 8000000 in
theorem c_X0_init_0 {l : Launch} {D : va_G} {cy : Cy} (h0 sz : Nat) (b0 : Nat) : Met l yX0_init (.code yX0_init cX0_init 2 none :: TT) ({ frames := 2, cells := 0, slots := 0, locals := 33 } : Room) (zPn D cy sz [(h0, .inr (0, [.null, .int 0, .int 0, .int 0, .int 0]))] [.ref h0, .ref b0]) (zQn D (fun u => g_X0_init_0 cy h0 b0 u) (va_A [(h0, .inr (0, [.null, .int 0, .int 0, .int 0, .int 0]))] sz)) 0 0 (va_A [(h0, .inr (0, [.null, .int 0, .int 0, .int 0, .int 0]))] sz) := by
  refine nofW (by decide) (Nat.le_of_ble_eq_true rfl) ?_
  intro p e s m args below meth c ls E hsz hP hr hlk hin hl
  have E : ZI p s m args c cX0_init 2 "KiteSummons$Box" D cy := E
  have hx := E.hx
  have hb := E.hb
  subst hsz
  have hD0 : va_D (va_A [(h0, .inr (0, [.null, .int 0, .int 0, .int 0, .int 0]))] s.heap.size) [(h0, .inr (0, [.null, .int 0, .int 0, .int 0, .int 0]))] := va_D.self (A := fun _ => True) ⟨fun i j p q hp hq _ => (by have h1 := (List.getElem?_eq_some_iff.mp hp).1; have h2 := (List.getElem?_eq_some_iff.mp hq).1; simp at h1 h2; omega), fun _ _ _ => trivial⟩
  have hA : ∀ q : Nat, s.heap.size ≤ q → va_A [(h0, .inr (0, [.null, .int 0, .int 0, .int 0, .int 0]))] s.heap.size q := fun q h => Or.inr h
  generalize hAe : va_A [(h0, .inr (0, [.null, .int 0, .int 0, .int 0, .int 0]))] s.heap.size = A at hD0 hA ⊢
  have hD := hD0
  have hS : va_S A s.heap s.heap [] := va_S.rf
  have hl : lv_has ls 2 [(0, .ref h0), (1, .ref b0)] := hl
  refine lv_aload_n hx hb dX0_init_0 rfl (lv_at hl 0 rfl) ?_
  refine lv_aload_n hx hb dX0_init_1 rfl (lv_at hl 1 rfl) ?_
  refine nmk (y := (h0, .inr (0, [.null, .int 0, .int 0, .int 0, .int 0]))) (X := []) (w := fun u => g_X4_init_0 cy h0 b0 u) hP hD hS hA (va_runI (As := [.ref b0]) (rest := []) E.fix (c_X4_init_0 (l := l) (D := D) (cy := cy) h0 s.heap.size b0) ⟨ncB E k1_146 k1_5 k1_216 mf_X4_init rfl rfl ⟨Nat.le_of_ble_eq_true rfl, Nat.le_of_ble_eq_true rfl⟩, rfl, E.ht _ k1_145⟩ (nPre E (fun k q hk => (by have hk0 : k = 0 := by { have := (List.getElem?_eq_some_iff.mp hk).1; simp at this; omega }; subst hk0; cases hk; exact hP 0 _ rfl)) _) rfl rfl hl.1 rfl (lv_room (Nat.le_of_ble_eq_true rfl)) dX0_init_2 ⟨Nat.le_of_ble_eq_true rfl, Nat.le_of_ble_eq_true rfl⟩) (fun u1 H locs hP hD hS => ?_)
  have hP : va_P D vwCl ([(h0, .inr (0, [.ref b0, .int 0, .int 0, .int 0, .int 0]))]) H := hP
  have hD : va_D _ ([(h0, .inr (0, [.ref b0, .int 0, .int 0, .int 0, .int 0]))]) := hD
  refine W.widen (k := 0) (n := 0) (Nat.le_of_ble_eq_true rfl) (Nat.le_of_ble_eq_true rfl) ?_
  exact W.vret hx hb hr (fun t ht _ => ⟨⟨(fun _ => 0), rfl, trivial, by rw [ht]; exact hP, hD⟩, hS.F ht⟩) hS.2.2 dX0_init_5 hlk
def g_X4_init_5 (cy : Cy) (h0 : Nat) (b0 : Nat) (u : Nat → Nat) : va_W := [(h0, .inr (5, [.ref b0, .int 0, .int 0, .int 0, .int 0]))]
set_option maxRecDepth 100000 in
set_option maxHeartbeats 8000000 in
theorem c_X4_init_5 {l : Launch} {D : va_G} {cy : Cy} (h0 sz : Nat) (b0 : Nat) : Met l yX4_init (.code yX4_init cX4_init 2 none :: TT) ({ frames := 1, cells := 0, slots := 0, locals := 12 } : Room) (zPn D cy sz [(h0, .inr (5, [.null, .int 0, .int 0, .int 0, .int 0]))] [.ref h0, .ref b0]) (zQn D (fun u => g_X4_init_5 cy h0 b0 u) (va_A [(h0, .inr (5, [.null, .int 0, .int 0, .int 0, .int 0]))] sz)) 0 0 (va_A [(h0, .inr (5, [.null, .int 0, .int 0, .int 0, .int 0]))] sz) := by
  refine nofW (by decide) (Nat.le_of_ble_eq_true rfl) ?_
  intro p e s m args below meth c ls E hsz hP hr hlk hin hl
  have E : ZI p s m args c cX4_init 2 "KiteSummons$Kite" D cy := E
  have hx := E.hx
  have hb := E.hb
  subst hsz
  have hD0 : va_D (va_A [(h0, .inr (5, [.null, .int 0, .int 0, .int 0, .int 0]))] s.heap.size) [(h0, .inr (5, [.null, .int 0, .int 0, .int 0, .int 0]))] := va_D.self (A := fun _ => True) ⟨fun i j p q hp hq _ => (by have h1 := (List.getElem?_eq_some_iff.mp hp).1; have h2 := (List.getElem?_eq_some_iff.mp hq).1; simp at h1 h2; omega), fun _ _ _ => trivial⟩
  have hA : ∀ q : Nat, s.heap.size ≤ q → va_A [(h0, .inr (5, [.null, .int 0, .int 0, .int 0, .int 0]))] s.heap.size q := fun q h => Or.inr h
  generalize hAe : va_A [(h0, .inr (5, [.null, .int 0, .int 0, .int 0, .int 0]))] s.heap.size = A at hD0 hA ⊢
  have hD := hD0
  have hS : va_S A s.heap s.heap [] := va_S.rf
  have hl : lv_has ls 2 [(0, .ref h0), (1, .ref b0)] := hl
  refine lv_aload_n hx hb dX4_init_0 rfl (lv_at hl 0 rfl) ?_
  refine W.objInit hx hb E.hown (E.ht _ k1_147) (E.ht _ k1_28) (E.ht _ k1_29) rfl (by rw [E.hml]; exact hl.1) rfl dX4_init_1 (Nat.le_of_ble_eq_true rfl) (Nat.le_of_ble_eq_true rfl) ?_
  change W _ _ _ _ _ _ _ _ _ _ _ _ _ _ _ (F0 m 4 ls [])
  refine lv_aload_n hx hb dX4_init_4 rfl (lv_at hl 0 rfl) ?_
  refine lv_iconst (v := 0) hx hb dX4_init_5 (by decide) ?_
  refine va_put (D := D) (ci := 5) (v := .int 0) (ty := tyX5 1) (C := RX5) (T := TX5) (N := 5) hx hb E.ht inX5 tyX5 tyX5_ok nmX5 E.hown E.hK hP hD hS 0 rfl rfl 1 (by decide) (E.ht _ k1_149) (fun _ h9 => h9) rfl (tyX5_ok 1 (by decide)) rfl rfl (Nat.le_of_ble_eq_true rfl) dX4_init_6 (fun H locs hP hD hS => ?_)
  have hP : va_P D vwCl ([(h0, .inr (5, [.null, .int 0, .int 0, .int 0, .int 0]))]) H := hP
  have hD : va_D _ ([(h0, .inr (5, [.null, .int 0, .int 0, .int 0, .int 0]))]) := hD
  refine lv_aload_n hx hb dX4_init_9 rfl (lv_at hl 0 rfl) ?_
  refine lv_iconst (v := 0) hx hb dX4_init_10 (by decide) ?_
  refine va_put (D := D) (ci := 5) (v := .int 0) (ty := tyX5 2) (C := RX5) (T := TX5) (N := 5) hx hb E.ht inX5 tyX5 tyX5_ok nmX5 E.hown E.hK hP hD hS 0 rfl rfl 2 (by decide) (E.ht _ k1_156) (fun _ h9 => h9) rfl (tyX5_ok 2 (by decide)) rfl rfl (Nat.le_of_ble_eq_true rfl) dX4_init_11 (fun H locs hP hD hS => ?_)
  have hP : va_P D vwCl ([(h0, .inr (5, [.null, .int 0, .int 0, .int 0, .int 0]))]) H := hP
  have hD : va_D _ ([(h0, .inr (5, [.null, .int 0, .int 0, .int 0, .int 0]))]) := hD
  refine lv_aload_n hx hb dX4_init_14 rfl (lv_at hl 0 rfl) ?_
  refine lv_iconst (v := 0) hx hb dX4_init_15 (by decide) ?_
  refine va_put (D := D) (ci := 5) (v := .int 0) (ty := tyX5 3) (C := RX5) (T := TX5) (N := 5) hx hb E.ht inX5 tyX5 tyX5_ok nmX5 E.hown E.hK hP hD hS 0 rfl rfl 3 (by decide) (E.ht _ k1_159) (fun _ h9 => h9) rfl (tyX5_ok 3 (by decide)) rfl rfl (Nat.le_of_ble_eq_true rfl) dX4_init_16 (fun H locs hP hD hS => ?_)
  have hP : va_P D vwCl ([(h0, .inr (5, [.null, .int 0, .int 0, .int 0, .int 0]))]) H := hP
  have hD : va_D _ ([(h0, .inr (5, [.null, .int 0, .int 0, .int 0, .int 0]))]) := hD
  refine lv_aload_n hx hb dX4_init_19 rfl (lv_at hl 0 rfl) ?_
  refine lv_iconst (v := 0) hx hb dX4_init_20 (by decide) ?_
  refine va_put (D := D) (ci := 5) (v := .int 0) (ty := tyX5 4) (C := RX5) (T := TX5) (N := 5) hx hb E.ht inX5 tyX5 tyX5_ok nmX5 E.hown E.hK hP hD hS 0 rfl rfl 4 (by decide) (E.ht _ k1_161) (fun _ h9 => h9) rfl (tyX5_ok 4 (by decide)) rfl rfl (Nat.le_of_ble_eq_true rfl) dX4_init_21 (fun H locs hP hD hS => ?_)
  have hP : va_P D vwCl ([(h0, .inr (5, [.null, .int 0, .int 0, .int 0, .int 0]))]) H := hP
  have hD : va_D _ ([(h0, .inr (5, [.null, .int 0, .int 0, .int 0, .int 0]))]) := hD
  refine lv_aload_n hx hb dX4_init_24 rfl (lv_at hl 0 rfl) ?_
  refine lv_aload_n hx hb dX4_init_25 rfl (lv_at hl 1 rfl) ?_
  refine va_putF (D := D) (ci := 5) (v := .ref b0) (ty := tyX5 0) (C := RX5) (T := TX5) (N := 5) hx hb E.ht inX5 tyX5 tyX5_ok nmX5 E.hown E.hK hP hD hS 0 rfl rfl 0 (by decide) (E.ht _ k1_148) (fun _ h9 => h9) rfl hin rfl (tyX5_ok 0 (by decide)) rfl rfl (Nat.le_of_ble_eq_true rfl) dX4_init_26 (fun H locs hP hD hS => ?_)
  have hP : va_P D vwCl ([(h0, .inr (5, [.ref b0, .int 0, .int 0, .int 0, .int 0]))]) H := hP
  have hD : va_D _ ([(h0, .inr (5, [.ref b0, .int 0, .int 0, .int 0, .int 0]))]) := hD
  exact W.vret hx hb hr (fun t ht _ => ⟨⟨(fun _ => 0), rfl, trivial, by rw [ht]; exact hP, hD⟩, hS.F ht⟩) hS.2.2 dX4_init_29 hlk
def g_X0_init_5 (cy : Cy) (h0 : Nat) (b0 : Nat) (u : Nat → Nat) : va_W := [(h0, .inr (5, [.ref b0, .int 0, .int 0, .int 0, .int 0]))]
set_option maxRecDepth 100000 in
set_option maxHeartbeats 8000000 in
theorem c_X0_init_5 {l : Launch} {D : va_G} {cy : Cy} (h0 sz : Nat) (b0 : Nat) : Met l yX0_init (.code yX0_init cX0_init 2 none :: TT) ({ frames := 2, cells := 0, slots := 0, locals := 33 } : Room) (zPn D cy sz [(h0, .inr (5, [.null, .int 0, .int 0, .int 0, .int 0]))] [.ref h0, .ref b0]) (zQn D (fun u => g_X0_init_5 cy h0 b0 u) (va_A [(h0, .inr (5, [.null, .int 0, .int 0, .int 0, .int 0]))] sz)) 0 0 (va_A [(h0, .inr (5, [.null, .int 0, .int 0, .int 0, .int 0]))] sz) := by
  refine nofW (by decide) (Nat.le_of_ble_eq_true rfl) ?_
  intro p e s m args below meth c ls E hsz hP hr hlk hin hl
  have E : ZI p s m args c cX0_init 2 "KiteSummons$Box" D cy := E
  have hx := E.hx
  have hb := E.hb
  subst hsz
  have hD0 : va_D (va_A [(h0, .inr (5, [.null, .int 0, .int 0, .int 0, .int 0]))] s.heap.size) [(h0, .inr (5, [.null, .int 0, .int 0, .int 0, .int 0]))] := va_D.self (A := fun _ => True) ⟨fun i j p q hp hq _ => (by have h1 := (List.getElem?_eq_some_iff.mp hp).1; have h2 := (List.getElem?_eq_some_iff.mp hq).1; simp at h1 h2; omega), fun _ _ _ => trivial⟩
  have hA : ∀ q : Nat, s.heap.size ≤ q → va_A [(h0, .inr (5, [.null, .int 0, .int 0, .int 0, .int 0]))] s.heap.size q := fun q h => Or.inr h
  generalize hAe : va_A [(h0, .inr (5, [.null, .int 0, .int 0, .int 0, .int 0]))] s.heap.size = A at hD0 hA ⊢
  have hD := hD0
  have hS : va_S A s.heap s.heap [] := va_S.rf
  have hl : lv_has ls 2 [(0, .ref h0), (1, .ref b0)] := hl
  refine lv_aload_n hx hb dX0_init_0 rfl (lv_at hl 0 rfl) ?_
  refine lv_aload_n hx hb dX0_init_1 rfl (lv_at hl 1 rfl) ?_
  refine nmk (y := (h0, .inr (5, [.null, .int 0, .int 0, .int 0, .int 0]))) (X := []) (w := fun u => g_X4_init_5 cy h0 b0 u) hP hD hS hA (va_runI (As := [.ref b0]) (rest := []) E.fix (c_X4_init_5 (l := l) (D := D) (cy := cy) h0 s.heap.size b0) ⟨ncB E k1_146 k1_5 k1_216 mf_X4_init rfl rfl ⟨Nat.le_of_ble_eq_true rfl, Nat.le_of_ble_eq_true rfl⟩, rfl, E.ht _ k1_145⟩ (nPre E (fun k q hk => (by have hk0 : k = 0 := by { have := (List.getElem?_eq_some_iff.mp hk).1; simp at this; omega }; subst hk0; cases hk; exact hP 0 _ rfl)) _) rfl rfl hl.1 rfl (lv_room (Nat.le_of_ble_eq_true rfl)) dX0_init_2 ⟨Nat.le_of_ble_eq_true rfl, Nat.le_of_ble_eq_true rfl⟩) (fun u1 H locs hP hD hS => ?_)
  have hP : va_P D vwCl ([(h0, .inr (5, [.ref b0, .int 0, .int 0, .int 0, .int 0]))]) H := hP
  have hD : va_D _ ([(h0, .inr (5, [.ref b0, .int 0, .int 0, .int 0, .int 0]))]) := hD
  refine W.widen (k := 0) (n := 0) (Nat.le_of_ble_eq_true rfl) (Nat.le_of_ble_eq_true rfl) ?_
  exact W.vret hx hb hr (fun t ht _ => ⟨⟨(fun _ => 0), rfl, trivial, by rw [ht]; exact hP, hD⟩, hS.F ht⟩) hS.2.2 dX0_init_5 hlk
def g_X5_init_5 (cy : Cy) (h0 : Nat) (b0 : Nat) (u : Nat → Nat) : va_W := [(h0, .inr (5, [.ref b0, .int 0, .int 0, .int 0, .int 0]))]
set_option maxRecDepth 100000 in
set_option maxHeartbeats 8000000 in
theorem c_X5_init_5 {l : Launch} {D : va_G} {cy : Cy} (h0 sz : Nat) (b0 : Nat) : Met l yX5_init (.code yX5_init cX5_init 2 none :: TT) ({ frames := 3, cells := 0, slots := 0, locals := 54 } : Room) (zPn D cy sz [(h0, .inr (5, [.null, .int 0, .int 0, .int 0, .int 0]))] [.ref h0, .ref b0]) (zQn D (fun u => g_X5_init_5 cy h0 b0 u) (va_A [(h0, .inr (5, [.null, .int 0, .int 0, .int 0, .int 0]))] sz)) 0 0 (va_A [(h0, .inr (5, [.null, .int 0, .int 0, .int 0, .int 0]))] sz) := by
  refine nofW (by decide) (Nat.le_of_ble_eq_true rfl) ?_
  intro p e s m args below meth c ls E hsz hP hr hlk hin hl
  have E : ZI p s m args c cX5_init 2 "KiteSummons$Old" D cy := E
  have hx := E.hx
  have hb := E.hb
  subst hsz
  have hD0 : va_D (va_A [(h0, .inr (5, [.null, .int 0, .int 0, .int 0, .int 0]))] s.heap.size) [(h0, .inr (5, [.null, .int 0, .int 0, .int 0, .int 0]))] := va_D.self (A := fun _ => True) ⟨fun i j p q hp hq _ => (by have h1 := (List.getElem?_eq_some_iff.mp hp).1; have h2 := (List.getElem?_eq_some_iff.mp hq).1; simp at h1 h2; omega), fun _ _ _ => trivial⟩
  have hA : ∀ q : Nat, s.heap.size ≤ q → va_A [(h0, .inr (5, [.null, .int 0, .int 0, .int 0, .int 0]))] s.heap.size q := fun q h => Or.inr h
  generalize hAe : va_A [(h0, .inr (5, [.null, .int 0, .int 0, .int 0, .int 0]))] s.heap.size = A at hD0 hA ⊢
  have hD := hD0
  have hS : va_S A s.heap s.heap [] := va_S.rf
  have hl : lv_has ls 2 [(0, .ref h0), (1, .ref b0)] := hl
  refine lv_aload_n hx hb dX5_init_0 rfl (lv_at hl 0 rfl) ?_
  refine lv_aload_n hx hb dX5_init_1 rfl (lv_at hl 1 rfl) ?_
  refine nmk (y := (h0, .inr (5, [.null, .int 0, .int 0, .int 0, .int 0]))) (X := []) (w := fun u => g_X0_init_5 cy h0 b0 u) hP hD hS hA (va_runI (As := [.ref b0]) (rest := []) E.fix (c_X0_init_5 (l := l) (D := D) (cy := cy) h0 s.heap.size b0) ⟨ncB E k1_215 k1_9 k1_228 mf_X0_init rfl rfl ⟨Nat.le_of_ble_eq_true rfl, Nat.le_of_ble_eq_true rfl⟩, rfl, E.ht _ k1_214⟩ (nPre E (fun k q hk => (by have hk0 : k = 0 := by { have := (List.getElem?_eq_some_iff.mp hk).1; simp at this; omega }; subst hk0; cases hk; exact hP 0 _ rfl)) _) rfl rfl hl.1 rfl (lv_room (Nat.le_of_ble_eq_true rfl)) dX5_init_2 ⟨Nat.le_of_ble_eq_true rfl, Nat.le_of_ble_eq_true rfl⟩) (fun u1 H locs hP hD hS => ?_)
  have hP : va_P D vwCl ([(h0, .inr (5, [.ref b0, .int 0, .int 0, .int 0, .int 0]))]) H := hP
  have hD : va_D _ ([(h0, .inr (5, [.ref b0, .int 0, .int 0, .int 0, .int 0]))]) := hD
  refine W.widen (k := 0) (n := 0) (Nat.le_of_ble_eq_true rfl) (Nat.le_of_ble_eq_true rfl) ?_
  exact W.vret hx hb hr (fun t ht _ => ⟨⟨(fun _ => 0), rfl, trivial, by rw [ht]; exact hP, hD⟩, hS.F ht⟩) hS.2.2 dX5_init_5 hlk
def g_X1_init_1 (cy : Cy) (h0 : Nat) (b0 : Nat) (u : Nat → Nat) : va_W := [(h0, .inr (1, [.ref b0, .int 0, .int 12, .int 1, .int 0, .ref (u 0), .ref (u 1), .ref (u 2), .ref (u 3), .ref (u 4), .ref (u 5), .ref (u 6), .ref (u 7), .ref (u 8), .ref (u 9), .ref (u 16)])), ((u 0), .inl (cy 1, 6, .inl (fun _ => 0))), ((u 1), .inl (cy 1, 6, .inl (fun _ => 0))), ((u 2), .inl (cy 1, 16, .inl (fun k => if k < 16 then 4 else (fun _ => 0) k))), ((u 3), .inl (cy 1, 6, .inl (fun _ => 0))), ((u 4), .inl (cy 1, 6, .inl (fun k => if k < 6 then 3 else (fun _ => 0) k))), ((u 5), .inl (cy 1, 6, .inl (fun _ => 0))), ((u 6), .inl (cy 1, 6, .inl (fun _ => 0))), ((u 7), .inl (cy 1, 6, .inl (fun _ => 0))), ((u 8), .inl (cy 1, 6, .inl (fun _ => 0))), ((u 9), .inr (9, [.int 0, .int 0, .ref (u 10), .ref (u 11), .ref (u 12), .ref (u 13), .ref (u 14), .ref (u 15)])), ((u 10), .inl (cy 1, 8, .inl (fun _ => 0))), ((u 11), .inl (cy 1, 8, .inl (fun _ => 0))), ((u 12), .inl (cy 1, 8, .inl (fun _ => 0))), ((u 13), .inl (cy 1, 8, .inl (fun _ => 0))), ((u 14), .inl (cy 1, 200, .inl (fun _ => 0))), ((u 15), .inl (cy 1, 5, .inl (fun _ => 0))), ((u 16), .inr (10, [.int 0, .int 0, .int 0, .int 0, .ref (u 17), .ref (u 18)])), ((u 17), .inl (cy 1, 6, .inl (fun _ => 0))), ((u 18), .inl (cy 1, 6, .inl (fun _ => 0)))]
set_option maxRecDepth 100000 in
set_option maxHeartbeats 8000000 in
theorem c_X1_init_1 {l : Launch} {D : va_G} {cy : Cy} (h0 sz : Nat) (b0 : Nat) : Met l yX1_init (.code yX1_init cX1_init 2 none :: TT) ({ frames := 2, cells := 19, slots := 327, locals := 32 } : Room) (zPn D cy sz [(h0, .inr (1, [.null, .int 0, .int 0, .int 0, .int 0, .null, .null, .null, .null, .null, .null, .null, .null, .null, .null, .null]))] [.ref h0, .ref b0]) (zQn D (fun u => g_X1_init_1 cy h0 b0 u) (va_A [(h0, .inr (1, [.null, .int 0, .int 0, .int 0, .int 0, .null, .null, .null, .null, .null, .null, .null, .null, .null, .null, .null]))] sz)) 19 327 (va_A [(h0, .inr (1, [.null, .int 0, .int 0, .int 0, .int 0, .null, .null, .null, .null, .null, .null, .null, .null, .null, .null, .null]))] sz) := by
  refine nofW (by decide) (Nat.le_of_ble_eq_true rfl) ?_
  intro p e s m args below meth c ls E hsz hP hr hlk hin hl
  have E : ZI p s m args c cX1_init 2 "KiteSummons$County" D cy := E
  have hx := E.hx
  have hb := E.hb
  subst hsz
  have hD0 : va_D (va_A [(h0, .inr (1, [.null, .int 0, .int 0, .int 0, .int 0, .null, .null, .null, .null, .null, .null, .null, .null, .null, .null, .null]))] s.heap.size) [(h0, .inr (1, [.null, .int 0, .int 0, .int 0, .int 0, .null, .null, .null, .null, .null, .null, .null, .null, .null, .null, .null]))] := va_D.self (A := fun _ => True) ⟨fun i j p q hp hq _ => (by have h1 := (List.getElem?_eq_some_iff.mp hp).1; have h2 := (List.getElem?_eq_some_iff.mp hq).1; simp at h1 h2; omega), fun _ _ _ => trivial⟩
  have hA : ∀ q : Nat, s.heap.size ≤ q → va_A [(h0, .inr (1, [.null, .int 0, .int 0, .int 0, .int 0, .null, .null, .null, .null, .null, .null, .null, .null, .null, .null, .null]))] s.heap.size q := fun q h => Or.inr h
  generalize hAe : va_A [(h0, .inr (1, [.null, .int 0, .int 0, .int 0, .int 0, .null, .null, .null, .null, .null, .null, .null, .null, .null, .null, .null]))] s.heap.size = A at hD0 hA ⊢
  have hD := hD0
  have hS : va_S A s.heap s.heap [] := va_S.rf
  have hl : lv_has ls 2 [(0, .ref h0), (1, .ref b0)] := hl
  refine lv_aload_n hx hb dX1_init_0 rfl (lv_at hl 0 rfl) ?_
  refine W.objInit hx hb E.hown (E.ht _ k2_0) (E.ht _ k1_28) (E.ht _ k1_29) rfl (by rw [E.hml]; exact hl.1) rfl dX1_init_1 (Nat.le_of_ble_eq_true rfl) (Nat.le_of_ble_eq_true rfl) ?_
  change W _ _ _ _ _ _ _ _ _ _ _ _ _ _ _ (F0 m 4 ls [])
  refine lv_aload_n hx hb dX1_init_4 rfl (lv_at hl 0 rfl) ?_
  refine lv_iconst (v := 0) hx hb dX1_init_5 (by decide) ?_
  refine va_put (D := D) (ci := 1) (v := .int 0) (ty := tyX1 1) (C := RX1) (T := TX1) (N := 16) hx hb E.ht inX1 tyX1 tyX1_ok nmX1 E.hown E.hK hP hD hS 0 rfl rfl 1 (by decide) (E.ht _ k2_9) (fun _ h9 => h9) rfl (tyX1_ok 1 (by decide)) rfl rfl (Nat.le_of_ble_eq_true rfl) dX1_init_6 (fun H locs hP hD hS => ?_)
  have hP : va_P D vwCl ([(h0, .inr (1, [.null, .int 0, .int 0, .int 0, .int 0, .null, .null, .null, .null, .null, .null, .null, .null, .null, .null, .null]))]) H := hP
  have hD : va_D _ ([(h0, .inr (1, [.null, .int 0, .int 0, .int 0, .int 0, .null, .null, .null, .null, .null, .null, .null, .null, .null, .null, .null]))]) := hD
  refine lv_aload_n hx hb dX1_init_9 rfl (lv_at hl 0 rfl) ?_
  refine lv_bipush (v := 12) hx hb dX1_init_10 (by decide) ?_
  refine va_put (D := D) (ci := 1) (v := .int 12) (ty := tyX1 2) (C := RX1) (T := TX1) (N := 16) hx hb E.ht inX1 tyX1 tyX1_ok nmX1 E.hown E.hK hP hD hS 0 rfl rfl 2 (by decide) (E.ht _ k2_12) (fun _ h9 => h9) rfl (tyX1_ok 2 (by decide)) rfl rfl (Nat.le_of_ble_eq_true rfl) dX1_init_12 (fun H locs hP hD hS => ?_)
  have hP : va_P D vwCl ([(h0, .inr (1, [.null, .int 0, .int 12, .int 0, .int 0, .null, .null, .null, .null, .null, .null, .null, .null, .null, .null, .null]))]) H := hP
  have hD : va_D _ ([(h0, .inr (1, [.null, .int 0, .int 12, .int 0, .int 0, .null, .null, .null, .null, .null, .null, .null, .null, .null, .null, .null]))]) := hD
  refine lv_aload_n hx hb dX1_init_15 rfl (lv_at hl 0 rfl) ?_
  refine lv_iconst (v := 1) hx hb dX1_init_16 (by decide) ?_
  refine va_put (D := D) (ci := 1) (v := .int 1) (ty := tyX1 3) (C := RX1) (T := TX1) (N := 16) hx hb E.ht inX1 tyX1 tyX1_ok nmX1 E.hown E.hK hP hD hS 0 rfl rfl 3 (by decide) (E.ht _ k2_14) (fun _ h9 => h9) rfl (tyX1_ok 3 (by decide)) rfl rfl (Nat.le_of_ble_eq_true rfl) dX1_init_17 (fun H locs hP hD hS => ?_)
  have hP : va_P D vwCl ([(h0, .inr (1, [.null, .int 0, .int 12, .int 1, .int 0, .null, .null, .null, .null, .null, .null, .null, .null, .null, .null, .null]))]) H := hP
  have hD : va_D _ ([(h0, .inr (1, [.null, .int 0, .int 12, .int 1, .int 0, .null, .null, .null, .null, .null, .null, .null, .null, .null, .null, .null]))]) := hD
  refine lv_aload_n hx hb dX1_init_20 rfl (lv_at hl 0 rfl) ?_
  refine lv_iconst (v := 0) hx hb dX1_init_21 (by decide) ?_
  refine va_put (D := D) (ci := 1) (v := .int 0) (ty := tyX1 4) (C := RX1) (T := TX1) (N := 16) hx hb E.ht inX1 tyX1 tyX1_ok nmX1 E.hown E.hK hP hD hS 0 rfl rfl 4 (by decide) (E.ht _ k2_16) (fun _ h9 => h9) rfl (tyX1_ok 4 (by decide)) rfl rfl (Nat.le_of_ble_eq_true rfl) dX1_init_22 (fun H locs hP hD hS => ?_)
  have hP : va_P D vwCl ([(h0, .inr (1, [.null, .int 0, .int 12, .int 1, .int 0, .null, .null, .null, .null, .null, .null, .null, .null, .null, .null, .null]))]) H := hP
  have hD : va_D _ ([(h0, .inr (1, [.null, .int 0, .int 12, .int 1, .int 0, .null, .null, .null, .null, .null, .null, .null, .null, .null, .null, .null]))]) := hD
  refine lv_aload_n hx hb dX1_init_25 rfl (lv_at hl 0 rfl) ?_
  refine lv_bipush (v := 6) hx hb dX1_init_26 (by decide) ?_
  refine nnewi (N := 6) E hP hD hS hA (by decide) (by decide) (Nat.le_of_ble_eq_true rfl) (Nat.le_of_ble_eq_true rfl) (Nat.le_of_ble_eq_true rfl) dX1_init_28 (fun q1 H hP hD hS => ?_)
  have hP : va_P D vwCl ([(h0, .inr (1, [.null, .int 0, .int 12, .int 1, .int 0, .null, .null, .null, .null, .null, .null, .null, .null, .null, .null, .null])), (q1, .inl (cy 1, 6, .inl (fun _ => 0)))]) H := hP
  have hD : va_D _ ([(h0, .inr (1, [.null, .int 0, .int 12, .int 1, .int 0, .null, .null, .null, .null, .null, .null, .null, .null, .null, .null, .null])), (q1, .inl (cy 1, 6, .inl (fun _ => 0)))]) := hD
  refine W.widen (k := 1) (n := 6) (Nat.le_of_ble_eq_true rfl) (Nat.le_of_ble_eq_true rfl) ?_
  refine va_putF (D := D) (ci := 1) (v := .ref q1) (ty := tyX1 5) (C := RX1) (T := TX1) (N := 16) hx hb E.ht inX1 tyX1 tyX1_ok nmX1 E.hown E.hK hP hD hS 0 rfl rfl 5 (by decide) (E.ht _ k2_18) (fun _ h9 => h9) rfl hin rfl (tyX1_ok 5 (by decide)) rfl rfl (Nat.le_of_ble_eq_true rfl) dX1_init_30 (fun H locs hP hD hS => ?_)
  have hP : va_P D vwCl ([(h0, .inr (1, [.null, .int 0, .int 12, .int 1, .int 0, .ref q1, .null, .null, .null, .null, .null, .null, .null, .null, .null, .null])), (q1, .inl (cy 1, 6, .inl (fun _ => 0)))]) H := hP
  have hD : va_D _ ([(h0, .inr (1, [.null, .int 0, .int 12, .int 1, .int 0, .ref q1, .null, .null, .null, .null, .null, .null, .null, .null, .null, .null])), (q1, .inl (cy 1, 6, .inl (fun _ => 0)))]) := hD
  refine lv_aload_n hx hb dX1_init_33 rfl (lv_at hl 0 rfl) ?_
  refine lv_bipush (v := 6) hx hb dX1_init_34 (by decide) ?_
  refine nnewi (N := 6) E hP hD hS hA (by decide) (by decide) (Nat.le_of_ble_eq_true rfl) (Nat.le_of_ble_eq_true rfl) (Nat.le_of_ble_eq_true rfl) dX1_init_36 (fun q2 H hP hD hS => ?_)
  have hP : va_P D vwCl ([(h0, .inr (1, [.null, .int 0, .int 12, .int 1, .int 0, .ref q1, .null, .null, .null, .null, .null, .null, .null, .null, .null, .null])), (q1, .inl (cy 1, 6, .inl (fun _ => 0))), (q2, .inl (cy 1, 6, .inl (fun _ => 0)))]) H := hP
  have hD : va_D _ ([(h0, .inr (1, [.null, .int 0, .int 12, .int 1, .int 0, .ref q1, .null, .null, .null, .null, .null, .null, .null, .null, .null, .null])), (q1, .inl (cy 1, 6, .inl (fun _ => 0))), (q2, .inl (cy 1, 6, .inl (fun _ => 0)))]) := hD
  refine W.widen (k := 2) (n := 12) (Nat.le_of_ble_eq_true rfl) (Nat.le_of_ble_eq_true rfl) ?_
  refine va_putF (D := D) (ci := 1) (v := .ref q2) (ty := tyX1 6) (C := RX1) (T := TX1) (N := 16) hx hb E.ht inX1 tyX1 tyX1_ok nmX1 E.hown E.hK hP hD hS 0 rfl rfl 6 (by decide) (E.ht _ k2_20) (fun _ h9 => h9) rfl hin rfl (tyX1_ok 6 (by decide)) rfl rfl (Nat.le_of_ble_eq_true rfl) dX1_init_38 (fun H locs hP hD hS => ?_)
  have hP : va_P D vwCl ([(h0, .inr (1, [.null, .int 0, .int 12, .int 1, .int 0, .ref q1, .ref q2, .null, .null, .null, .null, .null, .null, .null, .null, .null])), (q1, .inl (cy 1, 6, .inl (fun _ => 0))), (q2, .inl (cy 1, 6, .inl (fun _ => 0)))]) H := hP
  have hD : va_D _ ([(h0, .inr (1, [.null, .int 0, .int 12, .int 1, .int 0, .ref q1, .ref q2, .null, .null, .null, .null, .null, .null, .null, .null, .null])), (q1, .inl (cy 1, 6, .inl (fun _ => 0))), (q2, .inl (cy 1, 6, .inl (fun _ => 0)))]) := hD
  refine lv_aload_n hx hb dX1_init_41 rfl (lv_at hl 0 rfl) ?_
  refine lv_bipush (v := 16) hx hb dX1_init_42 (by decide) ?_
  refine nnewi (N := 16) E hP hD hS hA (by decide) (by decide) (Nat.le_of_ble_eq_true rfl) (Nat.le_of_ble_eq_true rfl) (Nat.le_of_ble_eq_true rfl) dX1_init_44 (fun q3 H hP hD hS => ?_)
  have hP : va_P D vwCl ([(h0, .inr (1, [.null, .int 0, .int 12, .int 1, .int 0, .ref q1, .ref q2, .null, .null, .null, .null, .null, .null, .null, .null, .null])), (q1, .inl (cy 1, 6, .inl (fun _ => 0))), (q2, .inl (cy 1, 6, .inl (fun _ => 0))), (q3, .inl (cy 1, 16, .inl (fun _ => 0)))]) H := hP
  have hD : va_D _ ([(h0, .inr (1, [.null, .int 0, .int 12, .int 1, .int 0, .ref q1, .ref q2, .null, .null, .null, .null, .null, .null, .null, .null, .null])), (q1, .inl (cy 1, 6, .inl (fun _ => 0))), (q2, .inl (cy 1, 6, .inl (fun _ => 0))), (q3, .inl (cy 1, 16, .inl (fun _ => 0)))]) := hD
  refine W.widen (k := 3) (n := 28) (Nat.le_of_ble_eq_true rfl) (Nat.le_of_ble_eq_true rfl) ?_
  refine va_putF (D := D) (ci := 1) (v := .ref q3) (ty := tyX1 7) (C := RX1) (T := TX1) (N := 16) hx hb E.ht inX1 tyX1 tyX1_ok nmX1 E.hown E.hK hP hD hS 0 rfl rfl 7 (by decide) (E.ht _ k2_22) (fun _ h9 => h9) rfl hin rfl (tyX1_ok 7 (by decide)) rfl rfl (Nat.le_of_ble_eq_true rfl) dX1_init_46 (fun H locs hP hD hS => ?_)
  have hP : va_P D vwCl ([(h0, .inr (1, [.null, .int 0, .int 12, .int 1, .int 0, .ref q1, .ref q2, .ref q3, .null, .null, .null, .null, .null, .null, .null, .null])), (q1, .inl (cy 1, 6, .inl (fun _ => 0))), (q2, .inl (cy 1, 6, .inl (fun _ => 0))), (q3, .inl (cy 1, 16, .inl (fun _ => 0)))]) H := hP
  have hD : va_D _ ([(h0, .inr (1, [.null, .int 0, .int 12, .int 1, .int 0, .ref q1, .ref q2, .ref q3, .null, .null, .null, .null, .null, .null, .null, .null])), (q1, .inl (cy 1, 6, .inl (fun _ => 0))), (q2, .inl (cy 1, 6, .inl (fun _ => 0))), (q3, .inl (cy 1, 16, .inl (fun _ => 0)))]) := hD
  refine lv_aload_n hx hb dX1_init_49 rfl (lv_at hl 0 rfl) ?_
  refine lv_bipush (v := 6) hx hb dX1_init_50 (by decide) ?_
  refine nnewi (N := 6) E hP hD hS hA (by decide) (by decide) (Nat.le_of_ble_eq_true rfl) (Nat.le_of_ble_eq_true rfl) (Nat.le_of_ble_eq_true rfl) dX1_init_52 (fun q4 H hP hD hS => ?_)
  have hP : va_P D vwCl ([(h0, .inr (1, [.null, .int 0, .int 12, .int 1, .int 0, .ref q1, .ref q2, .ref q3, .null, .null, .null, .null, .null, .null, .null, .null])), (q1, .inl (cy 1, 6, .inl (fun _ => 0))), (q2, .inl (cy 1, 6, .inl (fun _ => 0))), (q3, .inl (cy 1, 16, .inl (fun _ => 0))), (q4, .inl (cy 1, 6, .inl (fun _ => 0)))]) H := hP
  have hD : va_D _ ([(h0, .inr (1, [.null, .int 0, .int 12, .int 1, .int 0, .ref q1, .ref q2, .ref q3, .null, .null, .null, .null, .null, .null, .null, .null])), (q1, .inl (cy 1, 6, .inl (fun _ => 0))), (q2, .inl (cy 1, 6, .inl (fun _ => 0))), (q3, .inl (cy 1, 16, .inl (fun _ => 0))), (q4, .inl (cy 1, 6, .inl (fun _ => 0)))]) := hD
  refine W.widen (k := 4) (n := 34) (Nat.le_of_ble_eq_true rfl) (Nat.le_of_ble_eq_true rfl) ?_
  refine va_putF (D := D) (ci := 1) (v := .ref q4) (ty := tyX1 8) (C := RX1) (T := TX1) (N := 16) hx hb E.ht inX1 tyX1 tyX1_ok nmX1 E.hown E.hK hP hD hS 0 rfl rfl 8 (by decide) (E.ht _ k2_24) (fun _ h9 => h9) rfl hin rfl (tyX1_ok 8 (by decide)) rfl rfl (Nat.le_of_ble_eq_true rfl) dX1_init_54 (fun H locs hP hD hS => ?_)
  have hP : va_P D vwCl ([(h0, .inr (1, [.null, .int 0, .int 12, .int 1, .int 0, .ref q1, .ref q2, .ref q3, .ref q4, .null, .null, .null, .null, .null, .null, .null])), (q1, .inl (cy 1, 6, .inl (fun _ => 0))), (q2, .inl (cy 1, 6, .inl (fun _ => 0))), (q3, .inl (cy 1, 16, .inl (fun _ => 0))), (q4, .inl (cy 1, 6, .inl (fun _ => 0)))]) H := hP
  have hD : va_D _ ([(h0, .inr (1, [.null, .int 0, .int 12, .int 1, .int 0, .ref q1, .ref q2, .ref q3, .ref q4, .null, .null, .null, .null, .null, .null, .null])), (q1, .inl (cy 1, 6, .inl (fun _ => 0))), (q2, .inl (cy 1, 6, .inl (fun _ => 0))), (q3, .inl (cy 1, 16, .inl (fun _ => 0))), (q4, .inl (cy 1, 6, .inl (fun _ => 0)))]) := hD
  refine lv_aload_n hx hb dX1_init_57 rfl (lv_at hl 0 rfl) ?_
  refine lv_bipush (v := 6) hx hb dX1_init_58 (by decide) ?_
  refine nnewi (N := 6) E hP hD hS hA (by decide) (by decide) (Nat.le_of_ble_eq_true rfl) (Nat.le_of_ble_eq_true rfl) (Nat.le_of_ble_eq_true rfl) dX1_init_60 (fun q5 H hP hD hS => ?_)
  have hP : va_P D vwCl ([(h0, .inr (1, [.null, .int 0, .int 12, .int 1, .int 0, .ref q1, .ref q2, .ref q3, .ref q4, .null, .null, .null, .null, .null, .null, .null])), (q1, .inl (cy 1, 6, .inl (fun _ => 0))), (q2, .inl (cy 1, 6, .inl (fun _ => 0))), (q3, .inl (cy 1, 16, .inl (fun _ => 0))), (q4, .inl (cy 1, 6, .inl (fun _ => 0))), (q5, .inl (cy 1, 6, .inl (fun _ => 0)))]) H := hP
  have hD : va_D _ ([(h0, .inr (1, [.null, .int 0, .int 12, .int 1, .int 0, .ref q1, .ref q2, .ref q3, .ref q4, .null, .null, .null, .null, .null, .null, .null])), (q1, .inl (cy 1, 6, .inl (fun _ => 0))), (q2, .inl (cy 1, 6, .inl (fun _ => 0))), (q3, .inl (cy 1, 16, .inl (fun _ => 0))), (q4, .inl (cy 1, 6, .inl (fun _ => 0))), (q5, .inl (cy 1, 6, .inl (fun _ => 0)))]) := hD
  refine W.widen (k := 5) (n := 40) (Nat.le_of_ble_eq_true rfl) (Nat.le_of_ble_eq_true rfl) ?_
  refine va_putF (D := D) (ci := 1) (v := .ref q5) (ty := tyX1 9) (C := RX1) (T := TX1) (N := 16) hx hb E.ht inX1 tyX1 tyX1_ok nmX1 E.hown E.hK hP hD hS 0 rfl rfl 9 (by decide) (E.ht _ k2_26) (fun _ h9 => h9) rfl hin rfl (tyX1_ok 9 (by decide)) rfl rfl (Nat.le_of_ble_eq_true rfl) dX1_init_62 (fun H locs hP hD hS => ?_)
  have hP : va_P D vwCl ([(h0, .inr (1, [.null, .int 0, .int 12, .int 1, .int 0, .ref q1, .ref q2, .ref q3, .ref q4, .ref q5, .null, .null, .null, .null, .null, .null])), (q1, .inl (cy 1, 6, .inl (fun _ => 0))), (q2, .inl (cy 1, 6, .inl (fun _ => 0))), (q3, .inl (cy 1, 16, .inl (fun _ => 0))), (q4, .inl (cy 1, 6, .inl (fun _ => 0))), (q5, .inl (cy 1, 6, .inl (fun _ => 0)))]) H := hP
  have hD : va_D _ ([(h0, .inr (1, [.null, .int 0, .int 12, .int 1, .int 0, .ref q1, .ref q2, .ref q3, .ref q4, .ref q5, .null, .null, .null, .null, .null, .null])), (q1, .inl (cy 1, 6, .inl (fun _ => 0))), (q2, .inl (cy 1, 6, .inl (fun _ => 0))), (q3, .inl (cy 1, 16, .inl (fun _ => 0))), (q4, .inl (cy 1, 6, .inl (fun _ => 0))), (q5, .inl (cy 1, 6, .inl (fun _ => 0)))]) := hD
  refine lv_aload_n hx hb dX1_init_65 rfl (lv_at hl 0 rfl) ?_
  refine lv_bipush (v := 6) hx hb dX1_init_66 (by decide) ?_
  refine nnewi (N := 6) E hP hD hS hA (by decide) (by decide) (Nat.le_of_ble_eq_true rfl) (Nat.le_of_ble_eq_true rfl) (Nat.le_of_ble_eq_true rfl) dX1_init_68 (fun q6 H hP hD hS => ?_)
  have hP : va_P D vwCl ([(h0, .inr (1, [.null, .int 0, .int 12, .int 1, .int 0, .ref q1, .ref q2, .ref q3, .ref q4, .ref q5, .null, .null, .null, .null, .null, .null])), (q1, .inl (cy 1, 6, .inl (fun _ => 0))), (q2, .inl (cy 1, 6, .inl (fun _ => 0))), (q3, .inl (cy 1, 16, .inl (fun _ => 0))), (q4, .inl (cy 1, 6, .inl (fun _ => 0))), (q5, .inl (cy 1, 6, .inl (fun _ => 0))), (q6, .inl (cy 1, 6, .inl (fun _ => 0)))]) H := hP
  have hD : va_D _ ([(h0, .inr (1, [.null, .int 0, .int 12, .int 1, .int 0, .ref q1, .ref q2, .ref q3, .ref q4, .ref q5, .null, .null, .null, .null, .null, .null])), (q1, .inl (cy 1, 6, .inl (fun _ => 0))), (q2, .inl (cy 1, 6, .inl (fun _ => 0))), (q3, .inl (cy 1, 16, .inl (fun _ => 0))), (q4, .inl (cy 1, 6, .inl (fun _ => 0))), (q5, .inl (cy 1, 6, .inl (fun _ => 0))), (q6, .inl (cy 1, 6, .inl (fun _ => 0)))]) := hD
  refine W.widen (k := 6) (n := 46) (Nat.le_of_ble_eq_true rfl) (Nat.le_of_ble_eq_true rfl) ?_
  refine va_putF (D := D) (ci := 1) (v := .ref q6) (ty := tyX1 10) (C := RX1) (T := TX1) (N := 16) hx hb E.ht inX1 tyX1 tyX1_ok nmX1 E.hown E.hK hP hD hS 0 rfl rfl 10 (by decide) (E.ht _ k2_28) (fun _ h9 => h9) rfl hin rfl (tyX1_ok 10 (by decide)) rfl rfl (Nat.le_of_ble_eq_true rfl) dX1_init_70 (fun H locs hP hD hS => ?_)
  have hP : va_P D vwCl ([(h0, .inr (1, [.null, .int 0, .int 12, .int 1, .int 0, .ref q1, .ref q2, .ref q3, .ref q4, .ref q5, .ref q6, .null, .null, .null, .null, .null])), (q1, .inl (cy 1, 6, .inl (fun _ => 0))), (q2, .inl (cy 1, 6, .inl (fun _ => 0))), (q3, .inl (cy 1, 16, .inl (fun _ => 0))), (q4, .inl (cy 1, 6, .inl (fun _ => 0))), (q5, .inl (cy 1, 6, .inl (fun _ => 0))), (q6, .inl (cy 1, 6, .inl (fun _ => 0)))]) H := hP
  have hD : va_D _ ([(h0, .inr (1, [.null, .int 0, .int 12, .int 1, .int 0, .ref q1, .ref q2, .ref q3, .ref q4, .ref q5, .ref q6, .null, .null, .null, .null, .null])), (q1, .inl (cy 1, 6, .inl (fun _ => 0))), (q2, .inl (cy 1, 6, .inl (fun _ => 0))), (q3, .inl (cy 1, 16, .inl (fun _ => 0))), (q4, .inl (cy 1, 6, .inl (fun _ => 0))), (q5, .inl (cy 1, 6, .inl (fun _ => 0))), (q6, .inl (cy 1, 6, .inl (fun _ => 0)))]) := hD
  refine lv_aload_n hx hb dX1_init_73 rfl (lv_at hl 0 rfl) ?_
  refine lv_bipush (v := 6) hx hb dX1_init_74 (by decide) ?_
  refine nnewi (N := 6) E hP hD hS hA (by decide) (by decide) (Nat.le_of_ble_eq_true rfl) (Nat.le_of_ble_eq_true rfl) (Nat.le_of_ble_eq_true rfl) dX1_init_76 (fun q7 H hP hD hS => ?_)
  have hP : va_P D vwCl ([(h0, .inr (1, [.null, .int 0, .int 12, .int 1, .int 0, .ref q1, .ref q2, .ref q3, .ref q4, .ref q5, .ref q6, .null, .null, .null, .null, .null])), (q1, .inl (cy 1, 6, .inl (fun _ => 0))), (q2, .inl (cy 1, 6, .inl (fun _ => 0))), (q3, .inl (cy 1, 16, .inl (fun _ => 0))), (q4, .inl (cy 1, 6, .inl (fun _ => 0))), (q5, .inl (cy 1, 6, .inl (fun _ => 0))), (q6, .inl (cy 1, 6, .inl (fun _ => 0))), (q7, .inl (cy 1, 6, .inl (fun _ => 0)))]) H := hP
  have hD : va_D _ ([(h0, .inr (1, [.null, .int 0, .int 12, .int 1, .int 0, .ref q1, .ref q2, .ref q3, .ref q4, .ref q5, .ref q6, .null, .null, .null, .null, .null])), (q1, .inl (cy 1, 6, .inl (fun _ => 0))), (q2, .inl (cy 1, 6, .inl (fun _ => 0))), (q3, .inl (cy 1, 16, .inl (fun _ => 0))), (q4, .inl (cy 1, 6, .inl (fun _ => 0))), (q5, .inl (cy 1, 6, .inl (fun _ => 0))), (q6, .inl (cy 1, 6, .inl (fun _ => 0))), (q7, .inl (cy 1, 6, .inl (fun _ => 0)))]) := hD
  refine W.widen (k := 7) (n := 52) (Nat.le_of_ble_eq_true rfl) (Nat.le_of_ble_eq_true rfl) ?_
  refine va_putF (D := D) (ci := 1) (v := .ref q7) (ty := tyX1 11) (C := RX1) (T := TX1) (N := 16) hx hb E.ht inX1 tyX1 tyX1_ok nmX1 E.hown E.hK hP hD hS 0 rfl rfl 11 (by decide) (E.ht _ k2_29) (fun _ h9 => h9) rfl hin rfl (tyX1_ok 11 (by decide)) rfl rfl (Nat.le_of_ble_eq_true rfl) dX1_init_78 (fun H locs hP hD hS => ?_)
  have hP : va_P D vwCl ([(h0, .inr (1, [.null, .int 0, .int 12, .int 1, .int 0, .ref q1, .ref q2, .ref q3, .ref q4, .ref q5, .ref q6, .ref q7, .null, .null, .null, .null])), (q1, .inl (cy 1, 6, .inl (fun _ => 0))), (q2, .inl (cy 1, 6, .inl (fun _ => 0))), (q3, .inl (cy 1, 16, .inl (fun _ => 0))), (q4, .inl (cy 1, 6, .inl (fun _ => 0))), (q5, .inl (cy 1, 6, .inl (fun _ => 0))), (q6, .inl (cy 1, 6, .inl (fun _ => 0))), (q7, .inl (cy 1, 6, .inl (fun _ => 0)))]) H := hP
  have hD : va_D _ ([(h0, .inr (1, [.null, .int 0, .int 12, .int 1, .int 0, .ref q1, .ref q2, .ref q3, .ref q4, .ref q5, .ref q6, .ref q7, .null, .null, .null, .null])), (q1, .inl (cy 1, 6, .inl (fun _ => 0))), (q2, .inl (cy 1, 6, .inl (fun _ => 0))), (q3, .inl (cy 1, 16, .inl (fun _ => 0))), (q4, .inl (cy 1, 6, .inl (fun _ => 0))), (q5, .inl (cy 1, 6, .inl (fun _ => 0))), (q6, .inl (cy 1, 6, .inl (fun _ => 0))), (q7, .inl (cy 1, 6, .inl (fun _ => 0)))]) := hD
  refine lv_aload_n hx hb dX1_init_81 rfl (lv_at hl 0 rfl) ?_
  refine lv_bipush (v := 6) hx hb dX1_init_82 (by decide) ?_
  refine nnewi (N := 6) E hP hD hS hA (by decide) (by decide) (Nat.le_of_ble_eq_true rfl) (Nat.le_of_ble_eq_true rfl) (Nat.le_of_ble_eq_true rfl) dX1_init_84 (fun q8 H hP hD hS => ?_)
  have hP : va_P D vwCl ([(h0, .inr (1, [.null, .int 0, .int 12, .int 1, .int 0, .ref q1, .ref q2, .ref q3, .ref q4, .ref q5, .ref q6, .ref q7, .null, .null, .null, .null])), (q1, .inl (cy 1, 6, .inl (fun _ => 0))), (q2, .inl (cy 1, 6, .inl (fun _ => 0))), (q3, .inl (cy 1, 16, .inl (fun _ => 0))), (q4, .inl (cy 1, 6, .inl (fun _ => 0))), (q5, .inl (cy 1, 6, .inl (fun _ => 0))), (q6, .inl (cy 1, 6, .inl (fun _ => 0))), (q7, .inl (cy 1, 6, .inl (fun _ => 0))), (q8, .inl (cy 1, 6, .inl (fun _ => 0)))]) H := hP
  have hD : va_D _ ([(h0, .inr (1, [.null, .int 0, .int 12, .int 1, .int 0, .ref q1, .ref q2, .ref q3, .ref q4, .ref q5, .ref q6, .ref q7, .null, .null, .null, .null])), (q1, .inl (cy 1, 6, .inl (fun _ => 0))), (q2, .inl (cy 1, 6, .inl (fun _ => 0))), (q3, .inl (cy 1, 16, .inl (fun _ => 0))), (q4, .inl (cy 1, 6, .inl (fun _ => 0))), (q5, .inl (cy 1, 6, .inl (fun _ => 0))), (q6, .inl (cy 1, 6, .inl (fun _ => 0))), (q7, .inl (cy 1, 6, .inl (fun _ => 0))), (q8, .inl (cy 1, 6, .inl (fun _ => 0)))]) := hD
  refine W.widen (k := 8) (n := 58) (Nat.le_of_ble_eq_true rfl) (Nat.le_of_ble_eq_true rfl) ?_
  refine va_putF (D := D) (ci := 1) (v := .ref q8) (ty := tyX1 12) (C := RX1) (T := TX1) (N := 16) hx hb E.ht inX1 tyX1 tyX1_ok nmX1 E.hown E.hK hP hD hS 0 rfl rfl 12 (by decide) (E.ht _ k2_30) (fun _ h9 => h9) rfl hin rfl (tyX1_ok 12 (by decide)) rfl rfl (Nat.le_of_ble_eq_true rfl) dX1_init_86 (fun H locs hP hD hS => ?_)
  have hP : va_P D vwCl ([(h0, .inr (1, [.null, .int 0, .int 12, .int 1, .int 0, .ref q1, .ref q2, .ref q3, .ref q4, .ref q5, .ref q6, .ref q7, .ref q8, .null, .null, .null])), (q1, .inl (cy 1, 6, .inl (fun _ => 0))), (q2, .inl (cy 1, 6, .inl (fun _ => 0))), (q3, .inl (cy 1, 16, .inl (fun _ => 0))), (q4, .inl (cy 1, 6, .inl (fun _ => 0))), (q5, .inl (cy 1, 6, .inl (fun _ => 0))), (q6, .inl (cy 1, 6, .inl (fun _ => 0))), (q7, .inl (cy 1, 6, .inl (fun _ => 0))), (q8, .inl (cy 1, 6, .inl (fun _ => 0)))]) H := hP
  have hD : va_D _ ([(h0, .inr (1, [.null, .int 0, .int 12, .int 1, .int 0, .ref q1, .ref q2, .ref q3, .ref q4, .ref q5, .ref q6, .ref q7, .ref q8, .null, .null, .null])), (q1, .inl (cy 1, 6, .inl (fun _ => 0))), (q2, .inl (cy 1, 6, .inl (fun _ => 0))), (q3, .inl (cy 1, 16, .inl (fun _ => 0))), (q4, .inl (cy 1, 6, .inl (fun _ => 0))), (q5, .inl (cy 1, 6, .inl (fun _ => 0))), (q6, .inl (cy 1, 6, .inl (fun _ => 0))), (q7, .inl (cy 1, 6, .inl (fun _ => 0))), (q8, .inl (cy 1, 6, .inl (fun _ => 0)))]) := hD
  refine lv_aload_n hx hb dX1_init_89 rfl (lv_at hl 0 rfl) ?_
  refine lv_bipush (v := 6) hx hb dX1_init_90 (by decide) ?_
  refine nnewi (N := 6) E hP hD hS hA (by decide) (by decide) (Nat.le_of_ble_eq_true rfl) (Nat.le_of_ble_eq_true rfl) (Nat.le_of_ble_eq_true rfl) dX1_init_92 (fun q9 H hP hD hS => ?_)
  have hP : va_P D vwCl ([(h0, .inr (1, [.null, .int 0, .int 12, .int 1, .int 0, .ref q1, .ref q2, .ref q3, .ref q4, .ref q5, .ref q6, .ref q7, .ref q8, .null, .null, .null])), (q1, .inl (cy 1, 6, .inl (fun _ => 0))), (q2, .inl (cy 1, 6, .inl (fun _ => 0))), (q3, .inl (cy 1, 16, .inl (fun _ => 0))), (q4, .inl (cy 1, 6, .inl (fun _ => 0))), (q5, .inl (cy 1, 6, .inl (fun _ => 0))), (q6, .inl (cy 1, 6, .inl (fun _ => 0))), (q7, .inl (cy 1, 6, .inl (fun _ => 0))), (q8, .inl (cy 1, 6, .inl (fun _ => 0))), (q9, .inl (cy 1, 6, .inl (fun _ => 0)))]) H := hP
  have hD : va_D _ ([(h0, .inr (1, [.null, .int 0, .int 12, .int 1, .int 0, .ref q1, .ref q2, .ref q3, .ref q4, .ref q5, .ref q6, .ref q7, .ref q8, .null, .null, .null])), (q1, .inl (cy 1, 6, .inl (fun _ => 0))), (q2, .inl (cy 1, 6, .inl (fun _ => 0))), (q3, .inl (cy 1, 16, .inl (fun _ => 0))), (q4, .inl (cy 1, 6, .inl (fun _ => 0))), (q5, .inl (cy 1, 6, .inl (fun _ => 0))), (q6, .inl (cy 1, 6, .inl (fun _ => 0))), (q7, .inl (cy 1, 6, .inl (fun _ => 0))), (q8, .inl (cy 1, 6, .inl (fun _ => 0))), (q9, .inl (cy 1, 6, .inl (fun _ => 0)))]) := hD
  refine W.widen (k := 9) (n := 64) (Nat.le_of_ble_eq_true rfl) (Nat.le_of_ble_eq_true rfl) ?_
  refine va_putF (D := D) (ci := 1) (v := .ref q9) (ty := tyX1 13) (C := RX1) (T := TX1) (N := 16) hx hb E.ht inX1 tyX1 tyX1_ok nmX1 E.hown E.hK hP hD hS 0 rfl rfl 13 (by decide) (E.ht _ k2_31) (fun _ h9 => h9) rfl hin rfl (tyX1_ok 13 (by decide)) rfl rfl (Nat.le_of_ble_eq_true rfl) dX1_init_94 (fun H locs hP hD hS => ?_)
  have hP : va_P D vwCl ([(h0, .inr (1, [.null, .int 0, .int 12, .int 1, .int 0, .ref q1, .ref q2, .ref q3, .ref q4, .ref q5, .ref q6, .ref q7, .ref q8, .ref q9, .null, .null])), (q1, .inl (cy 1, 6, .inl (fun _ => 0))), (q2, .inl (cy 1, 6, .inl (fun _ => 0))), (q3, .inl (cy 1, 16, .inl (fun _ => 0))), (q4, .inl (cy 1, 6, .inl (fun _ => 0))), (q5, .inl (cy 1, 6, .inl (fun _ => 0))), (q6, .inl (cy 1, 6, .inl (fun _ => 0))), (q7, .inl (cy 1, 6, .inl (fun _ => 0))), (q8, .inl (cy 1, 6, .inl (fun _ => 0))), (q9, .inl (cy 1, 6, .inl (fun _ => 0)))]) H := hP
  have hD : va_D _ ([(h0, .inr (1, [.null, .int 0, .int 12, .int 1, .int 0, .ref q1, .ref q2, .ref q3, .ref q4, .ref q5, .ref q6, .ref q7, .ref q8, .ref q9, .null, .null])), (q1, .inl (cy 1, 6, .inl (fun _ => 0))), (q2, .inl (cy 1, 6, .inl (fun _ => 0))), (q3, .inl (cy 1, 16, .inl (fun _ => 0))), (q4, .inl (cy 1, 6, .inl (fun _ => 0))), (q5, .inl (cy 1, 6, .inl (fun _ => 0))), (q6, .inl (cy 1, 6, .inl (fun _ => 0))), (q7, .inl (cy 1, 6, .inl (fun _ => 0))), (q8, .inl (cy 1, 6, .inl (fun _ => 0))), (q9, .inl (cy 1, 6, .inl (fun _ => 0)))]) := hD
  refine lv_aload_n hx hb dX1_init_97 rfl (lv_at hl 0 rfl) ?_
  refine va_new (ci := 9) (fs := [.int 0, .int 0, .null, .null, .null, .null, .null, .null]) (C := RX9) (T := TX9) (N := 8) hx hb E.ht inX9 tyX9 tyX9_ok E.hown (E.ht _ k2_1) (E.ht _ k1_39) (E.ht _ k1_3) E.hK hP hD hS hA rfl (by decide) (Nat.le_of_ble_eq_true rfl) (Nat.le_of_ble_eq_true rfl) dX1_init_98 (fun q10 H hP hD hS => ?_)
  refine W.widen (k := 10) (n := 72) (Nat.le_of_ble_eq_true rfl) (Nat.le_of_ble_eq_true rfl) ?_
  refine lv_dup hx hb dX1_init_101 rfl ?_
  refine nmk (y := (q10, .inr (9, [.int 0, .int 0, .null, .null, .null, .null, .null, .null]))) (X := [(h0, .inr (1, [.null, .int 0, .int 12, .int 1, .int 0, .ref q1, .ref q2, .ref q3, .ref q4, .ref q5, .ref q6, .ref q7, .ref q8, .ref q9, .null, .null])), (q1, .inl (cy 1, 6, .inl (fun _ => 0))), (q2, .inl (cy 1, 6, .inl (fun _ => 0))), (q3, .inl (cy 1, 16, .inl (fun _ => 0))), (q4, .inl (cy 1, 6, .inl (fun _ => 0))), (q5, .inl (cy 1, 6, .inl (fun _ => 0))), (q6, .inl (cy 1, 6, .inl (fun _ => 0))), (q7, .inl (cy 1, 6, .inl (fun _ => 0))), (q8, .inl (cy 1, 6, .inl (fun _ => 0))), (q9, .inl (cy 1, 6, .inl (fun _ => 0)))]) (w := fun u => g_X9_init_9 cy q10 u) hP hD hS hA (va_runIN (As := []) (rest := [.ref q10, .ref h0]) E.fix (c_X9_init_9 (l := l) (D := D) (cy := cy) q10 H.size) ⟨ncN E k1_42 k1_3 k2_2 mf_X9_init rfl rfl ⟨Nat.le_of_ble_eq_true rfl, Nat.le_of_ble_eq_true rfl⟩, rfl, E.ht _ k1_41⟩ (nPre E (fun k q hk => (by have hk0 : k = 0 := by { have := (List.getElem?_eq_some_iff.mp hk).1; simp at this; omega }; subst hk0; cases hk; exact hP 10 _ rfl)) _) rfl rfl hl.1 rfl (lv_room (Nat.le_of_ble_eq_true rfl)) dX1_init_102 ⟨Nat.le_of_ble_eq_true rfl, Nat.le_of_ble_eq_true rfl⟩) (fun u11 H locs hP hD hS => ?_)
  have hP : va_P D vwCl ([(h0, .inr (1, [.null, .int 0, .int 12, .int 1, .int 0, .ref q1, .ref q2, .ref q3, .ref q4, .ref q5, .ref q6, .ref q7, .ref q8, .ref q9, .null, .null])), (q1, .inl (cy 1, 6, .inl (fun _ => 0))), (q2, .inl (cy 1, 6, .inl (fun _ => 0))), (q3, .inl (cy 1, 16, .inl (fun _ => 0))), (q4, .inl (cy 1, 6, .inl (fun _ => 0))), (q5, .inl (cy 1, 6, .inl (fun _ => 0))), (q6, .inl (cy 1, 6, .inl (fun _ => 0))), (q7, .inl (cy 1, 6, .inl (fun _ => 0))), (q8, .inl (cy 1, 6, .inl (fun _ => 0))), (q9, .inl (cy 1, 6, .inl (fun _ => 0))), (q10, .inr (9, [.int 0, .int 0, .ref (u11 0), .ref (u11 1), .ref (u11 2), .ref (u11 3), .ref (u11 4), .ref (u11 5)])), ((u11 0), .inl (cy 1, 8, .inl (fun _ => 0))), ((u11 1), .inl (cy 1, 8, .inl (fun _ => 0))), ((u11 2), .inl (cy 1, 8, .inl (fun _ => 0))), ((u11 3), .inl (cy 1, 8, .inl (fun _ => 0))), ((u11 4), .inl (cy 1, 200, .inl (fun _ => 0))), ((u11 5), .inl (cy 1, 5, .inl (fun _ => 0)))]) H := hP
  have hD : va_D _ ([(h0, .inr (1, [.null, .int 0, .int 12, .int 1, .int 0, .ref q1, .ref q2, .ref q3, .ref q4, .ref q5, .ref q6, .ref q7, .ref q8, .ref q9, .null, .null])), (q1, .inl (cy 1, 6, .inl (fun _ => 0))), (q2, .inl (cy 1, 6, .inl (fun _ => 0))), (q3, .inl (cy 1, 16, .inl (fun _ => 0))), (q4, .inl (cy 1, 6, .inl (fun _ => 0))), (q5, .inl (cy 1, 6, .inl (fun _ => 0))), (q6, .inl (cy 1, 6, .inl (fun _ => 0))), (q7, .inl (cy 1, 6, .inl (fun _ => 0))), (q8, .inl (cy 1, 6, .inl (fun _ => 0))), (q9, .inl (cy 1, 6, .inl (fun _ => 0))), (q10, .inr (9, [.int 0, .int 0, .ref (u11 0), .ref (u11 1), .ref (u11 2), .ref (u11 3), .ref (u11 4), .ref (u11 5)])), ((u11 0), .inl (cy 1, 8, .inl (fun _ => 0))), ((u11 1), .inl (cy 1, 8, .inl (fun _ => 0))), ((u11 2), .inl (cy 1, 8, .inl (fun _ => 0))), ((u11 3), .inl (cy 1, 8, .inl (fun _ => 0))), ((u11 4), .inl (cy 1, 200, .inl (fun _ => 0))), ((u11 5), .inl (cy 1, 5, .inl (fun _ => 0)))]) := hD
  refine W.widen (k := 16) (n := 309) (Nat.le_of_ble_eq_true rfl) (Nat.le_of_ble_eq_true rfl) ?_
  refine va_putF (D := D) (ci := 1) (v := .ref q10) (ty := tyX1 14) (C := RX1) (T := TX1) (N := 16) hx hb E.ht inX1 tyX1 tyX1_ok nmX1 E.hown E.hK hP hD hS 0 rfl rfl 14 (by decide) (E.ht _ k2_32) (fun _ h9 => h9) rfl hin rfl (tyX1_ok 14 (by decide)) rfl rfl (Nat.le_of_ble_eq_true rfl) dX1_init_105 (fun H locs hP hD hS => ?_)
  have hP : va_P D vwCl ([(h0, .inr (1, [.null, .int 0, .int 12, .int 1, .int 0, .ref q1, .ref q2, .ref q3, .ref q4, .ref q5, .ref q6, .ref q7, .ref q8, .ref q9, .ref q10, .null])), (q1, .inl (cy 1, 6, .inl (fun _ => 0))), (q2, .inl (cy 1, 6, .inl (fun _ => 0))), (q3, .inl (cy 1, 16, .inl (fun _ => 0))), (q4, .inl (cy 1, 6, .inl (fun _ => 0))), (q5, .inl (cy 1, 6, .inl (fun _ => 0))), (q6, .inl (cy 1, 6, .inl (fun _ => 0))), (q7, .inl (cy 1, 6, .inl (fun _ => 0))), (q8, .inl (cy 1, 6, .inl (fun _ => 0))), (q9, .inl (cy 1, 6, .inl (fun _ => 0))), (q10, .inr (9, [.int 0, .int 0, .ref (u11 0), .ref (u11 1), .ref (u11 2), .ref (u11 3), .ref (u11 4), .ref (u11 5)])), ((u11 0), .inl (cy 1, 8, .inl (fun _ => 0))), ((u11 1), .inl (cy 1, 8, .inl (fun _ => 0))), ((u11 2), .inl (cy 1, 8, .inl (fun _ => 0))), ((u11 3), .inl (cy 1, 8, .inl (fun _ => 0))), ((u11 4), .inl (cy 1, 200, .inl (fun _ => 0))), ((u11 5), .inl (cy 1, 5, .inl (fun _ => 0)))]) H := hP
  have hD : va_D _ ([(h0, .inr (1, [.null, .int 0, .int 12, .int 1, .int 0, .ref q1, .ref q2, .ref q3, .ref q4, .ref q5, .ref q6, .ref q7, .ref q8, .ref q9, .ref q10, .null])), (q1, .inl (cy 1, 6, .inl (fun _ => 0))), (q2, .inl (cy 1, 6, .inl (fun _ => 0))), (q3, .inl (cy 1, 16, .inl (fun _ => 0))), (q4, .inl (cy 1, 6, .inl (fun _ => 0))), (q5, .inl (cy 1, 6, .inl (fun _ => 0))), (q6, .inl (cy 1, 6, .inl (fun _ => 0))), (q7, .inl (cy 1, 6, .inl (fun _ => 0))), (q8, .inl (cy 1, 6, .inl (fun _ => 0))), (q9, .inl (cy 1, 6, .inl (fun _ => 0))), (q10, .inr (9, [.int 0, .int 0, .ref (u11 0), .ref (u11 1), .ref (u11 2), .ref (u11 3), .ref (u11 4), .ref (u11 5)])), ((u11 0), .inl (cy 1, 8, .inl (fun _ => 0))), ((u11 1), .inl (cy 1, 8, .inl (fun _ => 0))), ((u11 2), .inl (cy 1, 8, .inl (fun _ => 0))), ((u11 3), .inl (cy 1, 8, .inl (fun _ => 0))), ((u11 4), .inl (cy 1, 200, .inl (fun _ => 0))), ((u11 5), .inl (cy 1, 5, .inl (fun _ => 0)))]) := hD
  refine lv_aload_n hx hb dX1_init_108 rfl (lv_at hl 0 rfl) ?_
  refine va_new (ci := 10) (fs := [.int 0, .int 0, .int 0, .int 0, .null, .null]) (C := RX10) (T := TX10) (N := 6) hx hb E.ht inX10 tyX10 tyX10_ok E.hown (E.ht _ k2_3) (E.ht _ k1_102) (E.ht _ k1_4) E.hK hP hD hS hA rfl (by decide) (Nat.le_of_ble_eq_true rfl) (Nat.le_of_ble_eq_true rfl) dX1_init_109 (fun q12 H hP hD hS => ?_)
  refine W.widen (k := 17) (n := 315) (Nat.le_of_ble_eq_true rfl) (Nat.le_of_ble_eq_true rfl) ?_
  refine lv_dup hx hb dX1_init_112 rfl ?_
  refine nmk (y := (q12, .inr (10, [.int 0, .int 0, .int 0, .int 0, .null, .null]))) (X := [(h0, .inr (1, [.null, .int 0, .int 12, .int 1, .int 0, .ref q1, .ref q2, .ref q3, .ref q4, .ref q5, .ref q6, .ref q7, .ref q8, .ref q9, .ref q10, .null])), (q1, .inl (cy 1, 6, .inl (fun _ => 0))), (q2, .inl (cy 1, 6, .inl (fun _ => 0))), (q3, .inl (cy 1, 16, .inl (fun _ => 0))), (q4, .inl (cy 1, 6, .inl (fun _ => 0))), (q5, .inl (cy 1, 6, .inl (fun _ => 0))), (q6, .inl (cy 1, 6, .inl (fun _ => 0))), (q7, .inl (cy 1, 6, .inl (fun _ => 0))), (q8, .inl (cy 1, 6, .inl (fun _ => 0))), (q9, .inl (cy 1, 6, .inl (fun _ => 0))), (q10, .inr (9, [.int 0, .int 0, .ref (u11 0), .ref (u11 1), .ref (u11 2), .ref (u11 3), .ref (u11 4), .ref (u11 5)])), ((u11 0), .inl (cy 1, 8, .inl (fun _ => 0))), ((u11 1), .inl (cy 1, 8, .inl (fun _ => 0))), ((u11 2), .inl (cy 1, 8, .inl (fun _ => 0))), ((u11 3), .inl (cy 1, 8, .inl (fun _ => 0))), ((u11 4), .inl (cy 1, 200, .inl (fun _ => 0))), ((u11 5), .inl (cy 1, 5, .inl (fun _ => 0)))]) (w := fun u => g_X10_init_10 cy q12 u) hP hD hS hA (va_runIN (As := []) (rest := [.ref q12, .ref h0]) E.fix (c_X10_init_10 (l := l) (D := D) (cy := cy) q12 H.size) ⟨ncN E k1_105 k1_4 k2_4 mf_X10_init rfl rfl ⟨Nat.le_of_ble_eq_true rfl, Nat.le_of_ble_eq_true rfl⟩, rfl, E.ht _ k1_104⟩ (nPre E (fun k q hk => (by have hk0 : k = 0 := by { have := (List.getElem?_eq_some_iff.mp hk).1; simp at this; omega }; subst hk0; cases hk; exact hP 17 _ rfl)) _) rfl rfl hl.1 rfl (lv_room (Nat.le_of_ble_eq_true rfl)) dX1_init_113 ⟨Nat.le_of_ble_eq_true rfl, Nat.le_of_ble_eq_true rfl⟩) (fun u13 H locs hP hD hS => ?_)
  have hP : va_P D vwCl ([(h0, .inr (1, [.null, .int 0, .int 12, .int 1, .int 0, .ref q1, .ref q2, .ref q3, .ref q4, .ref q5, .ref q6, .ref q7, .ref q8, .ref q9, .ref q10, .null])), (q1, .inl (cy 1, 6, .inl (fun _ => 0))), (q2, .inl (cy 1, 6, .inl (fun _ => 0))), (q3, .inl (cy 1, 16, .inl (fun _ => 0))), (q4, .inl (cy 1, 6, .inl (fun _ => 0))), (q5, .inl (cy 1, 6, .inl (fun _ => 0))), (q6, .inl (cy 1, 6, .inl (fun _ => 0))), (q7, .inl (cy 1, 6, .inl (fun _ => 0))), (q8, .inl (cy 1, 6, .inl (fun _ => 0))), (q9, .inl (cy 1, 6, .inl (fun _ => 0))), (q10, .inr (9, [.int 0, .int 0, .ref (u11 0), .ref (u11 1), .ref (u11 2), .ref (u11 3), .ref (u11 4), .ref (u11 5)])), ((u11 0), .inl (cy 1, 8, .inl (fun _ => 0))), ((u11 1), .inl (cy 1, 8, .inl (fun _ => 0))), ((u11 2), .inl (cy 1, 8, .inl (fun _ => 0))), ((u11 3), .inl (cy 1, 8, .inl (fun _ => 0))), ((u11 4), .inl (cy 1, 200, .inl (fun _ => 0))), ((u11 5), .inl (cy 1, 5, .inl (fun _ => 0))), (q12, .inr (10, [.int 0, .int 0, .int 0, .int 0, .ref (u13 0), .ref (u13 1)])), ((u13 0), .inl (cy 1, 6, .inl (fun _ => 0))), ((u13 1), .inl (cy 1, 6, .inl (fun _ => 0)))]) H := hP
  have hD : va_D _ ([(h0, .inr (1, [.null, .int 0, .int 12, .int 1, .int 0, .ref q1, .ref q2, .ref q3, .ref q4, .ref q5, .ref q6, .ref q7, .ref q8, .ref q9, .ref q10, .null])), (q1, .inl (cy 1, 6, .inl (fun _ => 0))), (q2, .inl (cy 1, 6, .inl (fun _ => 0))), (q3, .inl (cy 1, 16, .inl (fun _ => 0))), (q4, .inl (cy 1, 6, .inl (fun _ => 0))), (q5, .inl (cy 1, 6, .inl (fun _ => 0))), (q6, .inl (cy 1, 6, .inl (fun _ => 0))), (q7, .inl (cy 1, 6, .inl (fun _ => 0))), (q8, .inl (cy 1, 6, .inl (fun _ => 0))), (q9, .inl (cy 1, 6, .inl (fun _ => 0))), (q10, .inr (9, [.int 0, .int 0, .ref (u11 0), .ref (u11 1), .ref (u11 2), .ref (u11 3), .ref (u11 4), .ref (u11 5)])), ((u11 0), .inl (cy 1, 8, .inl (fun _ => 0))), ((u11 1), .inl (cy 1, 8, .inl (fun _ => 0))), ((u11 2), .inl (cy 1, 8, .inl (fun _ => 0))), ((u11 3), .inl (cy 1, 8, .inl (fun _ => 0))), ((u11 4), .inl (cy 1, 200, .inl (fun _ => 0))), ((u11 5), .inl (cy 1, 5, .inl (fun _ => 0))), (q12, .inr (10, [.int 0, .int 0, .int 0, .int 0, .ref (u13 0), .ref (u13 1)])), ((u13 0), .inl (cy 1, 6, .inl (fun _ => 0))), ((u13 1), .inl (cy 1, 6, .inl (fun _ => 0)))]) := hD
  refine W.widen (k := 19) (n := 327) (Nat.le_of_ble_eq_true rfl) (Nat.le_of_ble_eq_true rfl) ?_
  refine va_putF (D := D) (ci := 1) (v := .ref q12) (ty := tyX1 15) (C := RX1) (T := TX1) (N := 16) hx hb E.ht inX1 tyX1 tyX1_ok nmX1 E.hown E.hK hP hD hS 0 rfl rfl 15 (by decide) (E.ht _ k2_34) (fun _ h9 => h9) rfl hin rfl (tyX1_ok 15 (by decide)) rfl rfl (Nat.le_of_ble_eq_true rfl) dX1_init_116 (fun H locs hP hD hS => ?_)
  have hP : va_P D vwCl ([(h0, .inr (1, [.null, .int 0, .int 12, .int 1, .int 0, .ref q1, .ref q2, .ref q3, .ref q4, .ref q5, .ref q6, .ref q7, .ref q8, .ref q9, .ref q10, .ref q12])), (q1, .inl (cy 1, 6, .inl (fun _ => 0))), (q2, .inl (cy 1, 6, .inl (fun _ => 0))), (q3, .inl (cy 1, 16, .inl (fun _ => 0))), (q4, .inl (cy 1, 6, .inl (fun _ => 0))), (q5, .inl (cy 1, 6, .inl (fun _ => 0))), (q6, .inl (cy 1, 6, .inl (fun _ => 0))), (q7, .inl (cy 1, 6, .inl (fun _ => 0))), (q8, .inl (cy 1, 6, .inl (fun _ => 0))), (q9, .inl (cy 1, 6, .inl (fun _ => 0))), (q10, .inr (9, [.int 0, .int 0, .ref (u11 0), .ref (u11 1), .ref (u11 2), .ref (u11 3), .ref (u11 4), .ref (u11 5)])), ((u11 0), .inl (cy 1, 8, .inl (fun _ => 0))), ((u11 1), .inl (cy 1, 8, .inl (fun _ => 0))), ((u11 2), .inl (cy 1, 8, .inl (fun _ => 0))), ((u11 3), .inl (cy 1, 8, .inl (fun _ => 0))), ((u11 4), .inl (cy 1, 200, .inl (fun _ => 0))), ((u11 5), .inl (cy 1, 5, .inl (fun _ => 0))), (q12, .inr (10, [.int 0, .int 0, .int 0, .int 0, .ref (u13 0), .ref (u13 1)])), ((u13 0), .inl (cy 1, 6, .inl (fun _ => 0))), ((u13 1), .inl (cy 1, 6, .inl (fun _ => 0)))]) H := hP
  have hD : va_D _ ([(h0, .inr (1, [.null, .int 0, .int 12, .int 1, .int 0, .ref q1, .ref q2, .ref q3, .ref q4, .ref q5, .ref q6, .ref q7, .ref q8, .ref q9, .ref q10, .ref q12])), (q1, .inl (cy 1, 6, .inl (fun _ => 0))), (q2, .inl (cy 1, 6, .inl (fun _ => 0))), (q3, .inl (cy 1, 16, .inl (fun _ => 0))), (q4, .inl (cy 1, 6, .inl (fun _ => 0))), (q5, .inl (cy 1, 6, .inl (fun _ => 0))), (q6, .inl (cy 1, 6, .inl (fun _ => 0))), (q7, .inl (cy 1, 6, .inl (fun _ => 0))), (q8, .inl (cy 1, 6, .inl (fun _ => 0))), (q9, .inl (cy 1, 6, .inl (fun _ => 0))), (q10, .inr (9, [.int 0, .int 0, .ref (u11 0), .ref (u11 1), .ref (u11 2), .ref (u11 3), .ref (u11 4), .ref (u11 5)])), ((u11 0), .inl (cy 1, 8, .inl (fun _ => 0))), ((u11 1), .inl (cy 1, 8, .inl (fun _ => 0))), ((u11 2), .inl (cy 1, 8, .inl (fun _ => 0))), ((u11 3), .inl (cy 1, 8, .inl (fun _ => 0))), ((u11 4), .inl (cy 1, 200, .inl (fun _ => 0))), ((u11 5), .inl (cy 1, 5, .inl (fun _ => 0))), (q12, .inr (10, [.int 0, .int 0, .int 0, .int 0, .ref (u13 0), .ref (u13 1)])), ((u13 0), .inl (cy 1, 6, .inl (fun _ => 0))), ((u13 1), .inl (cy 1, 6, .inl (fun _ => 0)))]) := hD
  refine lv_aload_n hx hb dX1_init_119 rfl (lv_at hl 0 rfl) ?_
  refine lv_aload_n hx hb dX1_init_120 rfl (lv_at hl 1 rfl) ?_
  refine va_putF (D := D) (ci := 1) (v := .ref b0) (ty := tyX1 0) (C := RX1) (T := TX1) (N := 16) hx hb E.ht inX1 tyX1 tyX1_ok nmX1 E.hown E.hK hP hD hS 0 rfl rfl 0 (by decide) (E.ht _ k2_8) (fun _ h9 => h9) rfl hin rfl (tyX1_ok 0 (by decide)) rfl rfl (Nat.le_of_ble_eq_true rfl) dX1_init_121 (fun H locs hP hD hS => ?_)
  have hP : va_P D vwCl ([(h0, .inr (1, [.ref b0, .int 0, .int 12, .int 1, .int 0, .ref q1, .ref q2, .ref q3, .ref q4, .ref q5, .ref q6, .ref q7, .ref q8, .ref q9, .ref q10, .ref q12])), (q1, .inl (cy 1, 6, .inl (fun _ => 0))), (q2, .inl (cy 1, 6, .inl (fun _ => 0))), (q3, .inl (cy 1, 16, .inl (fun _ => 0))), (q4, .inl (cy 1, 6, .inl (fun _ => 0))), (q5, .inl (cy 1, 6, .inl (fun _ => 0))), (q6, .inl (cy 1, 6, .inl (fun _ => 0))), (q7, .inl (cy 1, 6, .inl (fun _ => 0))), (q8, .inl (cy 1, 6, .inl (fun _ => 0))), (q9, .inl (cy 1, 6, .inl (fun _ => 0))), (q10, .inr (9, [.int 0, .int 0, .ref (u11 0), .ref (u11 1), .ref (u11 2), .ref (u11 3), .ref (u11 4), .ref (u11 5)])), ((u11 0), .inl (cy 1, 8, .inl (fun _ => 0))), ((u11 1), .inl (cy 1, 8, .inl (fun _ => 0))), ((u11 2), .inl (cy 1, 8, .inl (fun _ => 0))), ((u11 3), .inl (cy 1, 8, .inl (fun _ => 0))), ((u11 4), .inl (cy 1, 200, .inl (fun _ => 0))), ((u11 5), .inl (cy 1, 5, .inl (fun _ => 0))), (q12, .inr (10, [.int 0, .int 0, .int 0, .int 0, .ref (u13 0), .ref (u13 1)])), ((u13 0), .inl (cy 1, 6, .inl (fun _ => 0))), ((u13 1), .inl (cy 1, 6, .inl (fun _ => 0)))]) H := hP
  have hD : va_D _ ([(h0, .inr (1, [.ref b0, .int 0, .int 12, .int 1, .int 0, .ref q1, .ref q2, .ref q3, .ref q4, .ref q5, .ref q6, .ref q7, .ref q8, .ref q9, .ref q10, .ref q12])), (q1, .inl (cy 1, 6, .inl (fun _ => 0))), (q2, .inl (cy 1, 6, .inl (fun _ => 0))), (q3, .inl (cy 1, 16, .inl (fun _ => 0))), (q4, .inl (cy 1, 6, .inl (fun _ => 0))), (q5, .inl (cy 1, 6, .inl (fun _ => 0))), (q6, .inl (cy 1, 6, .inl (fun _ => 0))), (q7, .inl (cy 1, 6, .inl (fun _ => 0))), (q8, .inl (cy 1, 6, .inl (fun _ => 0))), (q9, .inl (cy 1, 6, .inl (fun _ => 0))), (q10, .inr (9, [.int 0, .int 0, .ref (u11 0), .ref (u11 1), .ref (u11 2), .ref (u11 3), .ref (u11 4), .ref (u11 5)])), ((u11 0), .inl (cy 1, 8, .inl (fun _ => 0))), ((u11 1), .inl (cy 1, 8, .inl (fun _ => 0))), ((u11 2), .inl (cy 1, 8, .inl (fun _ => 0))), ((u11 3), .inl (cy 1, 8, .inl (fun _ => 0))), ((u11 4), .inl (cy 1, 200, .inl (fun _ => 0))), ((u11 5), .inl (cy 1, 5, .inl (fun _ => 0))), (q12, .inr (10, [.int 0, .int 0, .int 0, .int 0, .ref (u13 0), .ref (u13 1)])), ((u13 0), .inl (cy 1, 6, .inl (fun _ => 0))), ((u13 1), .inl (cy 1, 6, .inl (fun _ => 0)))]) := hD
  refine lv_aload_n hx hb dX1_init_124 rfl (lv_at hl 0 rfl) ?_
  refine va_get hx hb E.ht inX1 E.hown E.hK hP 0 rfl rfl 7 (by decide) (E.ht _ k2_22) (fun _ h => h) rfl dX1_init_125 ?_
  refine lv_iconst (v := 4) hx hb dX1_init_128 (by decide) ?_
  refine nmkS (y := (q3, .inl (cy 1, 16, .inl (fun _ => 0)))) (y' := (q3, .inl (cy 1, 16, .inl (fun k => if k < 16 then 4 else (fun _ => 0) k)))) 3 rfl rfl hP hD hS hA (va_runS (As := [.ref q3, .int 4]) (rest := []) E.fix (c_fillI (l := l) (D := D) (cy := cy) q3 H.size 16 (fun _ => 0) 4 (by decide)) ⟨ncB E k2_7 k1_12 k2_5 mf_J7_fill_53178 rfl rfl ⟨Nat.le_of_ble_eq_true rfl, Nat.le_of_ble_eq_true rfl⟩, E.ht _ k2_6⟩ (nPre E (fun k q hk => (by have hk0 : k = 0 := by { have := (List.getElem?_eq_some_iff.mp hk).1; simp at this; omega }; subst hk0; cases hk; exact hP 3 _ rfl)) _) rfl rfl hl.1 rfl (lv_room (Nat.le_of_ble_eq_true rfl)) dX1_init_129 ⟨Nat.le_of_ble_eq_true rfl, Nat.le_of_ble_eq_true rfl⟩) (fun H locs hP hD hS => ?_)
  have hP : va_P D vwCl ([(h0, .inr (1, [.ref b0, .int 0, .int 12, .int 1, .int 0, .ref q1, .ref q2, .ref q3, .ref q4, .ref q5, .ref q6, .ref q7, .ref q8, .ref q9, .ref q10, .ref q12])), (q1, .inl (cy 1, 6, .inl (fun _ => 0))), (q2, .inl (cy 1, 6, .inl (fun _ => 0))), (q3, .inl (cy 1, 16, .inl (fun k => if k < 16 then 4 else (fun _ => 0) k))), (q4, .inl (cy 1, 6, .inl (fun _ => 0))), (q5, .inl (cy 1, 6, .inl (fun _ => 0))), (q6, .inl (cy 1, 6, .inl (fun _ => 0))), (q7, .inl (cy 1, 6, .inl (fun _ => 0))), (q8, .inl (cy 1, 6, .inl (fun _ => 0))), (q9, .inl (cy 1, 6, .inl (fun _ => 0))), (q10, .inr (9, [.int 0, .int 0, .ref (u11 0), .ref (u11 1), .ref (u11 2), .ref (u11 3), .ref (u11 4), .ref (u11 5)])), ((u11 0), .inl (cy 1, 8, .inl (fun _ => 0))), ((u11 1), .inl (cy 1, 8, .inl (fun _ => 0))), ((u11 2), .inl (cy 1, 8, .inl (fun _ => 0))), ((u11 3), .inl (cy 1, 8, .inl (fun _ => 0))), ((u11 4), .inl (cy 1, 200, .inl (fun _ => 0))), ((u11 5), .inl (cy 1, 5, .inl (fun _ => 0))), (q12, .inr (10, [.int 0, .int 0, .int 0, .int 0, .ref (u13 0), .ref (u13 1)])), ((u13 0), .inl (cy 1, 6, .inl (fun _ => 0))), ((u13 1), .inl (cy 1, 6, .inl (fun _ => 0)))]) H := hP
  have hD : va_D _ ([(h0, .inr (1, [.ref b0, .int 0, .int 12, .int 1, .int 0, .ref q1, .ref q2, .ref q3, .ref q4, .ref q5, .ref q6, .ref q7, .ref q8, .ref q9, .ref q10, .ref q12])), (q1, .inl (cy 1, 6, .inl (fun _ => 0))), (q2, .inl (cy 1, 6, .inl (fun _ => 0))), (q3, .inl (cy 1, 16, .inl (fun k => if k < 16 then 4 else (fun _ => 0) k))), (q4, .inl (cy 1, 6, .inl (fun _ => 0))), (q5, .inl (cy 1, 6, .inl (fun _ => 0))), (q6, .inl (cy 1, 6, .inl (fun _ => 0))), (q7, .inl (cy 1, 6, .inl (fun _ => 0))), (q8, .inl (cy 1, 6, .inl (fun _ => 0))), (q9, .inl (cy 1, 6, .inl (fun _ => 0))), (q10, .inr (9, [.int 0, .int 0, .ref (u11 0), .ref (u11 1), .ref (u11 2), .ref (u11 3), .ref (u11 4), .ref (u11 5)])), ((u11 0), .inl (cy 1, 8, .inl (fun _ => 0))), ((u11 1), .inl (cy 1, 8, .inl (fun _ => 0))), ((u11 2), .inl (cy 1, 8, .inl (fun _ => 0))), ((u11 3), .inl (cy 1, 8, .inl (fun _ => 0))), ((u11 4), .inl (cy 1, 200, .inl (fun _ => 0))), ((u11 5), .inl (cy 1, 5, .inl (fun _ => 0))), (q12, .inr (10, [.int 0, .int 0, .int 0, .int 0, .ref (u13 0), .ref (u13 1)])), ((u13 0), .inl (cy 1, 6, .inl (fun _ => 0))), ((u13 1), .inl (cy 1, 6, .inl (fun _ => 0)))]) := hD
  refine W.widen (k := 19) (n := 327) (Nat.le_of_ble_eq_true rfl) (Nat.le_of_ble_eq_true rfl) ?_
  refine lv_aload_n hx hb dX1_init_132 rfl (lv_at hl 0 rfl) ?_
  refine va_get hx hb E.ht inX1 E.hown E.hK hP 0 rfl rfl 9 (by decide) (E.ht _ k2_26) (fun _ h => h) rfl dX1_init_133 ?_
  refine lv_iconst (v := 3) hx hb dX1_init_136 (by decide) ?_
  refine nmkS (y := (q5, .inl (cy 1, 6, .inl (fun _ => 0)))) (y' := (q5, .inl (cy 1, 6, .inl (fun k => if k < 6 then 3 else (fun _ => 0) k)))) 5 rfl rfl hP hD hS hA (va_runS (As := [.ref q5, .int 3]) (rest := []) E.fix (c_fillI (l := l) (D := D) (cy := cy) q5 H.size 6 (fun _ => 0) 3 (by decide)) ⟨ncB E k2_7 k1_12 k2_5 mf_J7_fill_53178 rfl rfl ⟨Nat.le_of_ble_eq_true rfl, Nat.le_of_ble_eq_true rfl⟩, E.ht _ k2_6⟩ (nPre E (fun k q hk => (by have hk0 : k = 0 := by { have := (List.getElem?_eq_some_iff.mp hk).1; simp at this; omega }; subst hk0; cases hk; exact hP 5 _ rfl)) _) rfl rfl hl.1 rfl (lv_room (Nat.le_of_ble_eq_true rfl)) dX1_init_137 ⟨Nat.le_of_ble_eq_true rfl, Nat.le_of_ble_eq_true rfl⟩) (fun H locs hP hD hS => ?_)
  have hP : va_P D vwCl ([(h0, .inr (1, [.ref b0, .int 0, .int 12, .int 1, .int 0, .ref q1, .ref q2, .ref q3, .ref q4, .ref q5, .ref q6, .ref q7, .ref q8, .ref q9, .ref q10, .ref q12])), (q1, .inl (cy 1, 6, .inl (fun _ => 0))), (q2, .inl (cy 1, 6, .inl (fun _ => 0))), (q3, .inl (cy 1, 16, .inl (fun k => if k < 16 then 4 else (fun _ => 0) k))), (q4, .inl (cy 1, 6, .inl (fun _ => 0))), (q5, .inl (cy 1, 6, .inl (fun k => if k < 6 then 3 else (fun _ => 0) k))), (q6, .inl (cy 1, 6, .inl (fun _ => 0))), (q7, .inl (cy 1, 6, .inl (fun _ => 0))), (q8, .inl (cy 1, 6, .inl (fun _ => 0))), (q9, .inl (cy 1, 6, .inl (fun _ => 0))), (q10, .inr (9, [.int 0, .int 0, .ref (u11 0), .ref (u11 1), .ref (u11 2), .ref (u11 3), .ref (u11 4), .ref (u11 5)])), ((u11 0), .inl (cy 1, 8, .inl (fun _ => 0))), ((u11 1), .inl (cy 1, 8, .inl (fun _ => 0))), ((u11 2), .inl (cy 1, 8, .inl (fun _ => 0))), ((u11 3), .inl (cy 1, 8, .inl (fun _ => 0))), ((u11 4), .inl (cy 1, 200, .inl (fun _ => 0))), ((u11 5), .inl (cy 1, 5, .inl (fun _ => 0))), (q12, .inr (10, [.int 0, .int 0, .int 0, .int 0, .ref (u13 0), .ref (u13 1)])), ((u13 0), .inl (cy 1, 6, .inl (fun _ => 0))), ((u13 1), .inl (cy 1, 6, .inl (fun _ => 0)))]) H := hP
  have hD : va_D _ ([(h0, .inr (1, [.ref b0, .int 0, .int 12, .int 1, .int 0, .ref q1, .ref q2, .ref q3, .ref q4, .ref q5, .ref q6, .ref q7, .ref q8, .ref q9, .ref q10, .ref q12])), (q1, .inl (cy 1, 6, .inl (fun _ => 0))), (q2, .inl (cy 1, 6, .inl (fun _ => 0))), (q3, .inl (cy 1, 16, .inl (fun k => if k < 16 then 4 else (fun _ => 0) k))), (q4, .inl (cy 1, 6, .inl (fun _ => 0))), (q5, .inl (cy 1, 6, .inl (fun k => if k < 6 then 3 else (fun _ => 0) k))), (q6, .inl (cy 1, 6, .inl (fun _ => 0))), (q7, .inl (cy 1, 6, .inl (fun _ => 0))), (q8, .inl (cy 1, 6, .inl (fun _ => 0))), (q9, .inl (cy 1, 6, .inl (fun _ => 0))), (q10, .inr (9, [.int 0, .int 0, .ref (u11 0), .ref (u11 1), .ref (u11 2), .ref (u11 3), .ref (u11 4), .ref (u11 5)])), ((u11 0), .inl (cy 1, 8, .inl (fun _ => 0))), ((u11 1), .inl (cy 1, 8, .inl (fun _ => 0))), ((u11 2), .inl (cy 1, 8, .inl (fun _ => 0))), ((u11 3), .inl (cy 1, 8, .inl (fun _ => 0))), ((u11 4), .inl (cy 1, 200, .inl (fun _ => 0))), ((u11 5), .inl (cy 1, 5, .inl (fun _ => 0))), (q12, .inr (10, [.int 0, .int 0, .int 0, .int 0, .ref (u13 0), .ref (u13 1)])), ((u13 0), .inl (cy 1, 6, .inl (fun _ => 0))), ((u13 1), .inl (cy 1, 6, .inl (fun _ => 0)))]) := hD
  refine W.widen (k := 19) (n := 327) (Nat.le_of_ble_eq_true rfl) (Nat.le_of_ble_eq_true rfl) ?_
  exact W.vret hx hb hr (fun t ht _ => ⟨⟨(fun k => ([q1, q2, q3, q4, q5, q6, q7, q8, q9, q10, (u11 0), (u11 1), (u11 2), (u11 3), (u11 4), (u11 5), q12, (u13 0), (u13 1)] : List Nat).getD k 0), rfl, trivial, by rw [ht]; exact hP, hD⟩, hS.F ht⟩) hS.2.2 dX1_init_140 hlk
def g_X6_init_6 (cy : Cy) (h0 : Nat) (b0 : Nat) (u : Nat → Nat) : va_W := [(h0, .inr (6, [.ref b0, .ref (u 0), .ref (u 1), .ref (u 2), .int 0, .int 0, .int 0, .int (-3), .int 0, .int 0, .int 0])), ((u 0), .inl (cy 4, 5, .inr (.inr (.inr (.inr (va_up (va_up (va_up (va_up (va_up (fun _ => none) 0 (some (u 3))) 1 (some (u 6))) 2 (some (u 9))) 3 (some (u 12))) 4 (some (u 15)))))))), ((u 1), .inl (cy 1, 4, .inl (fun _ => 0))), ((u 2), .inl (cy 1, 4, .inl (fun _ => 0))), ((u 3), .inr (10, [.int 0, .int 0, .int 0, .int 0, .ref (u 4), .ref (u 5)])), ((u 4), .inl (cy 1, 6, .inl (fun _ => 0))), ((u 5), .inl (cy 1, 6, .inl (fun _ => 0))), ((u 6), .inr (10, [.int 0, .int 0, .int 0, .int 0, .ref (u 7), .ref (u 8)])), ((u 7), .inl (cy 1, 6, .inl (fun _ => 0))), ((u 8), .inl (cy 1, 6, .inl (fun _ => 0))), ((u 9), .inr (10, [.int 0, .int 0, .int 0, .int 0, .ref (u 10), .ref (u 11)])), ((u 10), .inl (cy 1, 6, .inl (fun _ => 0))), ((u 11), .inl (cy 1, 6, .inl (fun _ => 0))), ((u 12), .inr (10, [.int 0, .int 0, .int 0, .int 0, .ref (u 13), .ref (u 14)])), ((u 13), .inl (cy 1, 6, .inl (fun _ => 0))), ((u 14), .inl (cy 1, 6, .inl (fun _ => 0))), ((u 15), .inr (10, [.int 0, .int 0, .int 0, .int 0, .ref (u 16), .ref (u 17)])), ((u 16), .inl (cy 1, 6, .inl (fun _ => 0))), ((u 17), .inl (cy 1, 6, .inl (fun _ => 0)))]
set_option maxRecDepth 100000 in
set_option maxHeartbeats 8000000 in
theorem c_X6_init_6 {l : Launch} {D : va_G} {cy : Cy} (h0 sz : Nat) (b0 : Nat) : Met l yX6_init (.code yX6_init cX6_init 3 none :: TT) ({ frames := 2, cells := 18, slots := 103, locals := 32 } : Room) (zPn D cy sz [(h0, .inr (6, [.null, .null, .null, .null, .int 0, .int 0, .int 0, .int 0, .int 0, .int 0, .int 0]))] [.ref h0, .ref b0]) (zQn D (fun u => g_X6_init_6 cy h0 b0 u) (va_A [(h0, .inr (6, [.null, .null, .null, .null, .int 0, .int 0, .int 0, .int 0, .int 0, .int 0, .int 0]))] sz)) 18 103 (va_A [(h0, .inr (6, [.null, .null, .null, .null, .int 0, .int 0, .int 0, .int 0, .int 0, .int 0, .int 0]))] sz) := by
  refine nofW (by decide) (Nat.le_of_ble_eq_true rfl) ?_
  intro p e s m args below meth c ls E hsz hP hr hlk hin hl
  have E : ZI p s m args c cX6_init 3 "KiteSummons$Plans" D cy := E
  have hx := E.hx
  have hb := E.hb
  subst hsz
  have hD0 : va_D (va_A [(h0, .inr (6, [.null, .null, .null, .null, .int 0, .int 0, .int 0, .int 0, .int 0, .int 0, .int 0]))] s.heap.size) [(h0, .inr (6, [.null, .null, .null, .null, .int 0, .int 0, .int 0, .int 0, .int 0, .int 0, .int 0]))] := va_D.self (A := fun _ => True) ⟨fun i j p q hp hq _ => (by have h1 := (List.getElem?_eq_some_iff.mp hp).1; have h2 := (List.getElem?_eq_some_iff.mp hq).1; simp at h1 h2; omega), fun _ _ _ => trivial⟩
  have hA : ∀ q : Nat, s.heap.size ≤ q → va_A [(h0, .inr (6, [.null, .null, .null, .null, .int 0, .int 0, .int 0, .int 0, .int 0, .int 0, .int 0]))] s.heap.size q := fun q h => Or.inr h
  generalize hAe : va_A [(h0, .inr (6, [.null, .null, .null, .null, .int 0, .int 0, .int 0, .int 0, .int 0, .int 0, .int 0]))] s.heap.size = A at hD0 hA ⊢
  have hD := hD0
  have hS : va_S A s.heap s.heap [] := va_S.rf
  have hl : lv_has ls 3 [(0, .ref h0), (1, .ref b0)] := hl
  refine lv_aload_n hx hb dX6_init_0 rfl (lv_at hl 0 rfl) ?_
  refine W.objInit hx hb E.hown (E.ht _ k2_75) (E.ht _ k1_28) (E.ht _ k1_29) rfl (by rw [E.hml]; exact hl.1) rfl dX6_init_1 (Nat.le_of_ble_eq_true rfl) (Nat.le_of_ble_eq_true rfl) ?_
  change W _ _ _ _ _ _ _ _ _ _ _ _ _ _ _ (F0 m 4 ls [])
  refine lv_aload_n hx hb dX6_init_4 rfl (lv_at hl 0 rfl) ?_
  refine lv_iconst (v := 5) hx hb dX6_init_5 (by decide) ?_
  refine nnewq (N := 5) (t0 := 4) (C := "KiteSummons$Sky") E k2_76 E.hO.2.1 rfl hP hD hS hA (by decide) (by decide) (Nat.le_of_ble_eq_true rfl) (Nat.le_of_ble_eq_true rfl) (Nat.le_of_ble_eq_true rfl) dX6_init_6 (fun q1 H hP hD hS => ?_)
  have hP : va_P D vwCl ([(h0, .inr (6, [.null, .null, .null, .null, .int 0, .int 0, .int 0, .int 0, .int 0, .int 0, .int 0])), (q1, .inl (cy 4, 5, .inr (.inr (.inr (.inr (fun _ => none))))))]) H := hP
  have hD : va_D _ ([(h0, .inr (6, [.null, .null, .null, .null, .int 0, .int 0, .int 0, .int 0, .int 0, .int 0, .int 0])), (q1, .inl (cy 4, 5, .inr (.inr (.inr (.inr (fun _ => none))))))]) := hD
  refine W.widen (k := 1) (n := 5) (Nat.le_of_ble_eq_true rfl) (Nat.le_of_ble_eq_true rfl) ?_
  refine va_putF (D := D) (ci := 6) (v := .ref q1) (ty := tyX6 1) (C := RX6) (T := TX6) (N := 11) hx hb E.ht inX6 tyX6 tyX6_ok nmX6 E.hown E.hK hP hD hS 0 rfl rfl 1 (by decide) (E.ht _ k2_80) (fun _ h9 => h9) rfl hin rfl (tyX6_ok 1 (by decide)) rfl rfl (Nat.le_of_ble_eq_true rfl) dX6_init_9 (fun H locs hP hD hS => ?_)
  have hP : va_P D vwCl ([(h0, .inr (6, [.null, .ref q1, .null, .null, .int 0, .int 0, .int 0, .int 0, .int 0, .int 0, .int 0])), (q1, .inl (cy 4, 5, .inr (.inr (.inr (.inr (fun _ => none))))))]) H := hP
  have hD : va_D _ ([(h0, .inr (6, [.null, .ref q1, .null, .null, .int 0, .int 0, .int 0, .int 0, .int 0, .int 0, .int 0])), (q1, .inl (cy 4, 5, .inr (.inr (.inr (.inr (fun _ => none))))))]) := hD
  refine lv_aload_n hx hb dX6_init_12 rfl (lv_at hl 0 rfl) ?_
  refine lv_iconst (v := 4) hx hb dX6_init_13 (by decide) ?_
  refine nnewi (N := 4) E hP hD hS hA (by decide) (by decide) (Nat.le_of_ble_eq_true rfl) (Nat.le_of_ble_eq_true rfl) (Nat.le_of_ble_eq_true rfl) dX6_init_14 (fun q2 H hP hD hS => ?_)
  have hP : va_P D vwCl ([(h0, .inr (6, [.null, .ref q1, .null, .null, .int 0, .int 0, .int 0, .int 0, .int 0, .int 0, .int 0])), (q1, .inl (cy 4, 5, .inr (.inr (.inr (.inr (fun _ => none)))))), (q2, .inl (cy 1, 4, .inl (fun _ => 0)))]) H := hP
  have hD : va_D _ ([(h0, .inr (6, [.null, .ref q1, .null, .null, .int 0, .int 0, .int 0, .int 0, .int 0, .int 0, .int 0])), (q1, .inl (cy 4, 5, .inr (.inr (.inr (.inr (fun _ => none)))))), (q2, .inl (cy 1, 4, .inl (fun _ => 0)))]) := hD
  refine W.widen (k := 2) (n := 9) (Nat.le_of_ble_eq_true rfl) (Nat.le_of_ble_eq_true rfl) ?_
  refine va_putF (D := D) (ci := 6) (v := .ref q2) (ty := tyX6 2) (C := RX6) (T := TX6) (N := 11) hx hb E.ht inX6 tyX6 tyX6_ok nmX6 E.hown E.hK hP hD hS 0 rfl rfl 2 (by decide) (E.ht _ k2_81) (fun _ h9 => h9) rfl hin rfl (tyX6_ok 2 (by decide)) rfl rfl (Nat.le_of_ble_eq_true rfl) dX6_init_16 (fun H locs hP hD hS => ?_)
  have hP : va_P D vwCl ([(h0, .inr (6, [.null, .ref q1, .ref q2, .null, .int 0, .int 0, .int 0, .int 0, .int 0, .int 0, .int 0])), (q1, .inl (cy 4, 5, .inr (.inr (.inr (.inr (fun _ => none)))))), (q2, .inl (cy 1, 4, .inl (fun _ => 0)))]) H := hP
  have hD : va_D _ ([(h0, .inr (6, [.null, .ref q1, .ref q2, .null, .int 0, .int 0, .int 0, .int 0, .int 0, .int 0, .int 0])), (q1, .inl (cy 4, 5, .inr (.inr (.inr (.inr (fun _ => none)))))), (q2, .inl (cy 1, 4, .inl (fun _ => 0)))]) := hD
  refine lv_aload_n hx hb dX6_init_19 rfl (lv_at hl 0 rfl) ?_
  refine lv_iconst (v := 4) hx hb dX6_init_20 (by decide) ?_
  refine nnewi (N := 4) E hP hD hS hA (by decide) (by decide) (Nat.le_of_ble_eq_true rfl) (Nat.le_of_ble_eq_true rfl) (Nat.le_of_ble_eq_true rfl) dX6_init_21 (fun q3 H hP hD hS => ?_)
  have hP : va_P D vwCl ([(h0, .inr (6, [.null, .ref q1, .ref q2, .null, .int 0, .int 0, .int 0, .int 0, .int 0, .int 0, .int 0])), (q1, .inl (cy 4, 5, .inr (.inr (.inr (.inr (fun _ => none)))))), (q2, .inl (cy 1, 4, .inl (fun _ => 0))), (q3, .inl (cy 1, 4, .inl (fun _ => 0)))]) H := hP
  have hD : va_D _ ([(h0, .inr (6, [.null, .ref q1, .ref q2, .null, .int 0, .int 0, .int 0, .int 0, .int 0, .int 0, .int 0])), (q1, .inl (cy 4, 5, .inr (.inr (.inr (.inr (fun _ => none)))))), (q2, .inl (cy 1, 4, .inl (fun _ => 0))), (q3, .inl (cy 1, 4, .inl (fun _ => 0)))]) := hD
  refine W.widen (k := 3) (n := 13) (Nat.le_of_ble_eq_true rfl) (Nat.le_of_ble_eq_true rfl) ?_
  refine va_putF (D := D) (ci := 6) (v := .ref q3) (ty := tyX6 3) (C := RX6) (T := TX6) (N := 11) hx hb E.ht inX6 tyX6 tyX6_ok nmX6 E.hown E.hK hP hD hS 0 rfl rfl 3 (by decide) (E.ht _ k2_82) (fun _ h9 => h9) rfl hin rfl (tyX6_ok 3 (by decide)) rfl rfl (Nat.le_of_ble_eq_true rfl) dX6_init_23 (fun H locs hP hD hS => ?_)
  have hP : va_P D vwCl ([(h0, .inr (6, [.null, .ref q1, .ref q2, .ref q3, .int 0, .int 0, .int 0, .int 0, .int 0, .int 0, .int 0])), (q1, .inl (cy 4, 5, .inr (.inr (.inr (.inr (fun _ => none)))))), (q2, .inl (cy 1, 4, .inl (fun _ => 0))), (q3, .inl (cy 1, 4, .inl (fun _ => 0)))]) H := hP
  have hD : va_D _ ([(h0, .inr (6, [.null, .ref q1, .ref q2, .ref q3, .int 0, .int 0, .int 0, .int 0, .int 0, .int 0, .int 0])), (q1, .inl (cy 4, 5, .inr (.inr (.inr (.inr (fun _ => none)))))), (q2, .inl (cy 1, 4, .inl (fun _ => 0))), (q3, .inl (cy 1, 4, .inl (fun _ => 0)))]) := hD
  refine lv_aload_n hx hb dX6_init_26 rfl (lv_at hl 0 rfl) ?_
  refine lv_iconst (v := 0) hx hb dX6_init_27 (by decide) ?_
  refine va_put (D := D) (ci := 6) (v := .int 0) (ty := tyX6 4) (C := RX6) (T := TX6) (N := 11) hx hb E.ht inX6 tyX6 tyX6_ok nmX6 E.hown E.hK hP hD hS 0 rfl rfl 4 (by decide) (E.ht _ k2_84) (fun _ h9 => h9) rfl (tyX6_ok 4 (by decide)) rfl rfl (Nat.le_of_ble_eq_true rfl) dX6_init_28 (fun H locs hP hD hS => ?_)
  have hP : va_P D vwCl ([(h0, .inr (6, [.null, .ref q1, .ref q2, .ref q3, .int 0, .int 0, .int 0, .int 0, .int 0, .int 0, .int 0])), (q1, .inl (cy 4, 5, .inr (.inr (.inr (.inr (fun _ => none)))))), (q2, .inl (cy 1, 4, .inl (fun _ => 0))), (q3, .inl (cy 1, 4, .inl (fun _ => 0)))]) H := hP
  have hD : va_D _ ([(h0, .inr (6, [.null, .ref q1, .ref q2, .ref q3, .int 0, .int 0, .int 0, .int 0, .int 0, .int 0, .int 0])), (q1, .inl (cy 4, 5, .inr (.inr (.inr (.inr (fun _ => none)))))), (q2, .inl (cy 1, 4, .inl (fun _ => 0))), (q3, .inl (cy 1, 4, .inl (fun _ => 0)))]) := hD
  refine lv_aload_n hx hb dX6_init_31 rfl (lv_at hl 0 rfl) ?_
  refine lv_iconst (v := 0) hx hb dX6_init_32 (by decide) ?_
  refine va_put (D := D) (ci := 6) (v := .int 0) (ty := tyX6 5) (C := RX6) (T := TX6) (N := 11) hx hb E.ht inX6 tyX6 tyX6_ok nmX6 E.hown E.hK hP hD hS 0 rfl rfl 5 (by decide) (E.ht _ k2_86) (fun _ h9 => h9) rfl (tyX6_ok 5 (by decide)) rfl rfl (Nat.le_of_ble_eq_true rfl) dX6_init_33 (fun H locs hP hD hS => ?_)
  have hP : va_P D vwCl ([(h0, .inr (6, [.null, .ref q1, .ref q2, .ref q3, .int 0, .int 0, .int 0, .int 0, .int 0, .int 0, .int 0])), (q1, .inl (cy 4, 5, .inr (.inr (.inr (.inr (fun _ => none)))))), (q2, .inl (cy 1, 4, .inl (fun _ => 0))), (q3, .inl (cy 1, 4, .inl (fun _ => 0)))]) H := hP
  have hD : va_D _ ([(h0, .inr (6, [.null, .ref q1, .ref q2, .ref q3, .int 0, .int 0, .int 0, .int 0, .int 0, .int 0, .int 0])), (q1, .inl (cy 4, 5, .inr (.inr (.inr (.inr (fun _ => none)))))), (q2, .inl (cy 1, 4, .inl (fun _ => 0))), (q3, .inl (cy 1, 4, .inl (fun _ => 0)))]) := hD
  refine lv_aload_n hx hb dX6_init_36 rfl (lv_at hl 0 rfl) ?_
  refine lv_iconst (v := 0) hx hb dX6_init_37 (by decide) ?_
  refine va_put (D := D) (ci := 6) (v := .int 0) (ty := tyX6 6) (C := RX6) (T := TX6) (N := 11) hx hb E.ht inX6 tyX6 tyX6_ok nmX6 E.hown E.hK hP hD hS 0 rfl rfl 6 (by decide) (E.ht _ k2_88) (fun _ h9 => h9) rfl (tyX6_ok 6 (by decide)) rfl rfl (Nat.le_of_ble_eq_true rfl) dX6_init_38 (fun H locs hP hD hS => ?_)
  have hP : va_P D vwCl ([(h0, .inr (6, [.null, .ref q1, .ref q2, .ref q3, .int 0, .int 0, .int 0, .int 0, .int 0, .int 0, .int 0])), (q1, .inl (cy 4, 5, .inr (.inr (.inr (.inr (fun _ => none)))))), (q2, .inl (cy 1, 4, .inl (fun _ => 0))), (q3, .inl (cy 1, 4, .inl (fun _ => 0)))]) H := hP
  have hD : va_D _ ([(h0, .inr (6, [.null, .ref q1, .ref q2, .ref q3, .int 0, .int 0, .int 0, .int 0, .int 0, .int 0, .int 0])), (q1, .inl (cy 4, 5, .inr (.inr (.inr (.inr (fun _ => none)))))), (q2, .inl (cy 1, 4, .inl (fun _ => 0))), (q3, .inl (cy 1, 4, .inl (fun _ => 0)))]) := hD
  refine lv_aload_n hx hb dX6_init_41 rfl (lv_at hl 0 rfl) ?_
  refine lv_bipush (v := (-3)) hx hb dX6_init_42 (by decide) ?_
  refine va_put (D := D) (ci := 6) (v := .int (-3)) (ty := tyX6 7) (C := RX6) (T := TX6) (N := 11) hx hb E.ht inX6 tyX6 tyX6_ok nmX6 E.hown E.hK hP hD hS 0 rfl rfl 7 (by decide) (E.ht _ k2_90) (fun _ h9 => h9) rfl (tyX6_ok 7 (by decide)) rfl rfl (Nat.le_of_ble_eq_true rfl) dX6_init_44 (fun H locs hP hD hS => ?_)
  have hP : va_P D vwCl ([(h0, .inr (6, [.null, .ref q1, .ref q2, .ref q3, .int 0, .int 0, .int 0, .int (-3), .int 0, .int 0, .int 0])), (q1, .inl (cy 4, 5, .inr (.inr (.inr (.inr (fun _ => none)))))), (q2, .inl (cy 1, 4, .inl (fun _ => 0))), (q3, .inl (cy 1, 4, .inl (fun _ => 0)))]) H := hP
  have hD : va_D _ ([(h0, .inr (6, [.null, .ref q1, .ref q2, .ref q3, .int 0, .int 0, .int 0, .int (-3), .int 0, .int 0, .int 0])), (q1, .inl (cy 4, 5, .inr (.inr (.inr (.inr (fun _ => none)))))), (q2, .inl (cy 1, 4, .inl (fun _ => 0))), (q3, .inl (cy 1, 4, .inl (fun _ => 0)))]) := hD
  refine lv_aload_n hx hb dX6_init_47 rfl (lv_at hl 0 rfl) ?_
  refine lv_iconst (v := 0) hx hb dX6_init_48 (by decide) ?_
  refine va_put (D := D) (ci := 6) (v := .int 0) (ty := tyX6 8) (C := RX6) (T := TX6) (N := 11) hx hb E.ht inX6 tyX6 tyX6_ok nmX6 E.hown E.hK hP hD hS 0 rfl rfl 8 (by decide) (E.ht _ k2_92) (fun _ h9 => h9) rfl (tyX6_ok 8 (by decide)) rfl rfl (Nat.le_of_ble_eq_true rfl) dX6_init_49 (fun H locs hP hD hS => ?_)
  have hP : va_P D vwCl ([(h0, .inr (6, [.null, .ref q1, .ref q2, .ref q3, .int 0, .int 0, .int 0, .int (-3), .int 0, .int 0, .int 0])), (q1, .inl (cy 4, 5, .inr (.inr (.inr (.inr (fun _ => none)))))), (q2, .inl (cy 1, 4, .inl (fun _ => 0))), (q3, .inl (cy 1, 4, .inl (fun _ => 0)))]) H := hP
  have hD : va_D _ ([(h0, .inr (6, [.null, .ref q1, .ref q2, .ref q3, .int 0, .int 0, .int 0, .int (-3), .int 0, .int 0, .int 0])), (q1, .inl (cy 4, 5, .inr (.inr (.inr (.inr (fun _ => none)))))), (q2, .inl (cy 1, 4, .inl (fun _ => 0))), (q3, .inl (cy 1, 4, .inl (fun _ => 0)))]) := hD
  refine lv_aload_n hx hb dX6_init_52 rfl (lv_at hl 0 rfl) ?_
  refine lv_iconst (v := 0) hx hb dX6_init_53 (by decide) ?_
  refine va_put (D := D) (ci := 6) (v := .int 0) (ty := tyX6 9) (C := RX6) (T := TX6) (N := 11) hx hb E.ht inX6 tyX6 tyX6_ok nmX6 E.hown E.hK hP hD hS 0 rfl rfl 9 (by decide) (E.ht _ k2_93) (fun _ h9 => h9) rfl (tyX6_ok 9 (by decide)) rfl rfl (Nat.le_of_ble_eq_true rfl) dX6_init_54 (fun H locs hP hD hS => ?_)
  have hP : va_P D vwCl ([(h0, .inr (6, [.null, .ref q1, .ref q2, .ref q3, .int 0, .int 0, .int 0, .int (-3), .int 0, .int 0, .int 0])), (q1, .inl (cy 4, 5, .inr (.inr (.inr (.inr (fun _ => none)))))), (q2, .inl (cy 1, 4, .inl (fun _ => 0))), (q3, .inl (cy 1, 4, .inl (fun _ => 0)))]) H := hP
  have hD : va_D _ ([(h0, .inr (6, [.null, .ref q1, .ref q2, .ref q3, .int 0, .int 0, .int 0, .int (-3), .int 0, .int 0, .int 0])), (q1, .inl (cy 4, 5, .inr (.inr (.inr (.inr (fun _ => none)))))), (q2, .inl (cy 1, 4, .inl (fun _ => 0))), (q3, .inl (cy 1, 4, .inl (fun _ => 0)))]) := hD
  refine lv_aload_n hx hb dX6_init_57 rfl (lv_at hl 0 rfl) ?_
  refine lv_iconst (v := 0) hx hb dX6_init_58 (by decide) ?_
  refine va_put (D := D) (ci := 6) (v := .int 0) (ty := tyX6 10) (C := RX6) (T := TX6) (N := 11) hx hb E.ht inX6 tyX6 tyX6_ok nmX6 E.hown E.hK hP hD hS 0 rfl rfl 10 (by decide) (E.ht _ k2_95) (fun _ h9 => h9) rfl (tyX6_ok 10 (by decide)) rfl rfl (Nat.le_of_ble_eq_true rfl) dX6_init_59 (fun H locs hP hD hS => ?_)
  have hP : va_P D vwCl ([(h0, .inr (6, [.null, .ref q1, .ref q2, .ref q3, .int 0, .int 0, .int 0, .int (-3), .int 0, .int 0, .int 0])), (q1, .inl (cy 4, 5, .inr (.inr (.inr (.inr (fun _ => none)))))), (q2, .inl (cy 1, 4, .inl (fun _ => 0))), (q3, .inl (cy 1, 4, .inl (fun _ => 0)))]) H := hP
  have hD : va_D _ ([(h0, .inr (6, [.null, .ref q1, .ref q2, .ref q3, .int 0, .int 0, .int 0, .int (-3), .int 0, .int 0, .int 0])), (q1, .inl (cy 4, 5, .inr (.inr (.inr (.inr (fun _ => none)))))), (q2, .inl (cy 1, 4, .inl (fun _ => 0))), (q3, .inl (cy 1, 4, .inl (fun _ => 0)))]) := hD
  refine lv_aload_n hx hb dX6_init_62 rfl (lv_at hl 0 rfl) ?_
  refine lv_aload_n hx hb dX6_init_63 rfl (lv_at hl 1 rfl) ?_
  refine va_putF (D := D) (ci := 6) (v := .ref b0) (ty := tyX6 0) (C := RX6) (T := TX6) (N := 11) hx hb E.ht inX6 tyX6 tyX6_ok nmX6 E.hown E.hK hP hD hS 0 rfl rfl 0 (by decide) (E.ht _ k2_79) (fun _ h9 => h9) rfl hin rfl (tyX6_ok 0 (by decide)) rfl rfl (Nat.le_of_ble_eq_true rfl) dX6_init_64 (fun H locs hP hD hS => ?_)
  have hP : va_P D vwCl ([(h0, .inr (6, [.ref b0, .ref q1, .ref q2, .ref q3, .int 0, .int 0, .int 0, .int (-3), .int 0, .int 0, .int 0])), (q1, .inl (cy 4, 5, .inr (.inr (.inr (.inr (fun _ => none)))))), (q2, .inl (cy 1, 4, .inl (fun _ => 0))), (q3, .inl (cy 1, 4, .inl (fun _ => 0)))]) H := hP
  have hD : va_D _ ([(h0, .inr (6, [.ref b0, .ref q1, .ref q2, .ref q3, .int 0, .int 0, .int 0, .int (-3), .int 0, .int 0, .int 0])), (q1, .inl (cy 4, 5, .inr (.inr (.inr (.inr (fun _ => none)))))), (q2, .inl (cy 1, 4, .inl (fun _ => 0))), (q3, .inl (cy 1, 4, .inl (fun _ => 0)))]) := hD
  refine lv_iconst (v := 0) hx hb dX6_init_67 (by decide) ?_
  refine lv_istore_n (lv' := [(2, .int 0), (0, .ref h0), (1, .ref b0)]) hx hb dX6_init_68 rfl hl (by decide) rfl (fun ls hl => ?_)
  refine lv_iload_n hx hb dX6_init_69 rfl (lv_at hl 0 rfl) ?_
  refine lv_aload_n hx hb dX6_init_70 rfl (lv_at hl 1 rfl) ?_
  refine va_get hx hb E.ht inX6 E.hown E.hK hP 0 rfl rfl 1 (by decide) (E.ht _ k2_80) (fun _ h => h) rfl dX6_init_71 ?_
  refine va_alen (v := 5) hx hb E.hK hP 1 4 rfl rfl rfl dX6_init_74 ?_
  refine lv_icmp_ge (tgt := 97) hx hb dX6_init_75 (by decide) (fun h => absurd h (by decide)) (fun _ => ?_)
  refine lv_aload_n hx hb dX6_init_78 rfl (lv_at hl 1 rfl) ?_
  refine va_get hx hb E.ht inX6 E.hown E.hK hP 0 rfl rfl 1 (by decide) (E.ht _ k2_80) (fun _ h => h) rfl dX6_init_79 ?_
  refine lv_iload_n hx hb dX6_init_82 rfl (lv_at hl 0 rfl) ?_
  refine va_new (ci := 10) (fs := [.int 0, .int 0, .int 0, .int 0, .null, .null]) (C := RX10) (T := TX10) (N := 6) hx hb E.ht inX10 tyX10 tyX10_ok E.hown (E.ht _ k2_76) (E.ht _ k1_102) (E.ht _ k1_4) E.hK hP hD hS hA rfl (by decide) (Nat.le_of_ble_eq_true rfl) (Nat.le_of_ble_eq_true rfl) dX6_init_83 (fun q4 H hP hD hS => ?_)
  refine W.widen (k := 4) (n := 19) (Nat.le_of_ble_eq_true rfl) (Nat.le_of_ble_eq_true rfl) ?_
  refine lv_dup hx hb dX6_init_86 rfl ?_
  refine nmk (y := (q4, .inr (10, [.int 0, .int 0, .int 0, .int 0, .null, .null]))) (X := [(h0, .inr (6, [.ref b0, .ref q1, .ref q2, .ref q3, .int 0, .int 0, .int 0, .int (-3), .int 0, .int 0, .int 0])), (q1, .inl (cy 4, 5, .inr (.inr (.inr (.inr (fun _ => none)))))), (q2, .inl (cy 1, 4, .inl (fun _ => 0))), (q3, .inl (cy 1, 4, .inl (fun _ => 0)))]) (w := fun u => g_X10_init_10 cy q4 u) hP hD hS hA (va_runIN (As := []) (rest := [.ref q4, .int 0, .ref q1]) E.fix (c_X10_init_10 (l := l) (D := D) (cy := cy) q4 H.size) ⟨ncN E k1_105 k1_4 k2_78 mf_X10_init rfl rfl ⟨Nat.le_of_ble_eq_true rfl, Nat.le_of_ble_eq_true rfl⟩, rfl, E.ht _ k1_104⟩ (nPre E (fun k q hk => (by have hk0 : k = 0 := by { have := (List.getElem?_eq_some_iff.mp hk).1; simp at this; omega }; subst hk0; cases hk; exact hP 4 _ rfl)) _) rfl rfl hl.1 rfl (lv_room (Nat.le_of_ble_eq_true rfl)) dX6_init_87 ⟨Nat.le_of_ble_eq_true rfl, Nat.le_of_ble_eq_true rfl⟩) (fun u5 H locs hP hD hS => ?_)
  have hP : va_P D vwCl ([(h0, .inr (6, [.ref b0, .ref q1, .ref q2, .ref q3, .int 0, .int 0, .int 0, .int (-3), .int 0, .int 0, .int 0])), (q1, .inl (cy 4, 5, .inr (.inr (.inr (.inr (fun _ => none)))))), (q2, .inl (cy 1, 4, .inl (fun _ => 0))), (q3, .inl (cy 1, 4, .inl (fun _ => 0))), (q4, .inr (10, [.int 0, .int 0, .int 0, .int 0, .ref (u5 0), .ref (u5 1)])), ((u5 0), .inl (cy 1, 6, .inl (fun _ => 0))), ((u5 1), .inl (cy 1, 6, .inl (fun _ => 0)))]) H := hP
  have hD : va_D _ ([(h0, .inr (6, [.ref b0, .ref q1, .ref q2, .ref q3, .int 0, .int 0, .int 0, .int (-3), .int 0, .int 0, .int 0])), (q1, .inl (cy 4, 5, .inr (.inr (.inr (.inr (fun _ => none)))))), (q2, .inl (cy 1, 4, .inl (fun _ => 0))), (q3, .inl (cy 1, 4, .inl (fun _ => 0))), (q4, .inr (10, [.int 0, .int 0, .int 0, .int 0, .ref (u5 0), .ref (u5 1)])), ((u5 0), .inl (cy 1, 6, .inl (fun _ => 0))), ((u5 1), .inl (cy 1, 6, .inl (fun _ => 0)))]) := hD
  refine W.widen (k := 6) (n := 31) (Nat.le_of_ble_eq_true rfl) (Nat.le_of_ble_eq_true rfl) ?_
  refine va_astq (ci := 10) (r := (RX10, TX10, 6)) hx hb E.hK hP hD hS 1 4 4 rfl rfl rfl rfl (by unfold vp_in; decide) dX6_init_90 (fun H locs hP hD hS => ?_)
  have hP : va_P D vwCl ([(h0, .inr (6, [.ref b0, .ref q1, .ref q2, .ref q3, .int 0, .int 0, .int 0, .int (-3), .int 0, .int 0, .int 0])), (q1, .inl (cy 4, 5, .inr (.inr (.inr (.inr (va_up (fun _ => none) 0 (some q4))))))), (q2, .inl (cy 1, 4, .inl (fun _ => 0))), (q3, .inl (cy 1, 4, .inl (fun _ => 0))), (q4, .inr (10, [.int 0, .int 0, .int 0, .int 0, .ref (u5 0), .ref (u5 1)])), ((u5 0), .inl (cy 1, 6, .inl (fun _ => 0))), ((u5 1), .inl (cy 1, 6, .inl (fun _ => 0)))]) H := hP
  have hD : va_D _ ([(h0, .inr (6, [.ref b0, .ref q1, .ref q2, .ref q3, .int 0, .int 0, .int 0, .int (-3), .int 0, .int 0, .int 0])), (q1, .inl (cy 4, 5, .inr (.inr (.inr (.inr (va_up (fun _ => none) 0 (some q4))))))), (q2, .inl (cy 1, 4, .inl (fun _ => 0))), (q3, .inl (cy 1, 4, .inl (fun _ => 0))), (q4, .inr (10, [.int 0, .int 0, .int 0, .int 0, .ref (u5 0), .ref (u5 1)])), ((u5 0), .inl (cy 1, 6, .inl (fun _ => 0))), ((u5 1), .inl (cy 1, 6, .inl (fun _ => 0)))]) := hD
  refine lv_iinc (v := 1) (lv' := [(2, .int 1), (0, .ref h0), (1, .ref b0)]) hx hb dX6_init_91 hl (k := 0) rfl (by decide) (by decide) rfl (fun ls hl => ?_)
  refine lv_goto (tgt := 69) hx hb dX6_init_94 (by decide) ?_
  refine lv_iload_n hx hb dX6_init_69 rfl (lv_at hl 0 rfl) ?_
  refine lv_aload_n hx hb dX6_init_70 rfl (lv_at hl 1 rfl) ?_
  refine va_get hx hb E.ht inX6 E.hown E.hK hP 0 rfl rfl 1 (by decide) (E.ht _ k2_80) (fun _ h => h) rfl dX6_init_71 ?_
  refine va_alen (v := 5) hx hb E.hK hP 1 4 rfl rfl rfl dX6_init_74 ?_
  refine lv_icmp_ge (tgt := 97) hx hb dX6_init_75 (by decide) (fun h => absurd h (by decide)) (fun _ => ?_)
  refine lv_aload_n hx hb dX6_init_78 rfl (lv_at hl 1 rfl) ?_
  refine va_get hx hb E.ht inX6 E.hown E.hK hP 0 rfl rfl 1 (by decide) (E.ht _ k2_80) (fun _ h => h) rfl dX6_init_79 ?_
  refine lv_iload_n hx hb dX6_init_82 rfl (lv_at hl 0 rfl) ?_
  refine va_new (ci := 10) (fs := [.int 0, .int 0, .int 0, .int 0, .null, .null]) (C := RX10) (T := TX10) (N := 6) hx hb E.ht inX10 tyX10 tyX10_ok E.hown (E.ht _ k2_76) (E.ht _ k1_102) (E.ht _ k1_4) E.hK hP hD hS hA rfl (by decide) (Nat.le_of_ble_eq_true rfl) (Nat.le_of_ble_eq_true rfl) dX6_init_83 (fun q6 H hP hD hS => ?_)
  refine W.widen (k := 7) (n := 37) (Nat.le_of_ble_eq_true rfl) (Nat.le_of_ble_eq_true rfl) ?_
  refine lv_dup hx hb dX6_init_86 rfl ?_
  refine nmk (y := (q6, .inr (10, [.int 0, .int 0, .int 0, .int 0, .null, .null]))) (X := [(h0, .inr (6, [.ref b0, .ref q1, .ref q2, .ref q3, .int 0, .int 0, .int 0, .int (-3), .int 0, .int 0, .int 0])), (q1, .inl (cy 4, 5, .inr (.inr (.inr (.inr (va_up (fun _ => none) 0 (some q4))))))), (q2, .inl (cy 1, 4, .inl (fun _ => 0))), (q3, .inl (cy 1, 4, .inl (fun _ => 0))), (q4, .inr (10, [.int 0, .int 0, .int 0, .int 0, .ref (u5 0), .ref (u5 1)])), ((u5 0), .inl (cy 1, 6, .inl (fun _ => 0))), ((u5 1), .inl (cy 1, 6, .inl (fun _ => 0)))]) (w := fun u => g_X10_init_10 cy q6 u) hP hD hS hA (va_runIN (As := []) (rest := [.ref q6, .int 1, .ref q1]) E.fix (c_X10_init_10 (l := l) (D := D) (cy := cy) q6 H.size) ⟨ncN E k1_105 k1_4 k2_78 mf_X10_init rfl rfl ⟨Nat.le_of_ble_eq_true rfl, Nat.le_of_ble_eq_true rfl⟩, rfl, E.ht _ k1_104⟩ (nPre E (fun k q hk => (by have hk0 : k = 0 := by { have := (List.getElem?_eq_some_iff.mp hk).1; simp at this; omega }; subst hk0; cases hk; exact hP 7 _ rfl)) _) rfl rfl hl.1 rfl (lv_room (Nat.le_of_ble_eq_true rfl)) dX6_init_87 ⟨Nat.le_of_ble_eq_true rfl, Nat.le_of_ble_eq_true rfl⟩) (fun u7 H locs hP hD hS => ?_)
  have hP : va_P D vwCl ([(h0, .inr (6, [.ref b0, .ref q1, .ref q2, .ref q3, .int 0, .int 0, .int 0, .int (-3), .int 0, .int 0, .int 0])), (q1, .inl (cy 4, 5, .inr (.inr (.inr (.inr (va_up (fun _ => none) 0 (some q4))))))), (q2, .inl (cy 1, 4, .inl (fun _ => 0))), (q3, .inl (cy 1, 4, .inl (fun _ => 0))), (q4, .inr (10, [.int 0, .int 0, .int 0, .int 0, .ref (u5 0), .ref (u5 1)])), ((u5 0), .inl (cy 1, 6, .inl (fun _ => 0))), ((u5 1), .inl (cy 1, 6, .inl (fun _ => 0))), (q6, .inr (10, [.int 0, .int 0, .int 0, .int 0, .ref (u7 0), .ref (u7 1)])), ((u7 0), .inl (cy 1, 6, .inl (fun _ => 0))), ((u7 1), .inl (cy 1, 6, .inl (fun _ => 0)))]) H := hP
  have hD : va_D _ ([(h0, .inr (6, [.ref b0, .ref q1, .ref q2, .ref q3, .int 0, .int 0, .int 0, .int (-3), .int 0, .int 0, .int 0])), (q1, .inl (cy 4, 5, .inr (.inr (.inr (.inr (va_up (fun _ => none) 0 (some q4))))))), (q2, .inl (cy 1, 4, .inl (fun _ => 0))), (q3, .inl (cy 1, 4, .inl (fun _ => 0))), (q4, .inr (10, [.int 0, .int 0, .int 0, .int 0, .ref (u5 0), .ref (u5 1)])), ((u5 0), .inl (cy 1, 6, .inl (fun _ => 0))), ((u5 1), .inl (cy 1, 6, .inl (fun _ => 0))), (q6, .inr (10, [.int 0, .int 0, .int 0, .int 0, .ref (u7 0), .ref (u7 1)])), ((u7 0), .inl (cy 1, 6, .inl (fun _ => 0))), ((u7 1), .inl (cy 1, 6, .inl (fun _ => 0)))]) := hD
  refine W.widen (k := 9) (n := 49) (Nat.le_of_ble_eq_true rfl) (Nat.le_of_ble_eq_true rfl) ?_
  refine va_astq (ci := 10) (r := (RX10, TX10, 6)) hx hb E.hK hP hD hS 1 4 7 rfl rfl rfl rfl (by unfold vp_in; decide) dX6_init_90 (fun H locs hP hD hS => ?_)
  have hP : va_P D vwCl ([(h0, .inr (6, [.ref b0, .ref q1, .ref q2, .ref q3, .int 0, .int 0, .int 0, .int (-3), .int 0, .int 0, .int 0])), (q1, .inl (cy 4, 5, .inr (.inr (.inr (.inr (va_up (va_up (fun _ => none) 0 (some q4)) 1 (some q6))))))), (q2, .inl (cy 1, 4, .inl (fun _ => 0))), (q3, .inl (cy 1, 4, .inl (fun _ => 0))), (q4, .inr (10, [.int 0, .int 0, .int 0, .int 0, .ref (u5 0), .ref (u5 1)])), ((u5 0), .inl (cy 1, 6, .inl (fun _ => 0))), ((u5 1), .inl (cy 1, 6, .inl (fun _ => 0))), (q6, .inr (10, [.int 0, .int 0, .int 0, .int 0, .ref (u7 0), .ref (u7 1)])), ((u7 0), .inl (cy 1, 6, .inl (fun _ => 0))), ((u7 1), .inl (cy 1, 6, .inl (fun _ => 0)))]) H := hP
  have hD : va_D _ ([(h0, .inr (6, [.ref b0, .ref q1, .ref q2, .ref q3, .int 0, .int 0, .int 0, .int (-3), .int 0, .int 0, .int 0])), (q1, .inl (cy 4, 5, .inr (.inr (.inr (.inr (va_up (va_up (fun _ => none) 0 (some q4)) 1 (some q6))))))), (q2, .inl (cy 1, 4, .inl (fun _ => 0))), (q3, .inl (cy 1, 4, .inl (fun _ => 0))), (q4, .inr (10, [.int 0, .int 0, .int 0, .int 0, .ref (u5 0), .ref (u5 1)])), ((u5 0), .inl (cy 1, 6, .inl (fun _ => 0))), ((u5 1), .inl (cy 1, 6, .inl (fun _ => 0))), (q6, .inr (10, [.int 0, .int 0, .int 0, .int 0, .ref (u7 0), .ref (u7 1)])), ((u7 0), .inl (cy 1, 6, .inl (fun _ => 0))), ((u7 1), .inl (cy 1, 6, .inl (fun _ => 0)))]) := hD
  refine lv_iinc (v := 2) (lv' := [(2, .int 2), (0, .ref h0), (1, .ref b0)]) hx hb dX6_init_91 hl (k := 0) rfl (by decide) (by decide) rfl (fun ls hl => ?_)
  refine lv_goto (tgt := 69) hx hb dX6_init_94 (by decide) ?_
  refine lv_iload_n hx hb dX6_init_69 rfl (lv_at hl 0 rfl) ?_
  refine lv_aload_n hx hb dX6_init_70 rfl (lv_at hl 1 rfl) ?_
  refine va_get hx hb E.ht inX6 E.hown E.hK hP 0 rfl rfl 1 (by decide) (E.ht _ k2_80) (fun _ h => h) rfl dX6_init_71 ?_
  refine va_alen (v := 5) hx hb E.hK hP 1 4 rfl rfl rfl dX6_init_74 ?_
  refine lv_icmp_ge (tgt := 97) hx hb dX6_init_75 (by decide) (fun h => absurd h (by decide)) (fun _ => ?_)
  refine lv_aload_n hx hb dX6_init_78 rfl (lv_at hl 1 rfl) ?_
  refine va_get hx hb E.ht inX6 E.hown E.hK hP 0 rfl rfl 1 (by decide) (E.ht _ k2_80) (fun _ h => h) rfl dX6_init_79 ?_
  refine lv_iload_n hx hb dX6_init_82 rfl (lv_at hl 0 rfl) ?_
  refine va_new (ci := 10) (fs := [.int 0, .int 0, .int 0, .int 0, .null, .null]) (C := RX10) (T := TX10) (N := 6) hx hb E.ht inX10 tyX10 tyX10_ok E.hown (E.ht _ k2_76) (E.ht _ k1_102) (E.ht _ k1_4) E.hK hP hD hS hA rfl (by decide) (Nat.le_of_ble_eq_true rfl) (Nat.le_of_ble_eq_true rfl) dX6_init_83 (fun q8 H hP hD hS => ?_)
  refine W.widen (k := 10) (n := 55) (Nat.le_of_ble_eq_true rfl) (Nat.le_of_ble_eq_true rfl) ?_
  refine lv_dup hx hb dX6_init_86 rfl ?_
  refine nmk (y := (q8, .inr (10, [.int 0, .int 0, .int 0, .int 0, .null, .null]))) (X := [(h0, .inr (6, [.ref b0, .ref q1, .ref q2, .ref q3, .int 0, .int 0, .int 0, .int (-3), .int 0, .int 0, .int 0])), (q1, .inl (cy 4, 5, .inr (.inr (.inr (.inr (va_up (va_up (fun _ => none) 0 (some q4)) 1 (some q6))))))), (q2, .inl (cy 1, 4, .inl (fun _ => 0))), (q3, .inl (cy 1, 4, .inl (fun _ => 0))), (q4, .inr (10, [.int 0, .int 0, .int 0, .int 0, .ref (u5 0), .ref (u5 1)])), ((u5 0), .inl (cy 1, 6, .inl (fun _ => 0))), ((u5 1), .inl (cy 1, 6, .inl (fun _ => 0))), (q6, .inr (10, [.int 0, .int 0, .int 0, .int 0, .ref (u7 0), .ref (u7 1)])), ((u7 0), .inl (cy 1, 6, .inl (fun _ => 0))), ((u7 1), .inl (cy 1, 6, .inl (fun _ => 0)))]) (w := fun u => g_X10_init_10 cy q8 u) hP hD hS hA (va_runIN (As := []) (rest := [.ref q8, .int 2, .ref q1]) E.fix (c_X10_init_10 (l := l) (D := D) (cy := cy) q8 H.size) ⟨ncN E k1_105 k1_4 k2_78 mf_X10_init rfl rfl ⟨Nat.le_of_ble_eq_true rfl, Nat.le_of_ble_eq_true rfl⟩, rfl, E.ht _ k1_104⟩ (nPre E (fun k q hk => (by have hk0 : k = 0 := by { have := (List.getElem?_eq_some_iff.mp hk).1; simp at this; omega }; subst hk0; cases hk; exact hP 10 _ rfl)) _) rfl rfl hl.1 rfl (lv_room (Nat.le_of_ble_eq_true rfl)) dX6_init_87 ⟨Nat.le_of_ble_eq_true rfl, Nat.le_of_ble_eq_true rfl⟩) (fun u9 H locs hP hD hS => ?_)
  have hP : va_P D vwCl ([(h0, .inr (6, [.ref b0, .ref q1, .ref q2, .ref q3, .int 0, .int 0, .int 0, .int (-3), .int 0, .int 0, .int 0])), (q1, .inl (cy 4, 5, .inr (.inr (.inr (.inr (va_up (va_up (fun _ => none) 0 (some q4)) 1 (some q6))))))), (q2, .inl (cy 1, 4, .inl (fun _ => 0))), (q3, .inl (cy 1, 4, .inl (fun _ => 0))), (q4, .inr (10, [.int 0, .int 0, .int 0, .int 0, .ref (u5 0), .ref (u5 1)])), ((u5 0), .inl (cy 1, 6, .inl (fun _ => 0))), ((u5 1), .inl (cy 1, 6, .inl (fun _ => 0))), (q6, .inr (10, [.int 0, .int 0, .int 0, .int 0, .ref (u7 0), .ref (u7 1)])), ((u7 0), .inl (cy 1, 6, .inl (fun _ => 0))), ((u7 1), .inl (cy 1, 6, .inl (fun _ => 0))), (q8, .inr (10, [.int 0, .int 0, .int 0, .int 0, .ref (u9 0), .ref (u9 1)])), ((u9 0), .inl (cy 1, 6, .inl (fun _ => 0))), ((u9 1), .inl (cy 1, 6, .inl (fun _ => 0)))]) H := hP
  have hD : va_D _ ([(h0, .inr (6, [.ref b0, .ref q1, .ref q2, .ref q3, .int 0, .int 0, .int 0, .int (-3), .int 0, .int 0, .int 0])), (q1, .inl (cy 4, 5, .inr (.inr (.inr (.inr (va_up (va_up (fun _ => none) 0 (some q4)) 1 (some q6))))))), (q2, .inl (cy 1, 4, .inl (fun _ => 0))), (q3, .inl (cy 1, 4, .inl (fun _ => 0))), (q4, .inr (10, [.int 0, .int 0, .int 0, .int 0, .ref (u5 0), .ref (u5 1)])), ((u5 0), .inl (cy 1, 6, .inl (fun _ => 0))), ((u5 1), .inl (cy 1, 6, .inl (fun _ => 0))), (q6, .inr (10, [.int 0, .int 0, .int 0, .int 0, .ref (u7 0), .ref (u7 1)])), ((u7 0), .inl (cy 1, 6, .inl (fun _ => 0))), ((u7 1), .inl (cy 1, 6, .inl (fun _ => 0))), (q8, .inr (10, [.int 0, .int 0, .int 0, .int 0, .ref (u9 0), .ref (u9 1)])), ((u9 0), .inl (cy 1, 6, .inl (fun _ => 0))), ((u9 1), .inl (cy 1, 6, .inl (fun _ => 0)))]) := hD
  refine W.widen (k := 12) (n := 67) (Nat.le_of_ble_eq_true rfl) (Nat.le_of_ble_eq_true rfl) ?_
  refine va_astq (ci := 10) (r := (RX10, TX10, 6)) hx hb E.hK hP hD hS 1 4 10 rfl rfl rfl rfl (by unfold vp_in; decide) dX6_init_90 (fun H locs hP hD hS => ?_)
  have hP : va_P D vwCl ([(h0, .inr (6, [.ref b0, .ref q1, .ref q2, .ref q3, .int 0, .int 0, .int 0, .int (-3), .int 0, .int 0, .int 0])), (q1, .inl (cy 4, 5, .inr (.inr (.inr (.inr (va_up (va_up (va_up (fun _ => none) 0 (some q4)) 1 (some q6)) 2 (some q8))))))), (q2, .inl (cy 1, 4, .inl (fun _ => 0))), (q3, .inl (cy 1, 4, .inl (fun _ => 0))), (q4, .inr (10, [.int 0, .int 0, .int 0, .int 0, .ref (u5 0), .ref (u5 1)])), ((u5 0), .inl (cy 1, 6, .inl (fun _ => 0))), ((u5 1), .inl (cy 1, 6, .inl (fun _ => 0))), (q6, .inr (10, [.int 0, .int 0, .int 0, .int 0, .ref (u7 0), .ref (u7 1)])), ((u7 0), .inl (cy 1, 6, .inl (fun _ => 0))), ((u7 1), .inl (cy 1, 6, .inl (fun _ => 0))), (q8, .inr (10, [.int 0, .int 0, .int 0, .int 0, .ref (u9 0), .ref (u9 1)])), ((u9 0), .inl (cy 1, 6, .inl (fun _ => 0))), ((u9 1), .inl (cy 1, 6, .inl (fun _ => 0)))]) H := hP
  have hD : va_D _ ([(h0, .inr (6, [.ref b0, .ref q1, .ref q2, .ref q3, .int 0, .int 0, .int 0, .int (-3), .int 0, .int 0, .int 0])), (q1, .inl (cy 4, 5, .inr (.inr (.inr (.inr (va_up (va_up (va_up (fun _ => none) 0 (some q4)) 1 (some q6)) 2 (some q8))))))), (q2, .inl (cy 1, 4, .inl (fun _ => 0))), (q3, .inl (cy 1, 4, .inl (fun _ => 0))), (q4, .inr (10, [.int 0, .int 0, .int 0, .int 0, .ref (u5 0), .ref (u5 1)])), ((u5 0), .inl (cy 1, 6, .inl (fun _ => 0))), ((u5 1), .inl (cy 1, 6, .inl (fun _ => 0))), (q6, .inr (10, [.int 0, .int 0, .int 0, .int 0, .ref (u7 0), .ref (u7 1)])), ((u7 0), .inl (cy 1, 6, .inl (fun _ => 0))), ((u7 1), .inl (cy 1, 6, .inl (fun _ => 0))), (q8, .inr (10, [.int 0, .int 0, .int 0, .int 0, .ref (u9 0), .ref (u9 1)])), ((u9 0), .inl (cy 1, 6, .inl (fun _ => 0))), ((u9 1), .inl (cy 1, 6, .inl (fun _ => 0)))]) := hD
  refine lv_iinc (v := 3) (lv' := [(2, .int 3), (0, .ref h0), (1, .ref b0)]) hx hb dX6_init_91 hl (k := 0) rfl (by decide) (by decide) rfl (fun ls hl => ?_)
  refine lv_goto (tgt := 69) hx hb dX6_init_94 (by decide) ?_
  refine lv_iload_n hx hb dX6_init_69 rfl (lv_at hl 0 rfl) ?_
  refine lv_aload_n hx hb dX6_init_70 rfl (lv_at hl 1 rfl) ?_
  refine va_get hx hb E.ht inX6 E.hown E.hK hP 0 rfl rfl 1 (by decide) (E.ht _ k2_80) (fun _ h => h) rfl dX6_init_71 ?_
  refine va_alen (v := 5) hx hb E.hK hP 1 4 rfl rfl rfl dX6_init_74 ?_
  refine lv_icmp_ge (tgt := 97) hx hb dX6_init_75 (by decide) (fun h => absurd h (by decide)) (fun _ => ?_)
  refine lv_aload_n hx hb dX6_init_78 rfl (lv_at hl 1 rfl) ?_
  refine va_get hx hb E.ht inX6 E.hown E.hK hP 0 rfl rfl 1 (by decide) (E.ht _ k2_80) (fun _ h => h) rfl dX6_init_79 ?_
  refine lv_iload_n hx hb dX6_init_82 rfl (lv_at hl 0 rfl) ?_
  refine va_new (ci := 10) (fs := [.int 0, .int 0, .int 0, .int 0, .null, .null]) (C := RX10) (T := TX10) (N := 6) hx hb E.ht inX10 tyX10 tyX10_ok E.hown (E.ht _ k2_76) (E.ht _ k1_102) (E.ht _ k1_4) E.hK hP hD hS hA rfl (by decide) (Nat.le_of_ble_eq_true rfl) (Nat.le_of_ble_eq_true rfl) dX6_init_83 (fun q10 H hP hD hS => ?_)
  refine W.widen (k := 13) (n := 73) (Nat.le_of_ble_eq_true rfl) (Nat.le_of_ble_eq_true rfl) ?_
  refine lv_dup hx hb dX6_init_86 rfl ?_
  refine nmk (y := (q10, .inr (10, [.int 0, .int 0, .int 0, .int 0, .null, .null]))) (X := [(h0, .inr (6, [.ref b0, .ref q1, .ref q2, .ref q3, .int 0, .int 0, .int 0, .int (-3), .int 0, .int 0, .int 0])), (q1, .inl (cy 4, 5, .inr (.inr (.inr (.inr (va_up (va_up (va_up (fun _ => none) 0 (some q4)) 1 (some q6)) 2 (some q8))))))), (q2, .inl (cy 1, 4, .inl (fun _ => 0))), (q3, .inl (cy 1, 4, .inl (fun _ => 0))), (q4, .inr (10, [.int 0, .int 0, .int 0, .int 0, .ref (u5 0), .ref (u5 1)])), ((u5 0), .inl (cy 1, 6, .inl (fun _ => 0))), ((u5 1), .inl (cy 1, 6, .inl (fun _ => 0))), (q6, .inr (10, [.int 0, .int 0, .int 0, .int 0, .ref (u7 0), .ref (u7 1)])), ((u7 0), .inl (cy 1, 6, .inl (fun _ => 0))), ((u7 1), .inl (cy 1, 6, .inl (fun _ => 0))), (q8, .inr (10, [.int 0, .int 0, .int 0, .int 0, .ref (u9 0), .ref (u9 1)])), ((u9 0), .inl (cy 1, 6, .inl (fun _ => 0))), ((u9 1), .inl (cy 1, 6, .inl (fun _ => 0)))]) (w := fun u => g_X10_init_10 cy q10 u) hP hD hS hA (va_runIN (As := []) (rest := [.ref q10, .int 3, .ref q1]) E.fix (c_X10_init_10 (l := l) (D := D) (cy := cy) q10 H.size) ⟨ncN E k1_105 k1_4 k2_78 mf_X10_init rfl rfl ⟨Nat.le_of_ble_eq_true rfl, Nat.le_of_ble_eq_true rfl⟩, rfl, E.ht _ k1_104⟩ (nPre E (fun k q hk => (by have hk0 : k = 0 := by { have := (List.getElem?_eq_some_iff.mp hk).1; simp at this; omega }; subst hk0; cases hk; exact hP 13 _ rfl)) _) rfl rfl hl.1 rfl (lv_room (Nat.le_of_ble_eq_true rfl)) dX6_init_87 ⟨Nat.le_of_ble_eq_true rfl, Nat.le_of_ble_eq_true rfl⟩) (fun u11 H locs hP hD hS => ?_)
  have hP : va_P D vwCl ([(h0, .inr (6, [.ref b0, .ref q1, .ref q2, .ref q3, .int 0, .int 0, .int 0, .int (-3), .int 0, .int 0, .int 0])), (q1, .inl (cy 4, 5, .inr (.inr (.inr (.inr (va_up (va_up (va_up (fun _ => none) 0 (some q4)) 1 (some q6)) 2 (some q8))))))), (q2, .inl (cy 1, 4, .inl (fun _ => 0))), (q3, .inl (cy 1, 4, .inl (fun _ => 0))), (q4, .inr (10, [.int 0, .int 0, .int 0, .int 0, .ref (u5 0), .ref (u5 1)])), ((u5 0), .inl (cy 1, 6, .inl (fun _ => 0))), ((u5 1), .inl (cy 1, 6, .inl (fun _ => 0))), (q6, .inr (10, [.int 0, .int 0, .int 0, .int 0, .ref (u7 0), .ref (u7 1)])), ((u7 0), .inl (cy 1, 6, .inl (fun _ => 0))), ((u7 1), .inl (cy 1, 6, .inl (fun _ => 0))), (q8, .inr (10, [.int 0, .int 0, .int 0, .int 0, .ref (u9 0), .ref (u9 1)])), ((u9 0), .inl (cy 1, 6, .inl (fun _ => 0))), ((u9 1), .inl (cy 1, 6, .inl (fun _ => 0))), (q10, .inr (10, [.int 0, .int 0, .int 0, .int 0, .ref (u11 0), .ref (u11 1)])), ((u11 0), .inl (cy 1, 6, .inl (fun _ => 0))), ((u11 1), .inl (cy 1, 6, .inl (fun _ => 0)))]) H := hP
  have hD : va_D _ ([(h0, .inr (6, [.ref b0, .ref q1, .ref q2, .ref q3, .int 0, .int 0, .int 0, .int (-3), .int 0, .int 0, .int 0])), (q1, .inl (cy 4, 5, .inr (.inr (.inr (.inr (va_up (va_up (va_up (fun _ => none) 0 (some q4)) 1 (some q6)) 2 (some q8))))))), (q2, .inl (cy 1, 4, .inl (fun _ => 0))), (q3, .inl (cy 1, 4, .inl (fun _ => 0))), (q4, .inr (10, [.int 0, .int 0, .int 0, .int 0, .ref (u5 0), .ref (u5 1)])), ((u5 0), .inl (cy 1, 6, .inl (fun _ => 0))), ((u5 1), .inl (cy 1, 6, .inl (fun _ => 0))), (q6, .inr (10, [.int 0, .int 0, .int 0, .int 0, .ref (u7 0), .ref (u7 1)])), ((u7 0), .inl (cy 1, 6, .inl (fun _ => 0))), ((u7 1), .inl (cy 1, 6, .inl (fun _ => 0))), (q8, .inr (10, [.int 0, .int 0, .int 0, .int 0, .ref (u9 0), .ref (u9 1)])), ((u9 0), .inl (cy 1, 6, .inl (fun _ => 0))), ((u9 1), .inl (cy 1, 6, .inl (fun _ => 0))), (q10, .inr (10, [.int 0, .int 0, .int 0, .int 0, .ref (u11 0), .ref (u11 1)])), ((u11 0), .inl (cy 1, 6, .inl (fun _ => 0))), ((u11 1), .inl (cy 1, 6, .inl (fun _ => 0)))]) := hD
  refine W.widen (k := 15) (n := 85) (Nat.le_of_ble_eq_true rfl) (Nat.le_of_ble_eq_true rfl) ?_
  refine va_astq (ci := 10) (r := (RX10, TX10, 6)) hx hb E.hK hP hD hS 1 4 13 rfl rfl rfl rfl (by unfold vp_in; decide) dX6_init_90 (fun H locs hP hD hS => ?_)
  have hP : va_P D vwCl ([(h0, .inr (6, [.ref b0, .ref q1, .ref q2, .ref q3, .int 0, .int 0, .int 0, .int (-3), .int 0, .int 0, .int 0])), (q1, .inl (cy 4, 5, .inr (.inr (.inr (.inr (va_up (va_up (va_up (va_up (fun _ => none) 0 (some q4)) 1 (some q6)) 2 (some q8)) 3 (some q10))))))), (q2, .inl (cy 1, 4, .inl (fun _ => 0))), (q3, .inl (cy 1, 4, .inl (fun _ => 0))), (q4, .inr (10, [.int 0, .int 0, .int 0, .int 0, .ref (u5 0), .ref (u5 1)])), ((u5 0), .inl (cy 1, 6, .inl (fun _ => 0))), ((u5 1), .inl (cy 1, 6, .inl (fun _ => 0))), (q6, .inr (10, [.int 0, .int 0, .int 0, .int 0, .ref (u7 0), .ref (u7 1)])), ((u7 0), .inl (cy 1, 6, .inl (fun _ => 0))), ((u7 1), .inl (cy 1, 6, .inl (fun _ => 0))), (q8, .inr (10, [.int 0, .int 0, .int 0, .int 0, .ref (u9 0), .ref (u9 1)])), ((u9 0), .inl (cy 1, 6, .inl (fun _ => 0))), ((u9 1), .inl (cy 1, 6, .inl (fun _ => 0))), (q10, .inr (10, [.int 0, .int 0, .int 0, .int 0, .ref (u11 0), .ref (u11 1)])), ((u11 0), .inl (cy 1, 6, .inl (fun _ => 0))), ((u11 1), .inl (cy 1, 6, .inl (fun _ => 0)))]) H := hP
  have hD : va_D _ ([(h0, .inr (6, [.ref b0, .ref q1, .ref q2, .ref q3, .int 0, .int 0, .int 0, .int (-3), .int 0, .int 0, .int 0])), (q1, .inl (cy 4, 5, .inr (.inr (.inr (.inr (va_up (va_up (va_up (va_up (fun _ => none) 0 (some q4)) 1 (some q6)) 2 (some q8)) 3 (some q10))))))), (q2, .inl (cy 1, 4, .inl (fun _ => 0))), (q3, .inl (cy 1, 4, .inl (fun _ => 0))), (q4, .inr (10, [.int 0, .int 0, .int 0, .int 0, .ref (u5 0), .ref (u5 1)])), ((u5 0), .inl (cy 1, 6, .inl (fun _ => 0))), ((u5 1), .inl (cy 1, 6, .inl (fun _ => 0))), (q6, .inr (10, [.int 0, .int 0, .int 0, .int 0, .ref (u7 0), .ref (u7 1)])), ((u7 0), .inl (cy 1, 6, .inl (fun _ => 0))), ((u7 1), .inl (cy 1, 6, .inl (fun _ => 0))), (q8, .inr (10, [.int 0, .int 0, .int 0, .int 0, .ref (u9 0), .ref (u9 1)])), ((u9 0), .inl (cy 1, 6, .inl (fun _ => 0))), ((u9 1), .inl (cy 1, 6, .inl (fun _ => 0))), (q10, .inr (10, [.int 0, .int 0, .int 0, .int 0, .ref (u11 0), .ref (u11 1)])), ((u11 0), .inl (cy 1, 6, .inl (fun _ => 0))), ((u11 1), .inl (cy 1, 6, .inl (fun _ => 0)))]) := hD
  refine lv_iinc (v := 4) (lv' := [(2, .int 4), (0, .ref h0), (1, .ref b0)]) hx hb dX6_init_91 hl (k := 0) rfl (by decide) (by decide) rfl (fun ls hl => ?_)
  refine lv_goto (tgt := 69) hx hb dX6_init_94 (by decide) ?_
  refine lv_iload_n hx hb dX6_init_69 rfl (lv_at hl 0 rfl) ?_
  refine lv_aload_n hx hb dX6_init_70 rfl (lv_at hl 1 rfl) ?_
  refine va_get hx hb E.ht inX6 E.hown E.hK hP 0 rfl rfl 1 (by decide) (E.ht _ k2_80) (fun _ h => h) rfl dX6_init_71 ?_
  refine va_alen (v := 5) hx hb E.hK hP 1 4 rfl rfl rfl dX6_init_74 ?_
  refine lv_icmp_ge (tgt := 97) hx hb dX6_init_75 (by decide) (fun h => absurd h (by decide)) (fun _ => ?_)
  refine lv_aload_n hx hb dX6_init_78 rfl (lv_at hl 1 rfl) ?_
  refine va_get hx hb E.ht inX6 E.hown E.hK hP 0 rfl rfl 1 (by decide) (E.ht _ k2_80) (fun _ h => h) rfl dX6_init_79 ?_
  refine lv_iload_n hx hb dX6_init_82 rfl (lv_at hl 0 rfl) ?_
  refine va_new (ci := 10) (fs := [.int 0, .int 0, .int 0, .int 0, .null, .null]) (C := RX10) (T := TX10) (N := 6) hx hb E.ht inX10 tyX10 tyX10_ok E.hown (E.ht _ k2_76) (E.ht _ k1_102) (E.ht _ k1_4) E.hK hP hD hS hA rfl (by decide) (Nat.le_of_ble_eq_true rfl) (Nat.le_of_ble_eq_true rfl) dX6_init_83 (fun q12 H hP hD hS => ?_)
  refine W.widen (k := 16) (n := 91) (Nat.le_of_ble_eq_true rfl) (Nat.le_of_ble_eq_true rfl) ?_
  refine lv_dup hx hb dX6_init_86 rfl ?_
  refine nmk (y := (q12, .inr (10, [.int 0, .int 0, .int 0, .int 0, .null, .null]))) (X := [(h0, .inr (6, [.ref b0, .ref q1, .ref q2, .ref q3, .int 0, .int 0, .int 0, .int (-3), .int 0, .int 0, .int 0])), (q1, .inl (cy 4, 5, .inr (.inr (.inr (.inr (va_up (va_up (va_up (va_up (fun _ => none) 0 (some q4)) 1 (some q6)) 2 (some q8)) 3 (some q10))))))), (q2, .inl (cy 1, 4, .inl (fun _ => 0))), (q3, .inl (cy 1, 4, .inl (fun _ => 0))), (q4, .inr (10, [.int 0, .int 0, .int 0, .int 0, .ref (u5 0), .ref (u5 1)])), ((u5 0), .inl (cy 1, 6, .inl (fun _ => 0))), ((u5 1), .inl (cy 1, 6, .inl (fun _ => 0))), (q6, .inr (10, [.int 0, .int 0, .int 0, .int 0, .ref (u7 0), .ref (u7 1)])), ((u7 0), .inl (cy 1, 6, .inl (fun _ => 0))), ((u7 1), .inl (cy 1, 6, .inl (fun _ => 0))), (q8, .inr (10, [.int 0, .int 0, .int 0, .int 0, .ref (u9 0), .ref (u9 1)])), ((u9 0), .inl (cy 1, 6, .inl (fun _ => 0))), ((u9 1), .inl (cy 1, 6, .inl (fun _ => 0))), (q10, .inr (10, [.int 0, .int 0, .int 0, .int 0, .ref (u11 0), .ref (u11 1)])), ((u11 0), .inl (cy 1, 6, .inl (fun _ => 0))), ((u11 1), .inl (cy 1, 6, .inl (fun _ => 0)))]) (w := fun u => g_X10_init_10 cy q12 u) hP hD hS hA (va_runIN (As := []) (rest := [.ref q12, .int 4, .ref q1]) E.fix (c_X10_init_10 (l := l) (D := D) (cy := cy) q12 H.size) ⟨ncN E k1_105 k1_4 k2_78 mf_X10_init rfl rfl ⟨Nat.le_of_ble_eq_true rfl, Nat.le_of_ble_eq_true rfl⟩, rfl, E.ht _ k1_104⟩ (nPre E (fun k q hk => (by have hk0 : k = 0 := by { have := (List.getElem?_eq_some_iff.mp hk).1; simp at this; omega }; subst hk0; cases hk; exact hP 16 _ rfl)) _) rfl rfl hl.1 rfl (lv_room (Nat.le_of_ble_eq_true rfl)) dX6_init_87 ⟨Nat.le_of_ble_eq_true rfl, Nat.le_of_ble_eq_true rfl⟩) (fun u13 H locs hP hD hS => ?_)
  have hP : va_P D vwCl ([(h0, .inr (6, [.ref b0, .ref q1, .ref q2, .ref q3, .int 0, .int 0, .int 0, .int (-3), .int 0, .int 0, .int 0])), (q1, .inl (cy 4, 5, .inr (.inr (.inr (.inr (va_up (va_up (va_up (va_up (fun _ => none) 0 (some q4)) 1 (some q6)) 2 (some q8)) 3 (some q10))))))), (q2, .inl (cy 1, 4, .inl (fun _ => 0))), (q3, .inl (cy 1, 4, .inl (fun _ => 0))), (q4, .inr (10, [.int 0, .int 0, .int 0, .int 0, .ref (u5 0), .ref (u5 1)])), ((u5 0), .inl (cy 1, 6, .inl (fun _ => 0))), ((u5 1), .inl (cy 1, 6, .inl (fun _ => 0))), (q6, .inr (10, [.int 0, .int 0, .int 0, .int 0, .ref (u7 0), .ref (u7 1)])), ((u7 0), .inl (cy 1, 6, .inl (fun _ => 0))), ((u7 1), .inl (cy 1, 6, .inl (fun _ => 0))), (q8, .inr (10, [.int 0, .int 0, .int 0, .int 0, .ref (u9 0), .ref (u9 1)])), ((u9 0), .inl (cy 1, 6, .inl (fun _ => 0))), ((u9 1), .inl (cy 1, 6, .inl (fun _ => 0))), (q10, .inr (10, [.int 0, .int 0, .int 0, .int 0, .ref (u11 0), .ref (u11 1)])), ((u11 0), .inl (cy 1, 6, .inl (fun _ => 0))), ((u11 1), .inl (cy 1, 6, .inl (fun _ => 0))), (q12, .inr (10, [.int 0, .int 0, .int 0, .int 0, .ref (u13 0), .ref (u13 1)])), ((u13 0), .inl (cy 1, 6, .inl (fun _ => 0))), ((u13 1), .inl (cy 1, 6, .inl (fun _ => 0)))]) H := hP
  have hD : va_D _ ([(h0, .inr (6, [.ref b0, .ref q1, .ref q2, .ref q3, .int 0, .int 0, .int 0, .int (-3), .int 0, .int 0, .int 0])), (q1, .inl (cy 4, 5, .inr (.inr (.inr (.inr (va_up (va_up (va_up (va_up (fun _ => none) 0 (some q4)) 1 (some q6)) 2 (some q8)) 3 (some q10))))))), (q2, .inl (cy 1, 4, .inl (fun _ => 0))), (q3, .inl (cy 1, 4, .inl (fun _ => 0))), (q4, .inr (10, [.int 0, .int 0, .int 0, .int 0, .ref (u5 0), .ref (u5 1)])), ((u5 0), .inl (cy 1, 6, .inl (fun _ => 0))), ((u5 1), .inl (cy 1, 6, .inl (fun _ => 0))), (q6, .inr (10, [.int 0, .int 0, .int 0, .int 0, .ref (u7 0), .ref (u7 1)])), ((u7 0), .inl (cy 1, 6, .inl (fun _ => 0))), ((u7 1), .inl (cy 1, 6, .inl (fun _ => 0))), (q8, .inr (10, [.int 0, .int 0, .int 0, .int 0, .ref (u9 0), .ref (u9 1)])), ((u9 0), .inl (cy 1, 6, .inl (fun _ => 0))), ((u9 1), .inl (cy 1, 6, .inl (fun _ => 0))), (q10, .inr (10, [.int 0, .int 0, .int 0, .int 0, .ref (u11 0), .ref (u11 1)])), ((u11 0), .inl (cy 1, 6, .inl (fun _ => 0))), ((u11 1), .inl (cy 1, 6, .inl (fun _ => 0))), (q12, .inr (10, [.int 0, .int 0, .int 0, .int 0, .ref (u13 0), .ref (u13 1)])), ((u13 0), .inl (cy 1, 6, .inl (fun _ => 0))), ((u13 1), .inl (cy 1, 6, .inl (fun _ => 0)))]) := hD
  refine W.widen (k := 18) (n := 103) (Nat.le_of_ble_eq_true rfl) (Nat.le_of_ble_eq_true rfl) ?_
  refine va_astq (ci := 10) (r := (RX10, TX10, 6)) hx hb E.hK hP hD hS 1 4 16 rfl rfl rfl rfl (by unfold vp_in; decide) dX6_init_90 (fun H locs hP hD hS => ?_)
  have hP : va_P D vwCl ([(h0, .inr (6, [.ref b0, .ref q1, .ref q2, .ref q3, .int 0, .int 0, .int 0, .int (-3), .int 0, .int 0, .int 0])), (q1, .inl (cy 4, 5, .inr (.inr (.inr (.inr (va_up (va_up (va_up (va_up (va_up (fun _ => none) 0 (some q4)) 1 (some q6)) 2 (some q8)) 3 (some q10)) 4 (some q12))))))), (q2, .inl (cy 1, 4, .inl (fun _ => 0))), (q3, .inl (cy 1, 4, .inl (fun _ => 0))), (q4, .inr (10, [.int 0, .int 0, .int 0, .int 0, .ref (u5 0), .ref (u5 1)])), ((u5 0), .inl (cy 1, 6, .inl (fun _ => 0))), ((u5 1), .inl (cy 1, 6, .inl (fun _ => 0))), (q6, .inr (10, [.int 0, .int 0, .int 0, .int 0, .ref (u7 0), .ref (u7 1)])), ((u7 0), .inl (cy 1, 6, .inl (fun _ => 0))), ((u7 1), .inl (cy 1, 6, .inl (fun _ => 0))), (q8, .inr (10, [.int 0, .int 0, .int 0, .int 0, .ref (u9 0), .ref (u9 1)])), ((u9 0), .inl (cy 1, 6, .inl (fun _ => 0))), ((u9 1), .inl (cy 1, 6, .inl (fun _ => 0))), (q10, .inr (10, [.int 0, .int 0, .int 0, .int 0, .ref (u11 0), .ref (u11 1)])), ((u11 0), .inl (cy 1, 6, .inl (fun _ => 0))), ((u11 1), .inl (cy 1, 6, .inl (fun _ => 0))), (q12, .inr (10, [.int 0, .int 0, .int 0, .int 0, .ref (u13 0), .ref (u13 1)])), ((u13 0), .inl (cy 1, 6, .inl (fun _ => 0))), ((u13 1), .inl (cy 1, 6, .inl (fun _ => 0)))]) H := hP
  have hD : va_D _ ([(h0, .inr (6, [.ref b0, .ref q1, .ref q2, .ref q3, .int 0, .int 0, .int 0, .int (-3), .int 0, .int 0, .int 0])), (q1, .inl (cy 4, 5, .inr (.inr (.inr (.inr (va_up (va_up (va_up (va_up (va_up (fun _ => none) 0 (some q4)) 1 (some q6)) 2 (some q8)) 3 (some q10)) 4 (some q12))))))), (q2, .inl (cy 1, 4, .inl (fun _ => 0))), (q3, .inl (cy 1, 4, .inl (fun _ => 0))), (q4, .inr (10, [.int 0, .int 0, .int 0, .int 0, .ref (u5 0), .ref (u5 1)])), ((u5 0), .inl (cy 1, 6, .inl (fun _ => 0))), ((u5 1), .inl (cy 1, 6, .inl (fun _ => 0))), (q6, .inr (10, [.int 0, .int 0, .int 0, .int 0, .ref (u7 0), .ref (u7 1)])), ((u7 0), .inl (cy 1, 6, .inl (fun _ => 0))), ((u7 1), .inl (cy 1, 6, .inl (fun _ => 0))), (q8, .inr (10, [.int 0, .int 0, .int 0, .int 0, .ref (u9 0), .ref (u9 1)])), ((u9 0), .inl (cy 1, 6, .inl (fun _ => 0))), ((u9 1), .inl (cy 1, 6, .inl (fun _ => 0))), (q10, .inr (10, [.int 0, .int 0, .int 0, .int 0, .ref (u11 0), .ref (u11 1)])), ((u11 0), .inl (cy 1, 6, .inl (fun _ => 0))), ((u11 1), .inl (cy 1, 6, .inl (fun _ => 0))), (q12, .inr (10, [.int 0, .int 0, .int 0, .int 0, .ref (u13 0), .ref (u13 1)])), ((u13 0), .inl (cy 1, 6, .inl (fun _ => 0))), ((u13 1), .inl (cy 1, 6, .inl (fun _ => 0)))]) := hD
  refine lv_iinc (v := 5) (lv' := [(2, .int 5), (0, .ref h0), (1, .ref b0)]) hx hb dX6_init_91 hl (k := 0) rfl (by decide) (by decide) rfl (fun ls hl => ?_)
  refine lv_goto (tgt := 69) hx hb dX6_init_94 (by decide) ?_
  refine lv_iload_n hx hb dX6_init_69 rfl (lv_at hl 0 rfl) ?_
  refine lv_aload_n hx hb dX6_init_70 rfl (lv_at hl 1 rfl) ?_
  refine va_get hx hb E.ht inX6 E.hown E.hK hP 0 rfl rfl 1 (by decide) (E.ht _ k2_80) (fun _ h => h) rfl dX6_init_71 ?_
  refine va_alen (v := 5) hx hb E.hK hP 1 4 rfl rfl rfl dX6_init_74 ?_
  refine lv_icmp_ge (tgt := 97) hx hb dX6_init_75 (by decide) (fun _ => ?_) (fun h => absurd (by decide) h)
  exact W.vret hx hb hr (fun t ht _ => ⟨⟨(fun k => ([q1, q2, q3, q4, (u5 0), (u5 1), q6, (u7 0), (u7 1), q8, (u9 0), (u9 1), q10, (u11 0), (u11 1), q12, (u13 0), (u13 1)] : List Nat).getD k 0), rfl, trivial, by rw [ht]; exact hP, hD⟩, hS.F ht⟩) hS.2.2 dX6_init_97 hlk
