/-! the one String constant's length and signs: the JDK's own methods on the way -/
def zPk (aK aV : Nat → Nat) (D : va_G) (cy : Cy) (NP : Nat) (ce : Ce) (ad : Nat → Nat) (A : Nat → Prop) (av : List Value) (σ : Sg) : Array Value → State → Prop := va_Pc av (fun U => (va_P D vwCl (wG NP ce ad σ) U.heap ∧ va_K D vwCl (tysG cy) U ∧ NWok U ∧ strX A U U.heap) ∧ vk_S 1 [86] [strB] aK aV A U U.heap)
theorem zPk_blind {aK aV : Nat → Nat} {D : va_G} {cy : Cy} {NP : Nat} {ce : Ce} {ad : Nat → Nat} {A : Nat → Prop} {av : List Value} {σ : Sg} : FrameBlind (zPk aK aV D cy NP ce ad A av σ) := fun a U g mk q => ⟨q.1, (zPc_blind (D := D) (cy := cy) (NP := NP) (ce := ce) (ad := ad) (A := A) (av := av) (σ := σ) a U g mk ⟨q.1, q.2.1⟩).2, vk_S.moved (u := U) (U := U.calling g mk a) (Vm.Alike.refl U.vm) q.2.2⟩
theorem str_byte : ∀ i, i < 86 → ((strB.getD i 0 &&& 255).toUInt32 % 65536).toInt32 = strB.getD i 0 ∧ narrow .char (.int (strB.getD i 0)) = .int (strB.getD i 0) := by decide +kernel
theorem chW_out {i v : Int32} (h : chW i = some v) : vp_in i 86 ∧ strB.getD i.toNatClampNeg 0 = v := by
  unfold chW at h
  split at h
  · cases h
  · rename_i q
    exact ⟨q, Option.some.inj h⟩
theorem chW_lt {i : Int32} (h : vp_in i 86) : i < 86 := by
  obtain ⟨h1, h2⟩ := not_or.mp h
  rw [Int32.lt_iff_toInt_lt]
  have e : i.toNatClampNeg = i.toInt.toNat := rfl
  have z : (0 : Int) ≤ i.toInt := by
    have := Int32.not_lt.mp h1
    simpa using Int32.le_iff_toInt_le.mp this
  show i.toInt < 86
  omega
theorem mf_J0_length : yJ0_length_8abf5.cls ≠ "java/lang/invoke/MethodHandle" ∧ yJ0_length_8abf5.cls ≠ "java/lang/invoke/VarHandle" ∧ (parseMethodDescriptor yJ0_length_8abf5.desc).map (fun d => d.parameters.length) = some 0 := by decide +kernel
theorem mf_J0_charAt : yJ0_charAt_5068e.cls ≠ "java/lang/invoke/MethodHandle" ∧ yJ0_charAt_5068e.cls ≠ "java/lang/invoke/VarHandle" ∧ (parseMethodDescriptor yJ0_charAt_5068e.desc).map (fun d => d.parameters.length) = some 1 := by decide +kernel
theorem mf_J0_coder : yJ0_coder_7d493.cls ≠ "java/lang/invoke/MethodHandle" ∧ yJ0_coder_7d493.cls ≠ "java/lang/invoke/VarHandle" ∧ (parseMethodDescriptor yJ0_coder_7d493.desc).map (fun d => d.parameters.length) = some 0 := by decide +kernel
theorem mf_J0_isLatin1 : yJ0_isLatin1_aae02.cls ≠ "java/lang/invoke/MethodHandle" ∧ yJ0_isLatin1_aae02.cls ≠ "java/lang/invoke/VarHandle" ∧ (parseMethodDescriptor yJ0_isLatin1_aae02.desc).map (fun d => d.parameters.length) = some 0 := by decide +kernel
theorem mf_J0_checkIndex : yJ0_checkIndex_df160.cls ≠ "java/lang/invoke/MethodHandle" ∧ yJ0_checkIndex_df160.cls ≠ "java/lang/invoke/VarHandle" ∧ (parseMethodDescriptor yJ0_checkIndex_df160.desc).map (fun d => d.parameters.length) = some 2 := by decide +kernel
theorem mf_J1_charAt : yJ1_charAt_3b067.cls ≠ "java/lang/invoke/MethodHandle" ∧ yJ1_charAt_3b067.cls ≠ "java/lang/invoke/VarHandle" ∧ (parseMethodDescriptor yJ1_charAt_3b067.desc).map (fun d => d.parameters.length) = some 2 := by decide +kernel
theorem mf_J3_checkIndex : yJ3_checkIndex_8e157.cls ≠ "java/lang/invoke/MethodHandle" ∧ yJ3_checkIndex_8e157.cls ≠ "java/lang/invoke/VarHandle" ∧ (parseMethodDescriptor yJ3_checkIndex_8e157.desc).map (fun d => d.parameters.length) = some 3 := by decide +kernel
section ZSTK
variable {p : Program} {l : Launch} {e : Env} {R : Room} {s : State} {m : MethodId} {args : Array Value} {below : List Frame} {meth : Method} {c : Code} {H : Heap} {locs : List Loc} {cells slots : Nat} {Q : State → Prop}
variable {cc : ByteArray} {nL : Nat} {own : String} {D : va_G} {cy : Cy} {NP : Nat} {ce : Ce} {ad : Nat → Nat} {A : Nat → Prop} {σ σ1 : Sg} {aK aV : Nat → Nat}
variable {pc : Nat} {ls : Array Slot} {rest : List Value} {r : Int32}
theorem zPreK (E : ZE p s m args c cc nL own D cy NP ad A) (hw : ZS D NP ce ad A s σ H locs) (hsS : vk_S 1 [86] [strB] aK aV A s s.heap) (av : List Value) : PreS s H (zPk aK aV D cy NP ce ad A av σ) av :=
  ⟨zPk_blind, fun U hU hW => ⟨rfl, ((zPre E hw av).2 U hU hW).2, by rw [hU]; exact (vk_S.moved hW.alike hsS).kept hw.2.2.1⟩⟩
theorem zPreVK (E : ZE p s m args c cc nL own D cy NP ad A) (hw : ZS D NP ce ad A s σ H locs) (hsS : vk_S 1 [86] [strB] aK aV A s s.heap) (As : List Value) : PreV s H "java/lang/String" (aK 0) (zPk aK aV D cy NP ce ad A (.ref (aK 0) :: As) σ) As :=
  ⟨zPk_blind, vk_recv hsS (i := 0) (by decide) hw.2, (zPreK E hw hsS _).2⟩
theorem zretn {ty : FieldType} (E : ZE p s m args c cc nL own D cy NP ad A) (hw : ZS D NP ce ad A s σ H locs) (hr : meth.sig.returnType = some ty) (hlocks : meth.locks = false) {v : Int32} (hn : narrow ty (.int v) = .int v) (hv : v = r) (hσ : σ = σ1) (hdg : decode cc pc = .ok (.ireturn, 1)) : W p l e R s m args below meth c H locs 0 0 (MQ below (zQi D NP ce ad A r σ1) args s 0 0 A) (F0 m pc ls [.int v]) := by
  subst hv; subst hσ
  exact W.zret E.hx E.hb hr hn (fun t ht _ => ⟨⟨v, (), rfl, rfl, by show va_P D vwCl (wG NP ce ad σ) t.heap; rw [ht]; exact hw.1⟩, hw.2.F ht⟩) hw.2.2.2 hdg hlocks
theorem zofK {y : MethodName} {rm : Room} {ret : Option FieldType} {av : List Value} {Qc : Array Value → State → Outcome → State → Prop} (hy : plainName y.cls = true) (hA : okAd NP ad A) (hcat : (lg_sl av).length ≤ nL)
    (body : ∀ (p : Program) (e : Env) (s : State) (m : MethodId) (args : Array Value) (below : List Frame) (meth : Method) (c : Code) (ls : Array Slot), ZE p s m args c cc nL y.cls D cy NP ad A → vk_S 1 [86] [strB] aK aV A s s.heap → ZS D NP ce ad A s σ s.heap [] → meth.sig.returnType = ret → meth.locks = false → lv_has ls nL (lv_args 0 av) →
      W p l e rm s m args below meth c s.heap [] 0 0 (MQ below Qc args s 0 0 A) (F0 m 0 ls [])) : Met l y (.code y cc nL ret :: TT) rm (zPk aK aV D cy NP ce ad A av σ) Qc 0 0 A := by
  refine Met.ofW (cc := cc) (maxL := nL) (ret := ret) hy rfl ?_
  intro p e s m args below meth c s₁ B hml hv
  obtain ⟨rfl, ⟨hP, hK, hN, hX⟩, hS⟩ := hv
  have hts := atoms_spec (ws := .code y cc nL ret :: TT) B.pre
  have hl := lv_entry av (n := nL) hcat
  rw [lg_entry_eq]
  exact body p e s m _ below meth c _ ⟨B.exec, B.bytes, hml, findClass_of_methodNamed B.named, fun w h => hts w (List.mem_cons_of_mem _ h), hK, hA, hN, hX⟩ hS ⟨hP, va_S.rf⟩ B.returns B.notSynchronized hl
end ZSTK
section ZSTM
variable {l : Launch} {D : va_G} {cy : Cy} {NP : Nat} {ce : Ce} {ad : Nat → Nat} {A : Nat → Prop} {σ : Sg} {aK aV : Nat → Nat}
set_option maxRecDepth 100000 in
set_option maxHeartbeats 4000000 in
theorem c_J0_coder (hA : okAd NP ad A) : Met l yJ0_coder_7d493 (.code yJ0_coder_7d493 cJ0_coder_7d493 1 (some .byte) :: TT) ({ frames := 0, cells := 0, slots := 0, locals := 0 } : Room) (zPk aK aV D cy NP ce ad A [.ref (aK 0)] σ) (zQi D NP ce ad A 0 σ) 0 0 A := by
  refine zofK (by decide) hA (Nat.le_of_ble_eq_true rfl) ?_
  intro p e s m args below meth c ls E hsS hw hr hlk hl
  have E : ZE p s m args c cJ0_coder_7d493 1 "java/lang/String" D cy NP ad A := E
  have hx := E.hx
  have hb := E.hb
  have hl : lv_has ls 1 [(0, .ref (aK 0))] := hl
  refine va_gets hx hb E.hX.2.1 hw.2 E.hown (E.ht _ k3_162) (fun _ h => h) dJ0_coder_7d493_0 ?_
  refine lv_if_eq (tgt := 13) hx hb dJ0_coder_7d493_3 (by decide) (fun h => absurd h (by decide)) (fun _ => ?_)
  refine lv_aload_n hx hb dJ0_coder_7d493_6 rfl (lv_at hl 0 rfl) ?_
  refine vk_getf hx hb (hsS.1 0 (by decide)).2.1 hw.2 E.hown (E.ht _ k8_197) (fun _ h => h) dJ0_coder_7d493_7 ?_
  refine lv_goto (tgt := 14) hx hb dJ0_coder_7d493_10 (by decide) ?_
  exact zretn E hw hr hlk rfl rfl rfl dJ0_coder_7d493_14
set_option maxRecDepth 100000 in
set_option maxHeartbeats 4000000 in
theorem c_J0_isLatin1 (hA : okAd NP ad A) : Met l yJ0_isLatin1_aae02 (.code yJ0_isLatin1_aae02 cJ0_isLatin1_aae02 1 (some .boolean) :: TT) ({ frames := 0, cells := 0, slots := 0, locals := 0 } : Room) (zPk aK aV D cy NP ce ad A [.ref (aK 0)] σ) (zQi D NP ce ad A 1 σ) 0 0 A := by
  refine zofK (by decide) hA (Nat.le_of_ble_eq_true rfl) ?_
  intro p e s m args below meth c ls E hsS hw hr hlk hl
  have E : ZE p s m args c cJ0_isLatin1_aae02 1 "java/lang/String" D cy NP ad A := E
  have hx := E.hx
  have hb := E.hb
  have hl : lv_has ls 1 [(0, .ref (aK 0))] := hl
  refine va_gets hx hb E.hX.2.1 hw.2 E.hown (E.ht _ k3_162) (fun _ h => h) dJ0_isLatin1_aae02_0 ?_
  refine lv_if_eq (tgt := 17) hx hb dJ0_isLatin1_aae02_3 (by decide) (fun h => absurd h (by decide)) (fun _ => ?_)
  refine lv_aload_n hx hb dJ0_isLatin1_aae02_6 rfl (lv_at hl 0 rfl) ?_
  refine vk_getf hx hb (hsS.1 0 (by decide)).2.1 hw.2 E.hown (E.ht _ k8_197) (fun _ h => h) dJ0_isLatin1_aae02_7 ?_
  refine lv_if_ne (tgt := 17) hx hb dJ0_isLatin1_aae02_10 (by decide) (fun h => absurd rfl h) (fun _ => ?_)
  refine lv_iconst (v := 1) hx hb dJ0_isLatin1_aae02_13 (by decide) ?_
  refine lv_goto (tgt := 18) hx hb dJ0_isLatin1_aae02_14 (by decide) ?_
  exact zretn E hw hr hlk rfl rfl rfl dJ0_isLatin1_aae02_18
set_option maxRecDepth 100000 in
set_option maxHeartbeats 4000000 in
theorem c_J0_length (hA : okAd NP ad A) : Met l yJ0_length_8abf5 (.code yJ0_length_8abf5 cJ0_length_8abf5 1 (some .int) :: TT) ({ frames := 1, cells := 0, slots := 0, locals := 20 } : Room) (zPk aK aV D cy NP ce ad A [.ref (aK 0)] σ) (zQi D NP ce ad A 86 σ) 0 0 A := by
  refine zofK (by decide) hA (Nat.le_of_ble_eq_true rfl) ?_
  intro p e s m args below meth c ls E hsS hw hr hlk hl
  have E : ZE p s m args c cJ0_length_8abf5 1 "java/lang/String" D cy NP ad A := E
  have hx := E.hx
  have hb := E.hb
  have hl : lv_has ls 1 [(0, .ref (aK 0))] := hl
  refine lv_aload_n hx hb dJ0_length_8abf5_0 rfl (lv_at hl 0 rfl) ?_
  refine vk_getf hx hb (hsS.1 0 (by decide)).2.2.1 hw.2 E.hown (E.ht _ k8_196) (fun _ h => h) dJ0_length_8abf5_1 ?_
  refine va_tlen (v := 86) hx hb (hsS.1 0 (by decide)).2.2.2 hw.2 rfl dJ0_length_8abf5_4 ?_
  refine lv_aload_n hx hb dJ0_length_8abf5_5 rfl (lv_at hl 0 rfl) ?_
  refine zcali hw (va_runV (As := []) (rest := [.int 86]) E.fix (c_J0_coder (l := l) (aK := aK) (aV := aV) hA) (zcV E k3_161 k1_16 k3_158 k3_159 k3_160 mf_J0_coder rfl rfl ⟨Nat.le_of_ble_eq_true rfl, Nat.le_of_ble_eq_true rfl⟩) (zPreVK E hw hsS []) rfl rfl hl.1 rfl (lv_room (Nat.le_of_ble_eq_true rfl)) dJ0_length_8abf5_6 ⟨Nat.zero_le _, Nat.zero_le _⟩) (fun H locs hw => ?_)
  refine lv_ishr hx hb dJ0_length_8abf5_9 ?_
  exact zreti E hw hr hlk (by decide) rfl dJ0_length_8abf5_10
set_option maxRecDepth 100000 in
set_option maxHeartbeats 4000000 in
theorem c_J3_checkIndex (hA : okAd NP ad A) (v : Value) (hv : v = .null ∨ ∃ t : Nat, v = .ref t) {i : Int32} (hi : vp_in i 86) : Met l yJ3_checkIndex_8e157 (.code yJ3_checkIndex_8e157 cJ3_checkIndex_8e157 3 (some .int) :: TT) ({ frames := 0, cells := 0, slots := 0, locals := 0 } : Room) (zPk aK aV D cy NP ce ad A [.int i, .int 86, v] σ) (zQi D NP ce ad A i σ) 0 0 A := by
  have hv2 : (lg_sl [.int i, .int 86, v]).length ≤ 3 := by
    rcases hv with rfl | ⟨t, rfl⟩ <;> exact Nat.le_of_ble_eq_true rfl
  refine zofK (by decide) hA hv2 ?_
  intro p e s m args below meth c ls E hsS hw hr hlk hl
  have E : ZE p s m args c cJ3_checkIndex_8e157 3 "jdk/internal/util/Preconditions" D cy NP ad A := E
  have hx := E.hx
  have hb := E.hb
  have hl : lv_has ls 3 [(0, .int i), (1, .int 86), (2, v)] := by
    rcases hv with rfl | ⟨t, rfl⟩ <;> exact hl
  refine lv_iload_n hx hb dJ3_checkIndex_8e157_0 rfl (lv_at hl 0 rfl) ?_
  refine lv_if_lt (tgt := 9) hx hb dJ3_checkIndex_8e157_1 (by decide) (fun h => absurd (Or.inl h) hi) (fun _ => ?_)
  refine lv_iload_n hx hb dJ3_checkIndex_8e157_4 rfl (lv_at hl 0 rfl) ?_
  refine lv_iload_n hx hb dJ3_checkIndex_8e157_5 rfl (lv_at hl 1 rfl) ?_
  refine lv_icmp_lt (tgt := 16) hx hb dJ3_checkIndex_8e157_6 (by decide) (fun _ => ?_) (fun h => absurd (chW_lt hi) h)
  refine lv_iload_n hx hb dJ3_checkIndex_8e157_16 rfl (lv_at hl 0 rfl) ?_
  exact zreti E hw hr hlk rfl rfl dJ3_checkIndex_8e157_17
set_option maxRecDepth 100000 in
set_option maxHeartbeats 4000000 in
theorem c_J0_checkIndex (hA : okAd NP ad A) {i : Int32} (hi : vp_in i 86) : Met l yJ0_checkIndex_df160 (.code yJ0_checkIndex_df160 cJ0_checkIndex_df160 2 none :: TT) ({ frames := 1, cells := 0, slots := 0, locals := 22 } : Room) (zPk aK aV D cy NP ce ad A [.int i, .int 86] σ) (zQv D NP ce ad A σ) 0 0 A := by
  refine zofK (by decide) hA (Nat.le_of_ble_eq_true rfl) ?_
  intro p e s m args below meth c ls E hsS hw hr hlk hl
  have E : ZE p s m args c cJ0_checkIndex_df160 2 "java/lang/String" D cy NP ad A := E
  have hx := E.hx
  have hb := E.hb
  have hl : lv_has ls 2 [(0, .int i), (1, .int 86)] := hl
  obtain ⟨v, hv, hZ⟩ : ∃ v : Value, (v = .null ∨ ∃ t : Nat, v = .ref t) ∧ va_Z "jdk/internal/util/Preconditions" "SIOOBE_FORMATTER" "Ljava/util/function/BiFunction;" v A s s.heap := by
    rcases E.hX.2.2 with h | ⟨t, h⟩
    · exact ⟨_, Or.inl rfl, h⟩
    · exact ⟨_, Or.inr ⟨t, rfl⟩, h⟩
  refine lv_iload_n hx hb dJ0_checkIndex_df160_0 rfl (lv_at hl 0 rfl) ?_
  refine lv_iload_n hx hb dJ0_checkIndex_df160_1 rfl (lv_at hl 1 rfl) ?_
  refine va_gets hx hb hZ hw.2 E.hown (E.ht _ k3_178) (fun _ h => h) dJ0_checkIndex_df160_2 ?_
  refine zcali hw (va_runS (As := [.int i, .int 86, v]) (rest := []) E.fix (c_J3_checkIndex (l := l) (aK := aK) (aV := aV) hA v hv hi) (zcS E k3_182 k1_18 k3_180 k3_181 mf_J3_checkIndex rfl rfl ⟨Nat.le_of_ble_eq_true rfl, Nat.le_of_ble_eq_true rfl⟩) (zPreK E hw hsS _) rfl rfl hl.1 rfl (lv_room (Nat.le_of_ble_eq_true rfl)) dJ0_checkIndex_df160_5 ⟨Nat.zero_le _, Nat.zero_le _⟩) (fun H locs hw => ?_)
  refine lv_pop hx hb dJ0_checkIndex_df160_8 rfl ?_
  exact zretv E hw hr hlk rfl dJ0_checkIndex_df160_9
set_option maxRecDepth 100000 in
set_option maxHeartbeats 4000000 in
theorem c_J1_charAt (hA : okAd NP ad A) {i v : Int32} (hi : vp_in i 86) (hv : strB.getD i.toNatClampNeg 0 = v) : Met l yJ1_charAt_3b067 (.code yJ1_charAt_3b067 cJ1_charAt_3b067 2 (some .char) :: TT) ({ frames := 2, cells := 0, slots := 0, locals := 43 } : Room) (zPk aK aV D cy NP ce ad A [.ref (aV 0), .int i] σ) (zQi D NP ce ad A v σ) 0 0 A := by
  refine zofK (by decide) hA (Nat.le_of_ble_eq_true rfl) ?_
  intro p e s m args below meth c ls E hsS hw hr hlk hl
  have E : ZE p s m args c cJ1_charAt_3b067 2 "java/lang/StringLatin1" D cy NP ad A := E
  have hx := E.hx
  have hb := E.hb
  have hl : lv_has ls 2 [(0, .ref (aV 0)), (1, .int i)] := hl
  have hk := str_byte i.toNatClampNeg (Nat.lt_of_not_le (not_or.mp hi).2)
  rw [hv] at hk
  have hT := (hsS.1 0 (by decide)).2.2.2
  refine lv_iload_n hx hb dJ1_charAt_3b067_0 rfl (lv_at hl 1 rfl) ?_
  refine lv_aload_n hx hb dJ1_charAt_3b067_1 rfl (lv_at hl 0 rfl) ?_
  refine va_tlen (v := 86) hx hb hT hw.2 rfl dJ1_charAt_3b067_2 ?_
  refine zcalv hw (va_runS (As := [.int i, .int 86]) (rest := []) E.fix (c_J0_checkIndex (l := l) (aK := aK) (aV := aV) hA hi) (zcS E k3_177 k1_16 k3_175 k3_176 mf_J0_checkIndex rfl rfl ⟨Nat.le_of_ble_eq_true rfl, Nat.le_of_ble_eq_true rfl⟩) (zPreK E hw hsS _) rfl rfl hl.1 rfl (lv_room (Nat.le_of_ble_eq_true rfl)) dJ1_charAt_3b067_3 ⟨Nat.zero_le _, Nat.zero_le _⟩) (fun H locs hw => ?_)
  refine lv_aload_n hx hb dJ1_charAt_3b067_6 rfl (lv_at hl 0 rfl) ?_
  refine lv_iload_n hx hb dJ1_charAt_3b067_7 rfl (lv_at hl 1 rfl) ?_
  refine va_tb hx hb hT hw.2 hi (v := .int v) (by show Value.int (strB.getD i.toNatClampNeg 0) = .int v; rw [hv]) dJ1_charAt_3b067_8 ?_
  refine lv_sipush (v := 255) hx hb dJ1_charAt_3b067_9 (by decide) ?_
  refine lv_iand hx hb dJ1_charAt_3b067_12 ?_
  refine lv_i2c hx hb dJ1_charAt_3b067_13 hk.1 ?_
  exact zretn E hw hr hlk hk.2 rfl rfl dJ1_charAt_3b067_14
set_option maxRecDepth 100000 in
set_option maxHeartbeats 4000000 in
theorem c_J0_charAt (hA : okAd NP ad A) {i v : Int32} (hi : vp_in i 86) (hv : strB.getD i.toNatClampNeg 0 = v) : Met l yJ0_charAt_5068e (.code yJ0_charAt_5068e cJ0_charAt_5068e 2 (some .char) :: TT) ({ frames := 3, cells := 0, slots := 0, locals := 64 } : Room) (zPk aK aV D cy NP ce ad A [.ref (aK 0), .int i] σ) (zQi D NP ce ad A v σ) 0 0 A := by
  refine zofK (by decide) hA (Nat.le_of_ble_eq_true rfl) ?_
  intro p e s m args below meth c ls E hsS hw hr hlk hl
  have E : ZE p s m args c cJ0_charAt_5068e 2 "java/lang/String" D cy NP ad A := E
  have hx := E.hx
  have hb := E.hb
  have hl : lv_has ls 2 [(0, .ref (aK 0)), (1, .int i)] := hl
  have hk := str_byte i.toNatClampNeg (Nat.lt_of_not_le (not_or.mp hi).2)
  rw [hv] at hk
  refine lv_aload_n hx hb dJ0_charAt_5068e_0 rfl (lv_at hl 0 rfl) ?_
  refine zcali hw (va_runV (As := []) (rest := []) E.fix (c_J0_isLatin1 (l := l) (aK := aK) (aV := aV) hA) (zcV E k3_171 k1_16 k3_168 k3_169 k3_170 mf_J0_isLatin1 rfl rfl ⟨Nat.le_of_ble_eq_true rfl, Nat.le_of_ble_eq_true rfl⟩) (zPreVK E hw hsS []) rfl rfl hl.1 rfl (lv_room (Nat.le_of_ble_eq_true rfl)) dJ0_charAt_5068e_1 ⟨Nat.zero_le _, Nat.zero_le _⟩) (fun H locs hw => ?_)
  refine lv_if_eq (tgt := 16) hx hb dJ0_charAt_5068e_4 (by decide) (fun h => absurd h (by decide)) (fun _ => ?_)
  refine lv_aload_n hx hb dJ0_charAt_5068e_7 rfl (lv_at hl 0 rfl) ?_
  refine vk_getf hx hb (hsS.1 0 (by decide)).2.2.1 hw.2 E.hown (E.ht _ k8_196) (fun _ h => h) dJ0_charAt_5068e_8 ?_
  refine lv_iload_n hx hb dJ0_charAt_5068e_11 rfl (lv_at hl 1 rfl) ?_
  refine zcali hw (va_runS (As := [.ref (aV 0), .int i]) (rest := []) E.fix (c_J1_charAt (l := l) (aK := aK) (aV := aV) hA hi hv) (zcS E k3_174 k1_17 k3_172 k3_173 mf_J1_charAt rfl rfl ⟨Nat.le_of_ble_eq_true rfl, Nat.le_of_ble_eq_true rfl⟩) (zPreK E hw hsS _) rfl rfl hl.1 rfl (lv_room (Nat.le_of_ble_eq_true rfl)) dJ0_charAt_5068e_12 ⟨Nat.zero_le _, Nat.zero_le _⟩) (fun H locs hw => ?_)
  exact zretn E hw hr hlk hk.2 rfl rfl dJ0_charAt_5068e_15
end ZSTM
section ZSTR2
variable {p : Program} {l : Launch} {e : Env} {R : Room} {s : State} {m : MethodId} {args : Array Value} {below : List Frame} {meth : Method} {c : Code} {H : Heap} {locs : List Loc} {cells slots : Nat} {Q : State → Prop}
variable {cc : ByteArray} {nL : Nat} {D : va_G} {cy : Cy} {NP : Nat} {ce : Ce} {ad : Nat → Nat} {A : Nat → Prop} {σ : Sg}
variable {pc : Nat} {ls : Array Slot} {rest : List Value}
theorem zstrlen {aK aV : Nat → Nat} (E : ZE p s m args c cc nL "KiteSummons$RuleReader" D cy NP ad A) (hw : ZS D NP ce ad A s σ H locs) (hsS : vk_S 1 [86] [strB] aK aV A s s.heap) (hF : 6 ≤ R.frames) (hL : 300 ≤ R.locals) (hsz : ls.size = nL) (hrw : (rest.map fun v => v.category).sum ≤ 8) (hdg : decode cc pc = .ok (.invokevirtual 97, 3))
    (kk : ∀ (H1 : Heap) (locs1 : List Loc), ZS D NP ce ad A s σ H1 locs1 → W p l e R s m args below meth c H1 locs1 0 0 Q (F0 m (pc + 3) ls (.int 86 :: rest))) : W p l e R s m args below meth c H locs 0 0 Q (F0 m pc ls (.ref (aK 0) :: rest)) :=
  zcali hw (va_runV (As := []) (rest := rest) E.fix (c_J0_length (l := l) (aK := aK) (aV := aV) E.hA) (zcV E k3_157 k1_16 k3_154 k3_155 k3_156 mf_J0_length rfl rfl ⟨Nat.le_trans (Nat.le_of_ble_eq_true rfl) hF, Nat.le_trans (Nat.le_of_ble_eq_true rfl) hL⟩) (zPreVK E hw hsS []) rfl rfl hsz rfl (by simpa using hrw) hdg ⟨Nat.zero_le _, Nat.zero_le _⟩) kk
theorem zstrat {aK aV : Nat → Nat} (E : ZE p s m args c cc nL "KiteSummons$RuleReader" D cy NP ad A) (hw : ZS D NP ce ad A s σ H locs) (hsS : vk_S 1 [86] [strB] aK aV A s s.heap) (hF : 6 ≤ R.frames) (hL : 300 ≤ R.locals) (hsz : ls.size = nL) (hrw : (rest.map fun v => v.category).sum ≤ 8) {i v : Int32} (hv : chW i = some v) (hdg : decode cc pc = .ok (.invokevirtual 101, 3))
    (kk : ∀ (H1 : Heap) (locs1 : List Loc), ZS D NP ce ad A s σ H1 locs1 → W p l e R s m args below meth c H1 locs1 0 0 Q (F0 m (pc + 3) ls (.int v :: rest))) : W p l e R s m args below meth c H locs 0 0 Q (F0 m pc ls (.int i :: .ref (aK 0) :: rest)) :=
  zcali hw (va_runV (As := [.int i]) (rest := rest) E.fix (c_J0_charAt (l := l) (aK := aK) (aV := aV) E.hA (chW_out hv).1 (chW_out hv).2) (zcV E k3_167 k1_16 k3_164 k3_165 k3_166 mf_J0_charAt rfl rfl ⟨Nat.le_trans (Nat.le_of_ble_eq_true rfl) hF, Nat.le_trans (Nat.le_of_ble_eq_true rfl) hL⟩) (zPreVK E hw hsS [.int i]) rfl rfl hsz rfl (by simpa using hrw) hdg ⟨Nat.zero_le _, Nat.zero_le _⟩) kk
end ZSTR2
