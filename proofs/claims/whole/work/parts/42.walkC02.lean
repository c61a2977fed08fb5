set_option maxRecDepth 100000 in
set_option maxHeartbeats 4000000 in
theorem c_X8_readComparison {l : Launch} {D : va_G} {cy : Cy} {ad : Nat → Nat} {A : Nat → Prop} (hA : okAd 97 ad A) (σ : Sg) {σ9 : Sg} (hf : f_X8_readComparison σ = some σ9) : Met l yX8_readComparison (.code yX8_readComparison cX8_readComparison 4 none :: TT) ({ frames := 1, cells := 0, slots := 0, locals := 22 } : Room) (zPc D cy 97 (celC ad cy) ad A [.ref (ad 67)] σ) (zQv D 97 (celC ad cy) ad A σ9) 0 0 A := by
  refine zofW (by decide) hA (Nat.le_of_ble_eq_true rfl) ?_
  intro p e s m args below meth c ls E hw hr hlk hl
  have E : ZE p s m args c cX8_readComparison 4 "KiteSummons$RuleReader" D cy 97 ad A := E
  have hx := E.hx
  have hb := E.hb
  have hl : lv_has ls 4 [(0, .ref (ad 67))] := hl
  unfold f_X8_readComparison at hf
  refine lv_aload_n hx hb dX8_readComparison_0 rfl (lv_at hl 0 rfl) ?_
  obtain ⟨vq1, hc, hf⟩ := bd_e hf
  refine zcali hw (va_runV (As := []) (rest := []) E.fix (c_X8_token (l := l) hA σ hc) (zcV E k3_217 k1_2 k3_214 k3_216 kp1_13 mf_X8_token rfl rfl ⟨Nat.le_of_ble_eq_true rfl, Nat.le_of_ble_eq_true rfl⟩) (zPreV E hw (Nat.le_of_ble_eq_true rfl) (ceC_67 ad cy _) rfl _) rfl rfl hl.1 rfl (lv_room (Nat.le_of_ble_eq_true rfl)) dX8_readComparison_1 ⟨Nat.zero_le _, Nat.zero_le _⟩) (fun H locs hw => ?_)
  refine lv_istore_n (lv' := [(1, .int vq1), (0, .ref (ad 67))]) hx hb dX8_readComparison_4 rfl hl (by decide) rfl (fun ls hl => ?_)
  refine lv_aload_n hx hb dX8_readComparison_5 rfl (lv_at hl 1 rfl) ?_
  refine lv_iload_n hx hb dX8_readComparison_6 rfl (lv_at hl 0 rfl) ?_
  refine zcali hw (va_runS (As := [.int vq1]) (rest := [.ref (ad 67)]) E.fix (c_X8_isValue (l := l) hA vq1 σ rfl) (zcS E k4_4 k1_2 k4_2 k4_3 mf_X8_isValue rfl rfl ⟨Nat.le_of_ble_eq_true rfl, Nat.le_of_ble_eq_true rfl⟩) (zPre E hw _) rfl rfl hl.1 rfl (lv_room (Nat.le_of_ble_eq_true rfl)) dX8_readComparison_7 ⟨Nat.zero_le _, Nat.zero_le _⟩) (fun H locs hw => ?_)
  obtain ⟨σ2, hc, hf⟩ := bd_e hf
  refine zcalv hw (va_runV (As := [.int (b2i (f_X8_isValue vq1 σ))]) (rest := []) E.fix (c_X8_pass (l := l) hA (b2i (f_X8_isValue vq1 σ)) σ hc) (zcV E k3_225 k1_2 k3_222 k3_224 kp1_15 mf_X8_pass rfl rfl ⟨Nat.le_of_ble_eq_true rfl, Nat.le_of_ble_eq_true rfl⟩) (zPreV E hw (Nat.le_of_ble_eq_true rfl) (ceC_67 ad cy _) rfl _) rfl rfl hl.1 rfl (lv_room (Nat.le_of_ble_eq_true rfl)) dX8_readComparison_10 ⟨Nat.zero_le _, Nat.zero_le _⟩) (fun H locs hw => ?_)
  refine lv_aload_n hx hb dX8_readComparison_13 rfl (lv_at hl 1 rfl) ?_
  obtain ⟨vq3, hc, hf⟩ := bd_e hf
  refine zcali hw (va_runV (As := []) (rest := []) E.fix (c_X8_token (l := l) hA σ2 hc) (zcV E k3_217 k1_2 k3_214 k3_216 kp1_13 mf_X8_token rfl rfl ⟨Nat.le_of_ble_eq_true rfl, Nat.le_of_ble_eq_true rfl⟩) (zPreV E hw (Nat.le_of_ble_eq_true rfl) (ceC_67 ad cy _) rfl _) rfl rfl hl.1 rfl (lv_room (Nat.le_of_ble_eq_true rfl)) dX8_readComparison_14 ⟨Nat.zero_le _, Nat.zero_le _⟩) (fun H locs hw => ?_)
  refine lv_istore_n (lv' := [(2, .int vq3), (1, .int vq1), (0, .ref (ad 67))]) hx hb dX8_readComparison_17 rfl hl (by decide) rfl (fun ls hl => ?_)
  refine lv_aload_n hx hb dX8_readComparison_18 rfl (lv_at hl 2 rfl) ?_
  refine lv_iload_n hx hb dX8_readComparison_19 rfl (lv_at hl 0 rfl) ?_
  refine lv_bipush (v := 23) hx hb dX8_readComparison_20 (by decide) ?_
  refine lv_bipush (v := 25) hx hb dX8_readComparison_22 (by decide) ?_
  refine zcali hw (va_runSN (As := [.int vq3, .int 23, .int 25]) (rest := [.ref (ad 67)]) E.fix (c_X11_within (l := l) hA vq3 23 25 σ2 rfl) (zcN E k2_179 k1_1 k3_136 k2_178 mf_X11_within rfl rfl ⟨Nat.le_of_ble_eq_true rfl, Nat.le_of_ble_eq_true rfl⟩) (zPre E hw _) rfl rfl hl.1 rfl (lv_room (Nat.le_of_ble_eq_true rfl)) dX8_readComparison_24 ⟨Nat.zero_le _, Nat.zero_le _⟩) (fun H locs hw => ?_)
  obtain ⟨σ4, hc, hf⟩ := bd_e hf
  refine zcalv hw (va_runV (As := [.int (b2i (f_X11_within vq3 23 25 σ2))]) (rest := []) E.fix (c_X8_pass (l := l) hA (b2i (f_X11_within vq3 23 25 σ2)) σ2 hc) (zcV E k3_225 k1_2 k3_222 k3_224 kp1_15 mf_X8_pass rfl rfl ⟨Nat.le_of_ble_eq_true rfl, Nat.le_of_ble_eq_true rfl⟩) (zPreV E hw (Nat.le_of_ble_eq_true rfl) (ceC_67 ad cy _) rfl _) rfl rfl hl.1 rfl (lv_room (Nat.le_of_ble_eq_true rfl)) dX8_readComparison_27 ⟨Nat.zero_le _, Nat.zero_le _⟩) (fun H locs hw => ?_)
  refine lv_aload_n hx hb dX8_readComparison_30 rfl (lv_at hl 2 rfl) ?_
  obtain ⟨vq5, hc, hf⟩ := bd_e hf
  refine zcali hw (va_runV (As := []) (rest := []) E.fix (c_X8_token (l := l) hA σ4 hc) (zcV E k3_217 k1_2 k3_214 k3_216 kp1_13 mf_X8_token rfl rfl ⟨Nat.le_of_ble_eq_true rfl, Nat.le_of_ble_eq_true rfl⟩) (zPreV E hw (Nat.le_of_ble_eq_true rfl) (ceC_67 ad cy _) rfl _) rfl rfl hl.1 rfl (lv_room (Nat.le_of_ble_eq_true rfl)) dX8_readComparison_31 ⟨Nat.zero_le _, Nat.zero_le _⟩) (fun H locs hw => ?_)
  refine lv_istore_n (lv' := [(3, .int vq5), (2, .int vq3), (1, .int vq1), (0, .ref (ad 67))]) hx hb dX8_readComparison_34 rfl hl (by decide) rfl (fun ls hl => ?_)
  refine lv_aload_n hx hb dX8_readComparison_35 rfl (lv_at hl 3 rfl) ?_
  refine lv_iload_n hx hb dX8_readComparison_36 rfl (lv_at hl 0 rfl) ?_
  refine zcali hw (va_runS (As := [.int vq5]) (rest := [.ref (ad 67)]) E.fix (c_X8_isValue (l := l) hA vq5 σ4 rfl) (zcS E k4_4 k1_2 k4_2 k4_3 mf_X8_isValue rfl rfl ⟨Nat.le_of_ble_eq_true rfl, Nat.le_of_ble_eq_true rfl⟩) (zPre E hw _) rfl rfl hl.1 rfl (lv_room (Nat.le_of_ble_eq_true rfl)) dX8_readComparison_37 ⟨Nat.zero_le _, Nat.zero_le _⟩) (fun H locs hw => ?_)
  obtain ⟨σ6, hc, hf⟩ := bd_e hf
  refine zcalv hw (va_runV (As := [.int (b2i (f_X8_isValue vq5 σ4))]) (rest := []) E.fix (c_X8_pass (l := l) hA (b2i (f_X8_isValue vq5 σ4)) σ4 hc) (zcV E k3_225 k1_2 k3_222 k3_224 kp1_15 mf_X8_pass rfl rfl ⟨Nat.le_of_ble_eq_true rfl, Nat.le_of_ble_eq_true rfl⟩) (zPreV E hw (Nat.le_of_ble_eq_true rfl) (ceC_67 ad cy _) rfl _) rfl rfl hl.1 rfl (lv_room (Nat.le_of_ble_eq_true rfl)) dX8_readComparison_40 ⟨Nat.zero_le _, Nat.zero_le _⟩) (fun H locs hw => ?_)
  refine lv_aload_n hx hb dX8_readComparison_43 rfl (lv_at hl 3 rfl) ?_
  refine zget E hw (Nat.le_of_ble_eq_true rfl) (ceC_67 ad cy _) rfl inX8 7 (by decide) k1_83 (fun _ h => h) rfl dX8_readComparison_44 ?_
  refine lv_iload_n hx hb dX8_readComparison_47 rfl (lv_at hl 1 rfl) ?_
  obtain ⟨σ7, hc, hf⟩ := bd_e hf
  refine zcalv hw (va_runV (As := [.int vq3]) (rest := []) E.fix (c_X9_addCode (l := l) hA vq3 σ6 hc) (zcV E k4_8 k1_3 k4_5 k4_6 k4_7 mf_X9_addCode rfl rfl ⟨Nat.le_of_ble_eq_true rfl, Nat.le_of_ble_eq_true rfl⟩) (zPreV E hw (Nat.le_of_ble_eq_true rfl) (ceC_71 ad cy _) rfl _) rfl rfl hl.1 rfl (lv_room (Nat.le_of_ble_eq_true rfl)) dX8_readComparison_48 ⟨Nat.zero_le _, Nat.zero_le _⟩) (fun H locs hw => ?_)
  refine lv_aload_n hx hb dX8_readComparison_51 rfl (lv_at hl 3 rfl) ?_
  refine zget E hw (Nat.le_of_ble_eq_true rfl) (ceC_67 ad cy _) rfl inX8 7 (by decide) k1_83 (fun _ h => h) rfl dX8_readComparison_52 ?_
  refine lv_iload_n hx hb dX8_readComparison_55 rfl (lv_at hl 2 rfl) ?_
  refine zcali hw (va_runS (As := [.int vq1]) (rest := [.ref (ad 71)]) E.fix (c_X8_operandOf (l := l) hA vq1 σ7 rfl) (zcS E k4_11 k1_2 k4_9 k4_10 mf_X8_operandOf rfl rfl ⟨Nat.le_of_ble_eq_true rfl, Nat.le_of_ble_eq_true rfl⟩) (zPre E hw _) rfl rfl hl.1 rfl (lv_room (Nat.le_of_ble_eq_true rfl)) dX8_readComparison_56 ⟨Nat.zero_le _, Nat.zero_le _⟩) (fun H locs hw => ?_)
  obtain ⟨σ8, hc, hf⟩ := bd_e hf
  refine zcalv hw (va_runV (As := [.int (f_X8_operandOf vq1 σ7)]) (rest := []) E.fix (c_X9_addCode (l := l) hA (f_X8_operandOf vq1 σ7) σ7 hc) (zcV E k4_8 k1_3 k4_5 k4_6 k4_7 mf_X9_addCode rfl rfl ⟨Nat.le_of_ble_eq_true rfl, Nat.le_of_ble_eq_true rfl⟩) (zPreV E hw (Nat.le_of_ble_eq_true rfl) (ceC_71 ad cy _) rfl _) rfl rfl hl.1 rfl (lv_room (Nat.le_of_ble_eq_true rfl)) dX8_readComparison_59 ⟨Nat.zero_le _, Nat.zero_le _⟩) (fun H locs hw => ?_)
  refine lv_aload_n hx hb dX8_readComparison_62 rfl (lv_at hl 3 rfl) ?_
  refine zget E hw (Nat.le_of_ble_eq_true rfl) (ceC_67 ad cy _) rfl inX8 7 (by decide) k1_83 (fun _ h => h) rfl dX8_readComparison_63 ?_
  refine lv_iload_n hx hb dX8_readComparison_66 rfl (lv_at hl 0 rfl) ?_
  refine zcali hw (va_runS (As := [.int vq5]) (rest := [.ref (ad 71)]) E.fix (c_X8_operandOf (l := l) hA vq5 σ8 rfl) (zcS E k4_11 k1_2 k4_9 k4_10 mf_X8_operandOf rfl rfl ⟨Nat.le_of_ble_eq_true rfl, Nat.le_of_ble_eq_true rfl⟩) (zPre E hw _) rfl rfl hl.1 rfl (lv_room (Nat.le_of_ble_eq_true rfl)) dX8_readComparison_67 ⟨Nat.zero_le _, Nat.zero_le _⟩) (fun H locs hw => ?_)
  obtain ⟨σ9, hc, hf⟩ := bd_e hf
  refine zcalv hw (va_runV (As := [.int (f_X8_operandOf vq5 σ8)]) (rest := []) E.fix (c_X9_addCode (l := l) hA (f_X8_operandOf vq5 σ8) σ8 hc) (zcV E k4_8 k1_3 k4_5 k4_6 k4_7 mf_X9_addCode rfl rfl ⟨Nat.le_of_ble_eq_true rfl, Nat.le_of_ble_eq_true rfl⟩) (zPreV E hw (Nat.le_of_ble_eq_true rfl) (ceC_71 ad cy _) rfl _) rfl rfl hl.1 rfl (lv_room (Nat.le_of_ble_eq_true rfl)) dX8_readComparison_70 ⟨Nat.zero_le _, Nat.zero_le _⟩) (fun H locs hw => ?_)
  exact zretv E hw hr hlk (rt_1 hf) dX8_readComparison_73
set_option maxRecDepth 100000 in
set_option maxHeartbeats 4000000 in
theorem c_X8_readOne {l : Launch} {D : va_G} {cy : Cy} {ad : Nat → Nat} {A : Nat → Prop} (hA : okAd 97 ad A) (rec : Int32 → Sg → Option Sg) (d : Nat) (hrec : ∀ (xq1 : Int32) (σ : Sg) {σ9 : Sg}, rec xq1 σ = some σ9 → Met l yX8_readAny (.code yX8_readAny cX8_readAny 3 none :: TT) ({ frames := 2 + 3 * d, cells := 0, slots := 0, locals := 45 + 67 * d } : Room) (zPc D cy 97 (celC ad cy) ad A [.ref (ad 67), .int xq1] σ) (zQv D 97 (celC ad cy) ad A σ9) 0 0 A) (xq1 : Int32) (σ : Sg) {σ9 : Sg} (hf : f_X8_readOne rec xq1 σ = some σ9) : Met l yX8_readOne (.code yX8_readOne cX8_readOne 4 none :: TT) ({ frames := 3 + 3 * d, cells := 0, slots := 0, locals := 67 + 67 * d } : Room) (zPc D cy 97 (celC ad cy) ad A [.ref (ad 67), .int xq1] σ) (zQv D 97 (celC ad cy) ad A σ9) 0 0 A := by
  refine zofW (by decide) hA (Nat.le_of_ble_eq_true rfl) ?_
  intro p e s m args below meth c ls E hw hr hlk hl
  have E : ZE p s m args c cX8_readOne 4 "KiteSummons$RuleReader" D cy 97 ad A := E
  have hx := E.hx
  have hb := E.hb
  have hl : lv_has ls 4 [(0, .ref (ad 67)), (1, .int xq1)] := hl
  have hB117 : ∀ (xq2 : Int32) (σ : Sg) (H : Heap) (locs : List Loc) (ls : Array Slot), ZS D 97 (celC ad cy) ad A s σ H locs → lv_has ls 4 [(0, .ref (ad 67)), (2, .int xq2)] → f_X8_readOne_b117 rec xq2 σ = some σ9 → W p l e ({ frames := 3 + 3 * d, cells := 0, slots := 0, locals := 67 + 67 * d } : Room) s m args below meth c H locs 0 0 (MQ below (zQv D 97 (celC ad cy) ad A σ9) args s 0 0 A) (F0 m 117 ls []) := by
    intro xq2 σ H locs ls hw hl hf
    unfold f_X8_readOne_b117 at hf
    refine lv_iload_n hx hb dX8_readOne_117 rfl (lv_at hl 1 rfl) ?_
    refine lv_if_eq (tgt := 130) hx hb dX8_readOne_118 (by decide) (fun h => ?_) (fun h => ?_)
    · replace hf := it_t h hf
      exact zretv E hw hr hlk (rt_1 hf) dX8_readOne_130
    · replace hf := it_f h hf
      refine lv_aload_n hx hb dX8_readOne_121 rfl (lv_at hl 0 rfl) ?_
      refine zget E hw (Nat.le_of_ble_eq_true rfl) (ceC_67 ad cy _) rfl inX8 7 (by decide) k1_83 (fun _ h => h) rfl dX8_readOne_122 ?_
      refine lv_bipush (v := 17) hx hb dX8_readOne_125 (by decide) ?_
      obtain ⟨σ6, hc, hf⟩ := bd_e hf
      refine zcalv hw (va_runV (As := [.int 17]) (rest := []) E.fix (c_X9_addCode (l := l) hA 17 σ hc) (zcV E k4_8 k1_3 k4_5 k4_6 k4_7 mf_X9_addCode rfl rfl ⟨by dsimp only; omega, by dsimp only; omega⟩) (zPreV E hw (Nat.le_of_ble_eq_true rfl) (ceC_71 ad cy _) rfl _) rfl rfl hl.1 rfl (lv_room (Nat.le_of_ble_eq_true rfl)) dX8_readOne_127 ⟨Nat.zero_le _, Nat.zero_le _⟩) (fun H locs hw => ?_)
      exact zretv E hw hr hlk (rt_1 hf) dX8_readOne_130
  have hB92 : ∀ (xq2 : Int32) (σ : Sg) (H : Heap) (locs : List Loc) (ls : Array Slot), ZS D 97 (celC ad cy) ad A s σ H locs → lv_has ls 4 [(0, .ref (ad 67)), (2, .int xq2)] → f_X8_readOne_b92 rec xq2 σ = some σ9 → W p l e ({ frames := 3 + 3 * d, cells := 0, slots := 0, locals := 67 + 67 * d } : Room) s m args below meth c H locs 0 0 (MQ below (zQv D 97 (celC ad cy) ad A σ9) args s 0 0 A) (F0 m 92 ls []) := by
    intro xq2 σ H locs ls hw hl hf
    unfold f_X8_readOne_b92 at hf
    refine lv_aload_n hx hb dX8_readOne_92 rfl (lv_at hl 0 rfl) ?_
    refine lv_aload_n hx hb dX8_readOne_93 rfl (lv_at hl 0 rfl) ?_
    obtain ⟨vq9, hc, hf⟩ := bd_e hf
    refine zcali hw (va_runV (As := []) (rest := [.ref (ad 67)]) E.fix (c_X8_token (l := l) hA σ hc) (zcV E k3_217 k1_2 k3_214 k3_216 kp1_13 mf_X8_token rfl rfl ⟨by dsimp only; omega, by dsimp only; omega⟩) (zPreV E hw (Nat.le_of_ble_eq_true rfl) (ceC_67 ad cy _) rfl _) rfl rfl hl.1 rfl (lv_room (Nat.le_of_ble_eq_true rfl)) dX8_readOne_94 ⟨Nat.zero_le _, Nat.zero_le _⟩) (fun H locs hw => ?_)
    refine lv_bipush (v := 22) hx hb dX8_readOne_97 (by decide) ?_
    refine lv_icmp_ne (tgt := 106) hx hb dX8_readOne_99 (by decide) (fun h => ?_) (fun h => ?_)
    · replace hf := it_t h hf
      refine lv_iconst (v := 0) hx hb dX8_readOne_106 (by decide) ?_
      obtain ⟨σ10, hc, hf⟩ := bd_e hf
      refine zcalv hw (va_runV (As := [.int 0]) (rest := []) E.fix (c_X8_pass (l := l) hA 0 σ hc) (zcV E k3_225 k1_2 k3_222 k3_224 kp1_15 mf_X8_pass rfl rfl ⟨by dsimp only; omega, by dsimp only; omega⟩) (zPreV E hw (Nat.le_of_ble_eq_true rfl) (ceC_67 ad cy _) rfl _) rfl rfl hl.1 rfl (lv_room (Nat.le_of_ble_eq_true rfl)) dX8_readOne_107 ⟨Nat.zero_le _, Nat.zero_le _⟩) (fun H locs hw => ?_)
      refine lv_goto (tgt := 117) hx hb dX8_readOne_110 (by decide) ?_
      exact hB117 xq2 σ10 _ _ _ hw (lv_sub hl [0, 1] rfl) hf
    · replace hf := it_n h hf
      refine lv_iconst (v := 1) hx hb dX8_readOne_102 (by decide) ?_
      refine lv_goto (tgt := 107) hx hb dX8_readOne_103 (by decide) ?_
      obtain ⟨σ11, hc, hf⟩ := bd_e hf
      refine zcalv hw (va_runV (As := [.int 1]) (rest := []) E.fix (c_X8_pass (l := l) hA 1 σ hc) (zcV E k3_225 k1_2 k3_222 k3_224 kp1_15 mf_X8_pass rfl rfl ⟨by dsimp only; omega, by dsimp only; omega⟩) (zPreV E hw (Nat.le_of_ble_eq_true rfl) (ceC_67 ad cy _) rfl _) rfl rfl hl.1 rfl (lv_room (Nat.le_of_ble_eq_true rfl)) dX8_readOne_107 ⟨Nat.zero_le _, Nat.zero_le _⟩) (fun H locs hw => ?_)
      refine lv_goto (tgt := 117) hx hb dX8_readOne_110 (by decide) ?_
      exact hB117 xq2 σ11 _ _ _ hw (lv_sub hl [0, 1] rfl) hf
  have hB75 : ∀ (xq1 : Int32) (xq2 : Int32) (tq1 : Int32) (σ : Sg) (H : Heap) (locs : List Loc) (ls : Array Slot), ZS D 97 (celC ad cy) ad A s σ H locs → lv_has ls 4 [(0, .ref (ad 67)), (1, .int xq1), (2, .int xq2)] → f_X8_readOne_b75 rec xq1 xq2 tq1 σ = some σ9 → W p l e ({ frames := 3 + 3 * d, cells := 0, slots := 0, locals := 67 + 67 * d } : Room) s m args below meth c H locs 0 0 (MQ below (zQv D 97 (celC ad cy) ad A σ9) args s 0 0 A) (F0 m 75 ls [.int tq1, .ref (ad 67)]) := by
    intro xq1 xq2 tq1 σ H locs ls hw hl hf
    unfold f_X8_readOne_b75 at hf
    obtain ⟨σ7, hc, hf⟩ := bd_e hf
    refine zcalv hw (va_runV (As := [.int tq1]) (rest := []) E.fix (c_X8_pass (l := l) hA tq1 σ hc) (zcV E k3_225 k1_2 k3_222 k3_224 kp1_15 mf_X8_pass rfl rfl ⟨by dsimp only; omega, by dsimp only; omega⟩) (zPreV E hw (Nat.le_of_ble_eq_true rfl) (ceC_67 ad cy _) rfl _) rfl rfl hl.1 rfl (lv_room (Nat.le_of_ble_eq_true rfl)) dX8_readOne_75 ⟨Nat.zero_le _, Nat.zero_le _⟩) (fun H locs hw => ?_)
    refine lv_aload_n hx hb dX8_readOne_78 rfl (lv_at hl 0 rfl) ?_
    refine zcali hw (va_runV (As := []) (rest := []) E.fix (c_X8_isStill (l := l) hA σ7 rfl) (zcV E k3_213 k1_2 k3_210 k3_212 kp1_12 mf_X8_isStill rfl rfl ⟨by dsimp only; omega, by dsimp only; omega⟩) (zPreV E hw (Nat.le_of_ble_eq_true rfl) (ceC_67 ad cy _) rfl _) rfl rfl hl.1 rfl (lv_room (Nat.le_of_ble_eq_true rfl)) dX8_readOne_79 ⟨Nat.zero_le _, Nat.zero_le _⟩) (fun H locs hw => ?_)
    refine lv_if_eq (tgt := 92) hx hb dX8_readOne_82 (by decide) (fun h => ?_) (fun h => ?_)
    · replace hf := it_f (b2i_0 h) hf
      exact hB92 xq2 σ7 _ _ _ hw (lv_sub hl [0, 2] rfl) hf
    · replace hf := it_t (b2i_n h) hf
      refine lv_aload_n hx hb dX8_readOne_85 rfl (lv_at hl 0 rfl) ?_
      refine lv_iload_n hx hb dX8_readOne_86 rfl (lv_at hl 1 rfl) ?_
      refine lv_iconst (v := 1) hx hb dX8_readOne_87 (by decide) ?_
      refine lv_iadd hx hb dX8_readOne_88 ?_
      obtain ⟨σ8, hc, hf⟩ := bd_e hf
      refine zcalv hw (va_runV (As := [.int (xq1 + 1)]) (rest := []) E.fix (hrec (xq1 + 1) σ7 hc) (zcV E k3_229 k1_2 k3_226 k3_228 kp2_0 mf_X8_readAny rfl rfl ⟨by dsimp only; omega, by dsimp only; omega⟩) (zPreV E hw (Nat.le_of_ble_eq_true rfl) (ceC_67 ad cy _) rfl _) rfl rfl hl.1 rfl (lv_room (Nat.le_of_ble_eq_true rfl)) dX8_readOne_89 ⟨Nat.zero_le _, Nat.zero_le _⟩) (fun H locs hw => ?_)
      exact hB92 xq2 σ8 _ _ _ hw (lv_sub hl [0, 2] rfl) hf
  have hB48 : ∀ (xq1 : Int32) (xq2 : Int32) (σ : Sg) (H : Heap) (locs : List Loc) (ls : Array Slot), ZS D 97 (celC ad cy) ad A s σ H locs → lv_has ls 4 [(0, .ref (ad 67)), (1, .int xq1), (2, .int xq2)] → f_X8_readOne_b48 rec xq1 xq2 σ = some σ9 → W p l e ({ frames := 3 + 3 * d, cells := 0, slots := 0, locals := 67 + 67 * d } : Room) s m args below meth c H locs 0 0 (MQ below (zQv D 97 (celC ad cy) ad A σ9) args s 0 0 A) (F0 m 48 ls []) := by
    intro xq1 xq2 σ H locs ls hw hl hf
    unfold f_X8_readOne_b48 at hf
    refine lv_aload_n hx hb dX8_readOne_48 rfl (lv_at hl 0 rfl) ?_
    refine zcali hw (va_runV (As := []) (rest := []) E.fix (c_X8_isStill (l := l) hA σ rfl) (zcV E k3_213 k1_2 k3_210 k3_212 kp1_12 mf_X8_isStill rfl rfl ⟨by dsimp only; omega, by dsimp only; omega⟩) (zPreV E hw (Nat.le_of_ble_eq_true rfl) (ceC_67 ad cy _) rfl _) rfl rfl hl.1 rfl (lv_room (Nat.le_of_ble_eq_true rfl)) dX8_readOne_49 ⟨Nat.zero_le _, Nat.zero_le _⟩) (fun H locs hw => ?_)
    refine lv_if_eq (tgt := 113) hx hb dX8_readOne_52 (by decide) (fun h => ?_) (fun h => ?_)
    · replace hf := it_f (b2i_0 h) hf
      refine lv_aload_n hx hb dX8_readOne_113 rfl (lv_at hl 0 rfl) ?_
      obtain ⟨σ3, hc, hf⟩ := bd_e hf
      refine zcalv hw (va_runV (As := []) (rest := []) E.fix (c_X8_readComparison (l := l) hA σ hc) (zcV E k4_1 k1_2 k3_238 k4_0 kp2_3 mf_X8_readComparison rfl rfl ⟨by dsimp only; omega, by dsimp only; omega⟩) (zPreV E hw (Nat.le_of_ble_eq_true rfl) (ceC_67 ad cy _) rfl _) rfl rfl hl.1 rfl (lv_room (Nat.le_of_ble_eq_true rfl)) dX8_readOne_114 ⟨Nat.zero_le _, Nat.zero_le _⟩) (fun H locs hw => ?_)
      exact hB117 xq2 σ3 _ _ _ hw (lv_sub hl [0, 2] rfl) hf
    · replace hf := it_t (b2i_n h) hf
      refine lv_aload_n hx hb dX8_readOne_55 rfl (lv_at hl 0 rfl) ?_
      obtain ⟨vq4, hc, hf⟩ := bd_e hf
      refine zcali hw (va_runV (As := []) (rest := []) E.fix (c_X8_token (l := l) hA σ hc) (zcV E k3_217 k1_2 k3_214 k3_216 kp1_13 mf_X8_token rfl rfl ⟨by dsimp only; omega, by dsimp only; omega⟩) (zPreV E hw (Nat.le_of_ble_eq_true rfl) (ceC_67 ad cy _) rfl _) rfl rfl hl.1 rfl (lv_room (Nat.le_of_ble_eq_true rfl)) dX8_readOne_56 ⟨Nat.zero_le _, Nat.zero_le _⟩) (fun H locs hw => ?_)
      refine lv_bipush (v := 21) hx hb dX8_readOne_59 (by decide) ?_
      refine lv_icmp_ne (tgt := 113) hx hb dX8_readOne_61 (by decide) (fun h => ?_) (fun h => ?_)
      · replace hf := it_t h hf
        refine lv_aload_n hx hb dX8_readOne_113 rfl (lv_at hl 0 rfl) ?_
        obtain ⟨σ5, hc, hf⟩ := bd_e hf
        refine zcalv hw (va_runV (As := []) (rest := []) E.fix (c_X8_readComparison (l := l) hA σ hc) (zcV E k4_1 k1_2 k3_238 k4_0 kp2_3 mf_X8_readComparison rfl rfl ⟨by dsimp only; omega, by dsimp only; omega⟩) (zPreV E hw (Nat.le_of_ble_eq_true rfl) (ceC_67 ad cy _) rfl _) rfl rfl hl.1 rfl (lv_room (Nat.le_of_ble_eq_true rfl)) dX8_readOne_114 ⟨Nat.zero_le _, Nat.zero_le _⟩) (fun H locs hw => ?_)
        exact hB117 xq2 σ5 _ _ _ hw (lv_sub hl [0, 2] rfl) hf
      · replace hf := it_n h hf
        refine lv_aload_n hx hb dX8_readOne_64 rfl (lv_at hl 0 rfl) ?_
        refine lv_iload_n hx hb dX8_readOne_65 rfl (lv_at hl 1 rfl) ?_
        refine lv_iconst (v := 3) hx hb dX8_readOne_66 (by decide) ?_
        refine lv_icmp_ge (tgt := 74) hx hb dX8_readOne_67 (by decide) (fun h => ?_) (fun h => ?_)
        · replace hf := it_t h hf
          refine lv_iconst (v := 0) hx hb dX8_readOne_74 (by decide) ?_
          exact hB75 xq1 xq2 0 σ _ _ _ hw (lv_sub hl [0, 1, 2] rfl) hf
        · replace hf := it_f h hf
          refine lv_iconst (v := 1) hx hb dX8_readOne_70 (by decide) ?_
          refine lv_goto (tgt := 75) hx hb dX8_readOne_71 (by decide) ?_
          exact hB75 xq1 xq2 1 σ _ _ _ hw (lv_sub hl [0, 1, 2] rfl) hf
  have hB4 : ∀ (xq1 : Int32) (kq4 : Int32 → Int32 → Sg → Option Sg) (hkq4 : ∀ (xq2 : Int32) (xq3 : Int32) (σ : Sg) (H : Heap) (locs : List Loc) (ls : Array Slot), ZS D 97 (celC ad cy) ad A s σ H locs → lv_has ls 4 [(0, .ref (ad 67)), (1, .int xq1), (2, .int xq2), (3, .int xq3)] → kq4 xq2 xq3 σ = some σ9 → W p l e ({ frames := 3 + 3 * d, cells := 0, slots := 0, locals := 67 + 67 * d } : Room) s m args below meth c H locs 0 0 (MQ below (zQv D 97 (celC ad cy) ad A σ9) args s 0 0 A) (F0 m 4 ls [])) (xq2 : Int32) (xq3 : Int32) (σ : Sg) (H : Heap) (locs : List Loc) (ls : Array Slot), ZS D 97 (celC ad cy) ad A s σ H locs → lv_has ls 4 [(0, .ref (ad 67)), (1, .int xq1), (2, .int xq2), (3, .int xq3)] → f_X8_readOne_b4 rec kq4 xq1 xq2 xq3 σ = some σ9 → W p l e ({ frames := 3 + 3 * d, cells := 0, slots := 0, locals := 67 + 67 * d } : Room) s m args below meth c H locs 0 0 (MQ below (zQv D 97 (celC ad cy) ad A σ9) args s 0 0 A) (F0 m 4 ls []) := by
    intro xq1 kq4 hkq4 xq2 xq3 σ H locs ls hw hl hf
    unfold f_X8_readOne_b4 at hf
    refine lv_iload_n hx hb dX8_readOne_4 rfl (lv_at hl 3 rfl) ?_
    refine lv_sipush (v := 200) hx hb dX8_readOne_5 (by decide) ?_
    refine lv_icmp_ge (tgt := 48) hx hb dX8_readOne_8 (by decide) (fun h => ?_) (fun h => ?_)
    · replace hf := it_t h hf
      exact hB48 xq1 xq2 σ _ _ _ hw (lv_sub hl [0, 1, 2] rfl) hf
    · replace hf := it_f h hf
      refine lv_aload_n hx hb dX8_readOne_11 rfl (lv_at hl 0 rfl) ?_
      refine zcali hw (va_runV (As := []) (rest := []) E.fix (c_X8_isStill (l := l) hA σ rfl) (zcV E k3_213 k1_2 k3_210 k3_212 kp1_12 mf_X8_isStill rfl rfl ⟨by dsimp only; omega, by dsimp only; omega⟩) (zPreV E hw (Nat.le_of_ble_eq_true rfl) (ceC_67 ad cy _) rfl _) rfl rfl hl.1 rfl (lv_room (Nat.le_of_ble_eq_true rfl)) dX8_readOne_12 ⟨Nat.zero_le _, Nat.zero_le _⟩) (fun H locs hw => ?_)
      refine lv_if_eq (tgt := 48) hx hb dX8_readOne_15 (by decide) (fun h => ?_) (fun h => ?_)
      · replace hf := it_f (b2i_0 h) hf
        exact hB48 xq1 xq2 σ _ _ _ hw (lv_sub hl [0, 1, 2] rfl) hf
      · replace hf := it_t (b2i_n h) hf
        refine lv_aload_n hx hb dX8_readOne_18 rfl (lv_at hl 0 rfl) ?_
        obtain ⟨vq1, hc, hf⟩ := bd_e hf
        refine zcali hw (va_runV (As := []) (rest := []) E.fix (c_X8_token (l := l) hA σ hc) (zcV E k3_217 k1_2 k3_214 k3_216 kp1_13 mf_X8_token rfl rfl ⟨by dsimp only; omega, by dsimp only; omega⟩) (zPreV E hw (Nat.le_of_ble_eq_true rfl) (ceC_67 ad cy _) rfl _) rfl rfl hl.1 rfl (lv_room (Nat.le_of_ble_eq_true rfl)) dX8_readOne_19 ⟨Nat.zero_le _, Nat.zero_le _⟩) (fun H locs hw => ?_)
        refine lv_bipush (v := 17) hx hb dX8_readOne_22 (by decide) ?_
        refine lv_icmp_ne (tgt := 48) hx hb dX8_readOne_24 (by decide) (fun h => ?_) (fun h => ?_)
        · replace hf := it_t h hf
          exact hB48 xq1 xq2 σ _ _ _ hw (lv_sub hl [0, 1, 2] rfl) hf
        · replace hf := it_n h hf
          refine lv_aload_n hx hb dX8_readOne_27 rfl (lv_at hl 0 rfl) ?_
          refine lv_iconst (v := 1) hx hb dX8_readOne_28 (by decide) ?_
          obtain ⟨σ2, hc, hf⟩ := bd_e hf
          refine zcalv hw (va_runV (As := [.int 1]) (rest := []) E.fix (c_X8_pass (l := l) hA 1 σ hc) (zcV E k3_225 k1_2 k3_222 k3_224 kp1_15 mf_X8_pass rfl rfl ⟨by dsimp only; omega, by dsimp only; omega⟩) (zPreV E hw (Nat.le_of_ble_eq_true rfl) (ceC_67 ad cy _) rfl _) rfl rfl hl.1 rfl (lv_room (Nat.le_of_ble_eq_true rfl)) dX8_readOne_29 ⟨Nat.zero_le _, Nat.zero_le _⟩) (fun H locs hw => ?_)
          refine lv_iload_n hx hb dX8_readOne_32 rfl (lv_at hl 2 rfl) ?_
          refine lv_if_ne (tgt := 40) hx hb dX8_readOne_33 (by decide) (fun h => ?_) (fun h => ?_)
          · replace hf := it_t h hf
            refine lv_iconst (v := 0) hx hb dX8_readOne_40 (by decide) ?_
            refine lv_istore_n (lv' := [(2, .int 0), (0, .ref (ad 67)), (1, .int xq1), (3, .int xq3)]) hx hb dX8_readOne_41 rfl hl (by decide) rfl (fun ls hl => ?_)
            refine lv_iinc (v := (xq3 + 1)) (lv' := [(3, .int (xq3 + 1)), (2, .int 0), (0, .ref (ad 67)), (1, .int xq1)]) hx hb dX8_readOne_42 hl (k := 3) rfl (by rfl) (by decide) rfl (fun ls hl => ?_)
            refine lv_goto (tgt := 4) hx hb dX8_readOne_45 (by decide) ?_
            exact hkq4 0 (xq3 + 1) σ2 _ _ _ hw (lv_sub hl [2, 3, 1, 0] rfl) hf
          · replace hf := it_n h hf
            refine lv_iconst (v := 1) hx hb dX8_readOne_36 (by decide) ?_
            refine lv_goto (tgt := 41) hx hb dX8_readOne_37 (by decide) ?_
            refine lv_istore_n (lv' := [(2, .int 1), (0, .ref (ad 67)), (1, .int xq1), (3, .int xq3)]) hx hb dX8_readOne_41 rfl hl (by decide) rfl (fun ls hl => ?_)
            refine lv_iinc (v := (xq3 + 1)) (lv' := [(3, .int (xq3 + 1)), (2, .int 1), (0, .ref (ad 67)), (1, .int xq1)]) hx hb dX8_readOne_42 hl (k := 3) rfl (by rfl) (by decide) rfl (fun ls hl => ?_)
            refine lv_goto (tgt := 4) hx hb dX8_readOne_45 (by decide) ?_
            exact hkq4 1 (xq3 + 1) σ2 _ _ _ hw (lv_sub hl [2, 3, 1, 0] rfl) hf
  have hL4 : ∀ (xq1 : Int32) (n : Nat) (xq2 : Int32) (xq3 : Int32) (σ : Sg) (H : Heap) (locs : List Loc) (ls : Array Slot), ZS D 97 (celC ad cy) ad A s σ H locs → lv_has ls 4 [(0, .ref (ad 67)), (1, .int xq1), (2, .int xq2), (3, .int xq3)] → f_X8_readOne_l4 rec xq1 n xq2 xq3 σ = some σ9 → W p l e ({ frames := 3 + 3 * d, cells := 0, slots := 0, locals := 67 + 67 * d } : Room) s m args below meth c H locs 0 0 (MQ below (zQv D 97 (celC ad cy) ad A σ9) args s 0 0 A) (F0 m 4 ls []) := by
    intro xq1 n
    induction n with
    | zero =>
      intro xq2 xq3 σ H locs ls hw hl hf
      exact nn_e hf
    | succ n ih =>
      intro xq2 xq3 σ H locs ls hw hl hf
      exact hB4 xq1 (f_X8_readOne_l4 rec xq1 n) ih xq2 xq3 σ H locs ls hw hl hf
  unfold f_X8_readOne at hf
  refine lv_iconst (v := 0) hx hb dX8_readOne_0 (by decide) ?_
  refine lv_istore_n (lv' := [(2, .int 0), (0, .ref (ad 67)), (1, .int xq1)]) hx hb dX8_readOne_1 rfl hl (by decide) rfl (fun ls hl => ?_)
  refine lv_iconst (v := 0) hx hb dX8_readOne_2 (by decide) ?_
  refine lv_istore_n (lv' := [(3, .int 0), (2, .int 0), (0, .ref (ad 67)), (1, .int xq1)]) hx hb dX8_readOne_3 rfl hl (by decide) rfl (fun ls hl => ?_)
  exact hL4 xq1 400 0 0 σ _ _ _ hw (lv_sub hl [2, 3, 1, 0] rfl) hf
set_option maxRecDepth 100000 in
set_option maxHeartbeats 4000000 in
theorem c_X8_readAll {l : Launch} {D : va_G} {cy : Cy} {ad : Nat → Nat} {A : Nat → Prop} (hA : okAd 97 ad A) (rec : Int32 → Sg → Option Sg) (d : Nat) (hrec : ∀ (xq1 : Int32) (σ : Sg) {σ9 : Sg}, rec xq1 σ = some σ9 → Met l yX8_readAny (.code yX8_readAny cX8_readAny 3 none :: TT) ({ frames := 2 + 3 * d, cells := 0, slots := 0, locals := 45 + 67 * d } : Room) (zPc D cy 97 (celC ad cy) ad A [.ref (ad 67), .int xq1] σ) (zQv D 97 (celC ad cy) ad A σ9) 0 0 A) (xq1 : Int32) (σ : Sg) {σ9 : Sg} (hf : f_X8_readAll rec xq1 σ = some σ9) : Met l yX8_readAll (.code yX8_readAll cX8_readAll 3 none :: TT) ({ frames := 4 + 3 * d, cells := 0, slots := 0, locals := 90 + 67 * d } : Room) (zPc D cy 97 (celC ad cy) ad A [.ref (ad 67), .int xq1] σ) (zQv D 97 (celC ad cy) ad A σ9) 0 0 A := by
  refine zofW (by decide) hA (Nat.le_of_ble_eq_true rfl) ?_
  intro p e s m args below meth c ls E hw hr hlk hl
  have E : ZE p s m args c cX8_readAll 3 "KiteSummons$RuleReader" D cy 97 ad A := E
  have hx := E.hx
  have hb := E.hb
  have hl : lv_has ls 3 [(0, .ref (ad 67)), (1, .int xq1)] := hl
  have hB7 : ∀ (xq1 : Int32) (kq7 : Int32 → Sg → Option Sg) (hkq7 : ∀ (xq2 : Int32) (σ : Sg) (H : Heap) (locs : List Loc) (ls : Array Slot), ZS D 97 (celC ad cy) ad A s σ H locs → lv_has ls 3 [(0, .ref (ad 67)), (1, .int xq1), (2, .int xq2)] → kq7 xq2 σ = some σ9 → W p l e ({ frames := 4 + 3 * d, cells := 0, slots := 0, locals := 90 + 67 * d } : Room) s m args below meth c H locs 0 0 (MQ below (zQv D 97 (celC ad cy) ad A σ9) args s 0 0 A) (F0 m 7 ls [])) (xq2 : Int32) (σ : Sg) (H : Heap) (locs : List Loc) (ls : Array Slot), ZS D 97 (celC ad cy) ad A s σ H locs → lv_has ls 3 [(0, .ref (ad 67)), (1, .int xq1), (2, .int xq2)] → f_X8_readAll_b7 rec kq7 xq1 xq2 σ = some σ9 → W p l e ({ frames := 4 + 3 * d, cells := 0, slots := 0, locals := 90 + 67 * d } : Room) s m args below meth c H locs 0 0 (MQ below (zQv D 97 (celC ad cy) ad A σ9) args s 0 0 A) (F0 m 7 ls []) := by
    intro xq1 kq7 hkq7 xq2 σ H locs ls hw hl hf
    unfold f_X8_readAll_b7 at hf
    refine lv_iload_n hx hb dX8_readAll_7 rfl (lv_at hl 2 rfl) ?_
    refine lv_sipush (v := 200) hx hb dX8_readAll_8 (by decide) ?_
    refine lv_icmp_ge (tgt := 55) hx hb dX8_readAll_11 (by decide) (fun h => ?_) (fun h => ?_)
    · replace hf := it_t h hf
      exact zretv E hw hr hlk (rt_1 hf) dX8_readAll_55
    · replace hf := it_f h hf
      refine lv_aload_n hx hb dX8_readAll_14 rfl (lv_at hl 0 rfl) ?_
      refine zcali hw (va_runV (As := []) (rest := []) E.fix (c_X8_isStill (l := l) hA σ rfl) (zcV E k3_213 k1_2 k3_210 k3_212 kp1_12 mf_X8_isStill rfl rfl ⟨by dsimp only; omega, by dsimp only; omega⟩) (zPreV E hw (Nat.le_of_ble_eq_true rfl) (ceC_67 ad cy _) rfl _) rfl rfl hl.1 rfl (lv_room (Nat.le_of_ble_eq_true rfl)) dX8_readAll_15 ⟨Nat.zero_le _, Nat.zero_le _⟩) (fun H locs hw => ?_)
      refine lv_if_eq (tgt := 55) hx hb dX8_readAll_18 (by decide) (fun h => ?_) (fun h => ?_)
      · replace hf := it_f (b2i_0 h) hf
        exact zretv E hw hr hlk (rt_1 hf) dX8_readAll_55
      · replace hf := it_t (b2i_n h) hf
        refine lv_aload_n hx hb dX8_readAll_21 rfl (lv_at hl 0 rfl) ?_
        obtain ⟨vq2, hc, hf⟩ := bd_e hf
        refine zcali hw (va_runV (As := []) (rest := []) E.fix (c_X8_token (l := l) hA σ hc) (zcV E k3_217 k1_2 k3_214 k3_216 kp1_13 mf_X8_token rfl rfl ⟨by dsimp only; omega, by dsimp only; omega⟩) (zPreV E hw (Nat.le_of_ble_eq_true rfl) (ceC_67 ad cy _) rfl _) rfl rfl hl.1 rfl (lv_room (Nat.le_of_ble_eq_true rfl)) dX8_readAll_22 ⟨Nat.zero_le _, Nat.zero_le _⟩) (fun H locs hw => ?_)
        refine lv_bipush (v := 16) hx hb dX8_readAll_25 (by decide) ?_
        refine lv_icmp_ne (tgt := 55) hx hb dX8_readAll_27 (by decide) (fun h => ?_) (fun h => ?_)
        · replace hf := it_t h hf
          exact zretv E hw hr hlk (rt_1 hf) dX8_readAll_55
        · replace hf := it_n h hf
          refine lv_aload_n hx hb dX8_readAll_30 rfl (lv_at hl 0 rfl) ?_
          refine lv_iconst (v := 1) hx hb dX8_readAll_31 (by decide) ?_
          obtain ⟨σ3, hc, hf⟩ := bd_e hf
          refine zcalv hw (va_runV (As := [.int 1]) (rest := []) E.fix (c_X8_pass (l := l) hA 1 σ hc) (zcV E k3_225 k1_2 k3_222 k3_224 kp1_15 mf_X8_pass rfl rfl ⟨by dsimp only; omega, by dsimp only; omega⟩) (zPreV E hw (Nat.le_of_ble_eq_true rfl) (ceC_67 ad cy _) rfl _) rfl rfl hl.1 rfl (lv_room (Nat.le_of_ble_eq_true rfl)) dX8_readAll_32 ⟨Nat.zero_le _, Nat.zero_le _⟩) (fun H locs hw => ?_)
          refine lv_aload_n hx hb dX8_readAll_35 rfl (lv_at hl 0 rfl) ?_
          refine lv_iload_n hx hb dX8_readAll_36 rfl (lv_at hl 1 rfl) ?_
          obtain ⟨σ4, hc, hf⟩ := bd_e hf
          refine zcalv hw (va_runV (As := [.int xq1]) (rest := []) E.fix (c_X8_readOne (l := l) hA rec d hrec xq1 σ3 hc) (zcV E k3_237 k1_2 k3_234 k3_236 kp2_2 mf_X8_readOne rfl rfl ⟨by dsimp only; omega, by dsimp only; omega⟩) (zPreV E hw (Nat.le_of_ble_eq_true rfl) (ceC_67 ad cy _) rfl _) rfl rfl hl.1 rfl (lv_room (Nat.le_of_ble_eq_true rfl)) dX8_readAll_37 ⟨Nat.zero_le _, Nat.zero_le _⟩) (fun H locs hw => ?_)
          refine lv_aload_n hx hb dX8_readAll_40 rfl (lv_at hl 0 rfl) ?_
          refine zget E hw (Nat.le_of_ble_eq_true rfl) (ceC_67 ad cy _) rfl inX8 7 (by decide) k1_83 (fun _ h => h) rfl dX8_readAll_41 ?_
          refine lv_bipush (v := 16) hx hb dX8_readAll_44 (by decide) ?_
          obtain ⟨σ5, hc, hf⟩ := bd_e hf
          refine zcalv hw (va_runV (As := [.int 16]) (rest := []) E.fix (c_X9_addCode (l := l) hA 16 σ4 hc) (zcV E k4_8 k1_3 k4_5 k4_6 k4_7 mf_X9_addCode rfl rfl ⟨by dsimp only; omega, by dsimp only; omega⟩) (zPreV E hw (Nat.le_of_ble_eq_true rfl) (ceC_71 ad cy _) rfl _) rfl rfl hl.1 rfl (lv_room (Nat.le_of_ble_eq_true rfl)) dX8_readAll_46 ⟨Nat.zero_le _, Nat.zero_le _⟩) (fun H locs hw => ?_)
          refine lv_iinc (v := (xq2 + 1)) (lv' := [(2, .int (xq2 + 1)), (0, .ref (ad 67)), (1, .int xq1)]) hx hb dX8_readAll_49 hl (k := 2) rfl (by rfl) (by decide) rfl (fun ls hl => ?_)
          refine lv_goto (tgt := 7) hx hb dX8_readAll_52 (by decide) ?_
          exact hkq7 (xq2 + 1) σ5 _ _ _ hw (lv_sub hl [1, 2, 0] rfl) hf
  have hL7 : ∀ (xq1 : Int32) (n : Nat) (xq2 : Int32) (σ : Sg) (H : Heap) (locs : List Loc) (ls : Array Slot), ZS D 97 (celC ad cy) ad A s σ H locs → lv_has ls 3 [(0, .ref (ad 67)), (1, .int xq1), (2, .int xq2)] → f_X8_readAll_l7 rec xq1 n xq2 σ = some σ9 → W p l e ({ frames := 4 + 3 * d, cells := 0, slots := 0, locals := 90 + 67 * d } : Room) s m args below meth c H locs 0 0 (MQ below (zQv D 97 (celC ad cy) ad A σ9) args s 0 0 A) (F0 m 7 ls []) := by
    intro xq1 n
    induction n with
    | zero =>
      intro xq2 σ H locs ls hw hl hf
      exact nn_e hf
    | succ n ih =>
      intro xq2 σ H locs ls hw hl hf
      exact hB7 xq1 (f_X8_readAll_l7 rec xq1 n) ih xq2 σ H locs ls hw hl hf
  unfold f_X8_readAll at hf
  refine lv_aload_n hx hb dX8_readAll_0 rfl (lv_at hl 0 rfl) ?_
  refine lv_iload_n hx hb dX8_readAll_1 rfl (lv_at hl 1 rfl) ?_
  obtain ⟨σ1, hc, hf⟩ := bd_e hf
  refine zcalv hw (va_runV (As := [.int xq1]) (rest := []) E.fix (c_X8_readOne (l := l) hA rec d hrec xq1 σ hc) (zcV E k3_237 k1_2 k3_234 k3_236 kp2_2 mf_X8_readOne rfl rfl ⟨by dsimp only; omega, by dsimp only; omega⟩) (zPreV E hw (Nat.le_of_ble_eq_true rfl) (ceC_67 ad cy _) rfl _) rfl rfl hl.1 rfl (lv_room (Nat.le_of_ble_eq_true rfl)) dX8_readAll_2 ⟨Nat.zero_le _, Nat.zero_le _⟩) (fun H locs hw => ?_)
  refine lv_iconst (v := 0) hx hb dX8_readAll_5 (by decide) ?_
  refine lv_istore_n (lv' := [(2, .int 0), (0, .ref (ad 67)), (1, .int xq1)]) hx hb dX8_readAll_6 rfl hl (by decide) rfl (fun ls hl => ?_)
  exact hL7 xq1 400 0 σ1 _ _ _ hw (lv_sub hl [1, 2, 0] rfl) hf
set_option maxRecDepth 100000 in
set_option maxHeartbeats 4000000 in
theorem c_X8_readAny_s {l : Launch} {D : va_G} {cy : Cy} {ad : Nat → Nat} {A : Nat → Prop} (hA : okAd 97 ad A) (rec : Int32 → Sg → Option Sg) (d : Nat) (hrec : ∀ (xq1 : Int32) (σ : Sg) {σ9 : Sg}, rec xq1 σ = some σ9 → Met l yX8_readAny (.code yX8_readAny cX8_readAny 3 none :: TT) ({ frames := 2 + 3 * d, cells := 0, slots := 0, locals := 45 + 67 * d } : Room) (zPc D cy 97 (celC ad cy) ad A [.ref (ad 67), .int xq1] σ) (zQv D 97 (celC ad cy) ad A σ9) 0 0 A) (xq1 : Int32) (σ : Sg) {σ9 : Sg} (hf : f_X8_readAny_s rec xq1 σ = some σ9) : Met l yX8_readAny (.code yX8_readAny cX8_readAny 3 none :: TT) ({ frames := 2 + 3 * (d + 1), cells := 0, slots := 0, locals := 45 + 67 * (d + 1) } : Room) (zPc D cy 97 (celC ad cy) ad A [.ref (ad 67), .int xq1] σ) (zQv D 97 (celC ad cy) ad A σ9) 0 0 A := by
  refine zofW (by decide) hA (Nat.le_of_ble_eq_true rfl) ?_
  intro p e s m args below meth c ls E hw hr hlk hl
  have E : ZE p s m args c cX8_readAny 3 "KiteSummons$RuleReader" D cy 97 ad A := E
  have hx := E.hx
  have hb := E.hb
  have hl : lv_has ls 3 [(0, .ref (ad 67)), (1, .int xq1)] := hl
  have hB7 : ∀ (xq1 : Int32) (kq7 : Int32 → Sg → Option Sg) (hkq7 : ∀ (xq2 : Int32) (σ : Sg) (H : Heap) (locs : List Loc) (ls : Array Slot), ZS D 97 (celC ad cy) ad A s σ H locs → lv_has ls 3 [(0, .ref (ad 67)), (1, .int xq1), (2, .int xq2)] → kq7 xq2 σ = some σ9 → W p l e ({ frames := 2 + 3 * (d + 1), cells := 0, slots := 0, locals := 45 + 67 * (d + 1) } : Room) s m args below meth c H locs 0 0 (MQ below (zQv D 97 (celC ad cy) ad A σ9) args s 0 0 A) (F0 m 7 ls [])) (xq2 : Int32) (σ : Sg) (H : Heap) (locs : List Loc) (ls : Array Slot), ZS D 97 (celC ad cy) ad A s σ H locs → lv_has ls 3 [(0, .ref (ad 67)), (1, .int xq1), (2, .int xq2)] → f_X8_readAny_b7 rec kq7 xq1 xq2 σ = some σ9 → W p l e ({ frames := 2 + 3 * (d + 1), cells := 0, slots := 0, locals := 45 + 67 * (d + 1) } : Room) s m args below meth c H locs 0 0 (MQ below (zQv D 97 (celC ad cy) ad A σ9) args s 0 0 A) (F0 m 7 ls []) := by
    intro xq1 kq7 hkq7 xq2 σ H locs ls hw hl hf
    unfold f_X8_readAny_b7 at hf
    refine lv_iload_n hx hb dX8_readAny_7 rfl (lv_at hl 2 rfl) ?_
    refine lv_sipush (v := 200) hx hb dX8_readAny_8 (by decide) ?_
    refine lv_icmp_ge (tgt := 55) hx hb dX8_readAny_11 (by decide) (fun h => ?_) (fun h => ?_)
    · replace hf := it_t h hf
      exact zretv E hw hr hlk (rt_1 hf) dX8_readAny_55
    · replace hf := it_f h hf
      refine lv_aload_n hx hb dX8_readAny_14 rfl (lv_at hl 0 rfl) ?_
      refine zcali hw (va_runV (As := []) (rest := []) E.fix (c_X8_isStill (l := l) hA σ rfl) (zcV E k3_213 k1_2 k3_210 k3_212 kp1_12 mf_X8_isStill rfl rfl ⟨by dsimp only; omega, by dsimp only; omega⟩) (zPreV E hw (Nat.le_of_ble_eq_true rfl) (ceC_67 ad cy _) rfl _) rfl rfl hl.1 rfl (lv_room (Nat.le_of_ble_eq_true rfl)) dX8_readAny_15 ⟨Nat.zero_le _, Nat.zero_le _⟩) (fun H locs hw => ?_)
      refine lv_if_eq (tgt := 55) hx hb dX8_readAny_18 (by decide) (fun h => ?_) (fun h => ?_)
      · replace hf := it_f (b2i_0 h) hf
        exact zretv E hw hr hlk (rt_1 hf) dX8_readAny_55
      · replace hf := it_t (b2i_n h) hf
        refine lv_aload_n hx hb dX8_readAny_21 rfl (lv_at hl 0 rfl) ?_
        obtain ⟨vq2, hc, hf⟩ := bd_e hf
        refine zcali hw (va_runV (As := []) (rest := []) E.fix (c_X8_token (l := l) hA σ hc) (zcV E k3_217 k1_2 k3_214 k3_216 kp1_13 mf_X8_token rfl rfl ⟨by dsimp only; omega, by dsimp only; omega⟩) (zPreV E hw (Nat.le_of_ble_eq_true rfl) (ceC_67 ad cy _) rfl _) rfl rfl hl.1 rfl (lv_room (Nat.le_of_ble_eq_true rfl)) dX8_readAny_22 ⟨Nat.zero_le _, Nat.zero_le _⟩) (fun H locs hw => ?_)
        refine lv_bipush (v := 15) hx hb dX8_readAny_25 (by decide) ?_
        refine lv_icmp_ne (tgt := 55) hx hb dX8_readAny_27 (by decide) (fun h => ?_) (fun h => ?_)
        · replace hf := it_t h hf
          exact zretv E hw hr hlk (rt_1 hf) dX8_readAny_55
        · replace hf := it_n h hf
          refine lv_aload_n hx hb dX8_readAny_30 rfl (lv_at hl 0 rfl) ?_
          refine lv_iconst (v := 1) hx hb dX8_readAny_31 (by decide) ?_
          obtain ⟨σ3, hc, hf⟩ := bd_e hf
          refine zcalv hw (va_runV (As := [.int 1]) (rest := []) E.fix (c_X8_pass (l := l) hA 1 σ hc) (zcV E k3_225 k1_2 k3_222 k3_224 kp1_15 mf_X8_pass rfl rfl ⟨by dsimp only; omega, by dsimp only; omega⟩) (zPreV E hw (Nat.le_of_ble_eq_true rfl) (ceC_67 ad cy _) rfl _) rfl rfl hl.1 rfl (lv_room (Nat.le_of_ble_eq_true rfl)) dX8_readAny_32 ⟨Nat.zero_le _, Nat.zero_le _⟩) (fun H locs hw => ?_)
          refine lv_aload_n hx hb dX8_readAny_35 rfl (lv_at hl 0 rfl) ?_
          refine lv_iload_n hx hb dX8_readAny_36 rfl (lv_at hl 1 rfl) ?_
          obtain ⟨σ4, hc, hf⟩ := bd_e hf
          refine zcalv hw (va_runV (As := [.int xq1]) (rest := []) E.fix (c_X8_readAll (l := l) hA rec d hrec xq1 σ3 hc) (zcV E k3_233 k1_2 k3_230 k3_232 kp2_1 mf_X8_readAll rfl rfl ⟨by dsimp only; omega, by dsimp only; omega⟩) (zPreV E hw (Nat.le_of_ble_eq_true rfl) (ceC_67 ad cy _) rfl _) rfl rfl hl.1 rfl (lv_room (Nat.le_of_ble_eq_true rfl)) dX8_readAny_37 ⟨Nat.zero_le _, Nat.zero_le _⟩) (fun H locs hw => ?_)
          refine lv_aload_n hx hb dX8_readAny_40 rfl (lv_at hl 0 rfl) ?_
          refine zget E hw (Nat.le_of_ble_eq_true rfl) (ceC_67 ad cy _) rfl inX8 7 (by decide) k1_83 (fun _ h => h) rfl dX8_readAny_41 ?_
          refine lv_bipush (v := 15) hx hb dX8_readAny_44 (by decide) ?_
          obtain ⟨σ5, hc, hf⟩ := bd_e hf
          refine zcalv hw (va_runV (As := [.int 15]) (rest := []) E.fix (c_X9_addCode (l := l) hA 15 σ4 hc) (zcV E k4_8 k1_3 k4_5 k4_6 k4_7 mf_X9_addCode rfl rfl ⟨by dsimp only; omega, by dsimp only; omega⟩) (zPreV E hw (Nat.le_of_ble_eq_true rfl) (ceC_71 ad cy _) rfl _) rfl rfl hl.1 rfl (lv_room (Nat.le_of_ble_eq_true rfl)) dX8_readAny_46 ⟨Nat.zero_le _, Nat.zero_le _⟩) (fun H locs hw => ?_)
          refine lv_iinc (v := (xq2 + 1)) (lv' := [(2, .int (xq2 + 1)), (0, .ref (ad 67)), (1, .int xq1)]) hx hb dX8_readAny_49 hl (k := 2) rfl (by rfl) (by decide) rfl (fun ls hl => ?_)
          refine lv_goto (tgt := 7) hx hb dX8_readAny_52 (by decide) ?_
          exact hkq7 (xq2 + 1) σ5 _ _ _ hw (lv_sub hl [1, 2, 0] rfl) hf
  have hL7 : ∀ (xq1 : Int32) (n : Nat) (xq2 : Int32) (σ : Sg) (H : Heap) (locs : List Loc) (ls : Array Slot), ZS D 97 (celC ad cy) ad A s σ H locs → lv_has ls 3 [(0, .ref (ad 67)), (1, .int xq1), (2, .int xq2)] → f_X8_readAny_l7 rec xq1 n xq2 σ = some σ9 → W p l e ({ frames := 2 + 3 * (d + 1), cells := 0, slots := 0, locals := 45 + 67 * (d + 1) } : Room) s m args below meth c H locs 0 0 (MQ below (zQv D 97 (celC ad cy) ad A σ9) args s 0 0 A) (F0 m 7 ls []) := by
    intro xq1 n
    induction n with
    | zero =>
      intro xq2 σ H locs ls hw hl hf
      exact nn_e hf
    | succ n ih =>
      intro xq2 σ H locs ls hw hl hf
      exact hB7 xq1 (f_X8_readAny_l7 rec xq1 n) ih xq2 σ H locs ls hw hl hf
  unfold f_X8_readAny_s at hf
  refine lv_aload_n hx hb dX8_readAny_0 rfl (lv_at hl 0 rfl) ?_
  refine lv_iload_n hx hb dX8_readAny_1 rfl (lv_at hl 1 rfl) ?_
  obtain ⟨σ1, hc, hf⟩ := bd_e hf
  refine zcalv hw (va_runV (As := [.int xq1]) (rest := []) E.fix (c_X8_readAll (l := l) hA rec d hrec xq1 σ hc) (zcV E k3_233 k1_2 k3_230 k3_232 kp2_1 mf_X8_readAll rfl rfl ⟨by dsimp only; omega, by dsimp only; omega⟩) (zPreV E hw (Nat.le_of_ble_eq_true rfl) (ceC_67 ad cy _) rfl _) rfl rfl hl.1 rfl (lv_room (Nat.le_of_ble_eq_true rfl)) dX8_readAny_2 ⟨Nat.zero_le _, Nat.zero_le _⟩) (fun H locs hw => ?_)
  refine lv_iconst (v := 0) hx hb dX8_readAny_5 (by decide) ?_
  refine lv_istore_n (lv' := [(2, .int 0), (0, .ref (ad 67)), (1, .int xq1)]) hx hb dX8_readAny_6 rfl hl (by decide) rfl (fun ls hl => ?_)
  exact hL7 xq1 400 0 σ1 _ _ _ hw (lv_sub hl [1, 2, 0] rfl) hf
theorem c_X8_readAny {l : Launch} {D : va_G} {cy : Cy} {ad : Nat → Nat} {A : Nat → Prop} (hA : okAd 97 ad A) : ∀ (d : Nat) (xq1 : Int32) (σ : Sg) {σ9 : Sg}, f_X8_readAny d xq1 σ = some σ9 → Met l yX8_readAny (.code yX8_readAny cX8_readAny 3 none :: TT) ({ frames := 2 + 3 * d, cells := 0, slots := 0, locals := 45 + 67 * d } : Room) (zPc D cy 97 (celC ad cy) ad A [.ref (ad 67), .int xq1] σ) (zQv D 97 (celC ad cy) ad A σ9) 0 0 A := by
  intro d
  induction d with
  | zero =>
    intro xq1 σ σ9 hf
    exact nn_e hf
  | succ d ih =>
    intro xq1 σ σ9 hf
    exact c_X8_readAny_s hA (f_X8_readAny d) d ih xq1 σ hf
set_option maxRecDepth 100000 in
set_option maxHeartbeats 4000000 in
theorem c_X9_addRule {l : Launch} {D : va_G} {cy : Cy} {ad : Nat → Nat} {A : Nat → Prop} (hA : okAd 97 ad A) (xq1 : Int32) (xq2 : Int32) (xq3 : Int32) (σ : Sg) {σ9 : Sg} (hf : f_X9_addRule xq1 xq2 xq3 σ = some σ9) : Met l yX9_addRule (.code yX9_addRule cX9_addRule 4 none :: TT) ({ frames := 0, cells := 0, slots := 0, locals := 0 } : Room) (zPc D cy 97 (celC ad cy) ad A [.ref (ad 71), .int xq1, .int xq2, .int xq3] σ) (zQv D 97 (celC ad cy) ad A σ9) 0 0 A := by
  refine zofW (by decide) hA (Nat.le_of_ble_eq_true rfl) ?_
  intro p e s m args below meth c ls E hw hr hlk hl
  have E : ZE p s m args c cX9_addRule 4 "KiteSummons$Rules" D cy 97 ad A := E
  have hx := E.hx
  have hb := E.hb
  have hl : lv_has ls 4 [(0, .ref (ad 71)), (1, .int xq1), (2, .int xq2), (3, .int xq3)] := hl
  unfold f_X9_addRule at hf
  refine lv_aload_n hx hb dX9_addRule_0 rfl (lv_at hl 0 rfl) ?_
  refine zget E hw (Nat.le_of_ble_eq_true rfl) (ceC_71 ad cy _) rfl inX9 0 (by decide) k1_44 (fun _ h => h) rfl dX9_addRule_1 ?_
  refine lv_bipush (v := 8) hx hb dX9_addRule_4 (by decide) ?_
  refine lv_icmp_ge (tgt := 62) hx hb dX9_addRule_6 (by decide) (fun h => ?_) (fun h => ?_)
  · replace hf := it_t h hf
    exact zretv E hw hr hlk (rt_1 hf) dX9_addRule_62
  · replace hf := it_f h hf
    refine lv_aload_n hx hb dX9_addRule_9 rfl (lv_at hl 0 rfl) ?_
    refine zget E hw (Nat.le_of_ble_eq_true rfl) (ceC_71 ad cy _) rfl inX9 2 (by decide) k1_49 (fun _ h => h) rfl dX9_addRule_10 ?_
    refine lv_aload_n hx hb dX9_addRule_13 rfl (lv_at hl 0 rfl) ?_
    refine zget E hw (Nat.le_of_ble_eq_true rfl) (ceC_71 ad cy _) rfl inX9 0 (by decide) k1_44 (fun _ h => h) rfl dX9_addRule_14 ?_
    refine lv_iload_n hx hb dX9_addRule_17 rfl (lv_at hl 1 rfl) ?_
    obtain ⟨σ1, hσ1, hf⟩ := bd_e hf
    refine zastr E hw (Nat.le_of_ble_eq_true rfl) (ceC_72 ad cy) hσ1 dX9_addRule_18 (fun H locs hw => ?_)
    refine lv_aload_n hx hb dX9_addRule_19 rfl (lv_at hl 0 rfl) ?_
    refine zget E hw (Nat.le_of_ble_eq_true rfl) (ceC_71 ad cy _) rfl inX9 3 (by decide) k1_50 (fun _ h => h) rfl dX9_addRule_20 ?_
    refine lv_aload_n hx hb dX9_addRule_23 rfl (lv_at hl 0 rfl) ?_
    refine zget E hw (Nat.le_of_ble_eq_true rfl) (ceC_71 ad cy _) rfl inX9 0 (by decide) k1_44 (fun _ h => h) rfl dX9_addRule_24 ?_
    refine lv_iload_n hx hb dX9_addRule_27 rfl (lv_at hl 2 rfl) ?_
    obtain ⟨σ2, hσ2, hf⟩ := bd_e hf
    refine zastr E hw (Nat.le_of_ble_eq_true rfl) (ceC_73 ad cy) hσ2 dX9_addRule_28 (fun H locs hw => ?_)
    refine lv_aload_n hx hb dX9_addRule_29 rfl (lv_at hl 0 rfl) ?_
    refine zget E hw (Nat.le_of_ble_eq_true rfl) (ceC_71 ad cy _) rfl inX9 4 (by decide) k1_51 (fun _ h => h) rfl dX9_addRule_30 ?_
    refine lv_aload_n hx hb dX9_addRule_33 rfl (lv_at hl 0 rfl) ?_
    refine zget E hw (Nat.le_of_ble_eq_true rfl) (ceC_71 ad cy _) rfl inX9 0 (by decide) k1_44 (fun _ h => h) rfl dX9_addRule_34 ?_
    refine lv_iload_n hx hb dX9_addRule_37 rfl (lv_at hl 3 rfl) ?_
    obtain ⟨σ3, hσ3, hf⟩ := bd_e hf
    refine zastr E hw (Nat.le_of_ble_eq_true rfl) (ceC_74 ad cy) hσ3 dX9_addRule_38 (fun H locs hw => ?_)
    refine lv_aload_n hx hb dX9_addRule_39 rfl (lv_at hl 0 rfl) ?_
    refine zget E hw (Nat.le_of_ble_eq_true rfl) (ceC_71 ad cy _) rfl inX9 5 (by decide) k1_52 (fun _ h => h) rfl dX9_addRule_40 ?_
    refine lv_aload_n hx hb dX9_addRule_43 rfl (lv_at hl 0 rfl) ?_
    refine zget E hw (Nat.le_of_ble_eq_true rfl) (ceC_71 ad cy _) rfl inX9 0 (by decide) k1_44 (fun _ h => h) rfl dX9_addRule_44 ?_
    refine lv_aload_n hx hb dX9_addRule_47 rfl (lv_at hl 0 rfl) ?_
    refine zget E hw (Nat.le_of_ble_eq_true rfl) (ceC_71 ad cy _) rfl inX9 1 (by decide) k1_47 (fun _ h => h) rfl dX9_addRule_48 ?_
    obtain ⟨σ4, hσ4, hf⟩ := bd_e hf
    refine zastr E hw (Nat.le_of_ble_eq_true rfl) (ceC_75 ad cy) hσ4 dX9_addRule_51 (fun H locs hw => ?_)
    refine lv_aload_n hx hb dX9_addRule_52 rfl (lv_at hl 0 rfl) ?_
    refine lv_dup hx hb dX9_addRule_53 rfl ?_
    refine zget E hw (Nat.le_of_ble_eq_true rfl) (ceC_71 ad cy _) rfl inX9 0 (by decide) k1_44 (fun _ h => h) rfl dX9_addRule_54 ?_
    refine lv_iconst (v := 1) hx hb dX9_addRule_57 (by decide) ?_
    refine lv_iadd hx hb dX9_addRule_58 ?_
    refine zputs E hw (Nat.le_of_ble_eq_true rfl) (ceC_71 ad cy _) rfl inX9 tyX9 tyX9_ok nmX9 0 (by decide) k1_44 (fun _ h => h) rfl rfl rfl (Nat.le_of_ble_eq_true rfl) (j := 0) (Eq.trans (ceC_71 ad cy _) (by rfl)) dX9_addRule_59 (fun σ5 eσ5 H locs hw => ?_)
    replace hf := lt_i eσ5 hf
    exact zretv E hw hr hlk (rt_1 hf) dX9_addRule_62
set_option maxRecDepth 100000 in
set_option maxHeartbeats 4000000 in
theorem c_X8_readRule {l : Launch} {D : va_G} {cy : Cy} {ad : Nat → Nat} {A : Nat → Prop} (hA : okAd 97 ad A) (σ : Sg) {σ9 : Sg} (hf : f_X8_readRule σ = some σ9) : Met l yX8_readRule (.code yX8_readRule cX8_readRule 4 none :: TT) ({ frames := 21, cells := 0, slots := 0, locals := 469 } : Room) (zPc D cy 97 (celC ad cy) ad A [.ref (ad 67)] σ) (zQv D 97 (celC ad cy) ad A σ9) 0 0 A := by
  refine zofW (by decide) hA (Nat.le_of_ble_eq_true rfl) ?_
  intro p e s m args below meth c ls E hw hr hlk hl
  have E : ZE p s m args c cX8_readRule 4 "KiteSummons$RuleReader" D cy 97 ad A := E
  have hx := E.hx
  have hb := E.hb
  have hl : lv_has ls 4 [(0, .ref (ad 67))] := hl
  have hB102 : ∀ (xq1 : Int32) (xq2 : Int32) (xq3 : Int32) (tq1 : Int32) (σ : Sg) (H : Heap) (locs : List Loc) (ls : Array Slot), ZS D 97 (celC ad cy) ad A s σ H locs → lv_has ls 4 [(0, .ref (ad 67)), (1, .int xq1), (2, .int xq2), (3, .int xq3)] → f_X8_readRule_b102 xq1 xq2 xq3 tq1 σ = some σ9 → W p l e ({ frames := 21, cells := 0, slots := 0, locals := 469 } : Room) s m args below meth c H locs 0 0 (MQ below (zQv D 97 (celC ad cy) ad A σ9) args s 0 0 A) (F0 m 102 ls [.int tq1, .ref (ad 67)]) := by
    intro xq1 xq2 xq3 tq1 σ H locs ls hw hl hf
    unfold f_X8_readRule_b102 at hf
    obtain ⟨σ11, hc, hf⟩ := bd_e hf
    refine zcalv hw (va_runV (As := [.int tq1]) (rest := []) E.fix (c_X8_pass (l := l) hA tq1 σ hc) (zcV E k3_225 k1_2 k3_222 k3_224 kp1_15 mf_X8_pass rfl rfl ⟨Nat.le_of_ble_eq_true rfl, Nat.le_of_ble_eq_true rfl⟩) (zPreV E hw (Nat.le_of_ble_eq_true rfl) (ceC_67 ad cy _) rfl _) rfl rfl hl.1 rfl (lv_room (Nat.le_of_ble_eq_true rfl)) dX8_readRule_102 ⟨Nat.zero_le _, Nat.zero_le _⟩) (fun H locs hw => ?_)
    refine lv_aload_n hx hb dX8_readRule_105 rfl (lv_at hl 0 rfl) ?_
    refine zget E hw (Nat.le_of_ble_eq_true rfl) (ceC_67 ad cy _) rfl inX8 7 (by decide) k1_83 (fun _ h => h) rfl dX8_readRule_106 ?_
    refine lv_iload_n hx hb dX8_readRule_109 rfl (lv_at hl 1 rfl) ?_
    refine lv_iload_n hx hb dX8_readRule_110 rfl (lv_at hl 3 rfl) ?_
    refine lv_iload_n hx hb dX8_readRule_111 rfl (lv_at hl 2 rfl) ?_
    obtain ⟨σ12, hc, hf⟩ := bd_e hf
    refine zcalv hw (va_runV (As := [.int xq1, .int xq3, .int xq2]) (rest := []) E.fix (c_X9_addRule (l := l) hA xq1 xq3 xq2 σ11 hc) (zcV E k4_15 k1_3 k4_12 k4_13 k4_14 mf_X9_addRule rfl rfl ⟨Nat.le_of_ble_eq_true rfl, Nat.le_of_ble_eq_true rfl⟩) (zPreV E hw (Nat.le_of_ble_eq_true rfl) (ceC_71 ad cy _) rfl _) rfl rfl hl.1 rfl (lv_room (Nat.le_of_ble_eq_true rfl)) dX8_readRule_112 ⟨Nat.zero_le _, Nat.zero_le _⟩) (fun H locs hw => ?_)
    exact zretv E hw hr hlk (rt_1 hf) dX8_readRule_115
  have hB69 : ∀ (xq1 : Int32) (xq2 : Int32) (σ : Sg) (H : Heap) (locs : List Loc) (ls : Array Slot), ZS D 97 (celC ad cy) ad A s σ H locs → lv_has ls 4 [(0, .ref (ad 67)), (1, .int xq1), (2, .int xq2)] → f_X8_readRule_b69 xq1 xq2 σ = some σ9 → W p l e ({ frames := 21, cells := 0, slots := 0, locals := 469 } : Room) s m args below meth c H locs 0 0 (MQ below (zQv D 97 (celC ad cy) ad A σ9) args s 0 0 A) (F0 m 69 ls []) := by
    intro xq1 xq2 σ H locs ls hw hl hf
    unfold f_X8_readRule_b69 at hf
    refine lv_aload_n hx hb dX8_readRule_69 rfl (lv_at hl 0 rfl) ?_
    obtain ⟨vq7, hc, hf⟩ := bd_e hf
    refine zcali hw (va_runV (As := []) (rest := []) E.fix (c_X8_token (l := l) hA σ hc) (zcV E k3_217 k1_2 k3_214 k3_216 kp1_13 mf_X8_token rfl rfl ⟨Nat.le_of_ble_eq_true rfl, Nat.le_of_ble_eq_true rfl⟩) (zPreV E hw (Nat.le_of_ble_eq_true rfl) (ceC_67 ad cy _) rfl _) rfl rfl hl.1 rfl (lv_room (Nat.le_of_ble_eq_true rfl)) dX8_readRule_70 ⟨Nat.zero_le _, Nat.zero_le _⟩) (fun H locs hw => ?_)
    refine lv_bipush (v := 6) hx hb dX8_readRule_73 (by decide) ?_
    refine lv_isub hx hb dX8_readRule_75 ?_
    refine lv_topi (fun vq8 evq8 => ?_)
    replace hf := lt_i evq8 hf
    refine lv_istore_n (lv' := [(3, .int vq8), (0, .ref (ad 67)), (1, .int xq1), (2, .int xq2)]) hx hb dX8_readRule_76 rfl hl (by decide) rfl (fun ls hl => ?_)
    refine lv_aload_n hx hb dX8_readRule_77 rfl (lv_at hl 1 rfl) ?_
    refine lv_iload_n hx hb dX8_readRule_78 rfl (lv_at hl 0 rfl) ?_
    refine lv_iconst (v := 0) hx hb dX8_readRule_79 (by decide) ?_
    refine lv_iconst (v := 2) hx hb dX8_readRule_80 (by decide) ?_
    refine zcali hw (va_runSN (As := [.int vq8, .int 0, .int 2]) (rest := [.ref (ad 67)]) E.fix (c_X11_within (l := l) hA vq8 0 2 σ rfl) (zcN E k2_179 k1_1 k3_136 k2_178 mf_X11_within rfl rfl ⟨Nat.le_of_ble_eq_true rfl, Nat.le_of_ble_eq_true rfl⟩) (zPre E hw _) rfl rfl hl.1 rfl (lv_room (Nat.le_of_ble_eq_true rfl)) dX8_readRule_81 ⟨Nat.zero_le _, Nat.zero_le _⟩) (fun H locs hw => ?_)
    obtain ⟨σ9, hc, hf⟩ := bd_e hf
    refine zcalv hw (va_runV (As := [.int (b2i (f_X11_within vq8 0 2 σ))]) (rest := []) E.fix (c_X8_pass (l := l) hA (b2i (f_X11_within vq8 0 2 σ)) σ hc) (zcV E k3_225 k1_2 k3_222 k3_224 kp1_15 mf_X8_pass rfl rfl ⟨Nat.le_of_ble_eq_true rfl, Nat.le_of_ble_eq_true rfl⟩) (zPreV E hw (Nat.le_of_ble_eq_true rfl) (ceC_67 ad cy _) rfl _) rfl rfl hl.1 rfl (lv_room (Nat.le_of_ble_eq_true rfl)) dX8_readRule_84 ⟨Nat.zero_le _, Nat.zero_le _⟩) (fun H locs hw => ?_)
    refine lv_aload_n hx hb dX8_readRule_87 rfl (lv_at hl 1 rfl) ?_
    refine lv_aload_n hx hb dX8_readRule_88 rfl (lv_at hl 1 rfl) ?_
    obtain ⟨vq10, hc, hf⟩ := bd_e hf
    refine zcali hw (va_runV (As := []) (rest := [.ref (ad 67)]) E.fix (c_X8_token (l := l) hA σ9 hc) (zcV E k3_217 k1_2 k3_214 k3_216 kp1_13 mf_X8_token rfl rfl ⟨Nat.le_of_ble_eq_true rfl, Nat.le_of_ble_eq_true rfl⟩) (zPreV E hw (Nat.le_of_ble_eq_true rfl) (ceC_67 ad cy _) rfl _) rfl rfl hl.1 rfl (lv_room (Nat.le_of_ble_eq_true rfl)) dX8_readRule_89 ⟨Nat.zero_le _, Nat.zero_le _⟩) (fun H locs hw => ?_)
    refine lv_bipush (v := 20) hx hb dX8_readRule_92 (by decide) ?_
    refine lv_icmp_ne (tgt := 101) hx hb dX8_readRule_94 (by decide) (fun h => ?_) (fun h => ?_)
    · replace hf := it_t h hf
      refine lv_iconst (v := 0) hx hb dX8_readRule_101 (by decide) ?_
      exact hB102 xq1 xq2 vq8 0 σ9 _ _ _ hw (lv_sub hl [1, 2, 3, 0] rfl) hf
    · replace hf := it_n h hf
      refine lv_iconst (v := 1) hx hb dX8_readRule_97 (by decide) ?_
      refine lv_goto (tgt := 102) hx hb dX8_readRule_98 (by decide) ?_
      exact hB102 xq1 xq2 vq8 1 σ9 _ _ _ hw (lv_sub hl [1, 2, 3, 0] rfl) hf
  have hB40 : ∀ (xq1 : Int32) (xq2 : Int32) (tq1 : Int32) (σ : Sg) (H : Heap) (locs : List Loc) (ls : Array Slot), ZS D 97 (celC ad cy) ad A s σ H locs → lv_has ls 4 [(0, .ref (ad 67)), (1, .int xq1), (2, .int xq2)] → f_X8_readRule_b40 xq1 xq2 tq1 σ = some σ9 → W p l e ({ frames := 21, cells := 0, slots := 0, locals := 469 } : Room) s m args below meth c H locs 0 0 (MQ below (zQv D 97 (celC ad cy) ad A σ9) args s 0 0 A) (F0 m 40 ls [.int tq1, .ref (ad 67)]) := by
    intro xq1 xq2 tq1 σ H locs ls hw hl hf
    unfold f_X8_readRule_b40 at hf
    obtain ⟨σ3, hc, hf⟩ := bd_e hf
    refine zcalv hw (va_runV (As := [.int tq1]) (rest := []) E.fix (c_X8_pass (l := l) hA tq1 σ hc) (zcV E k3_225 k1_2 k3_222 k3_224 kp1_15 mf_X8_pass rfl rfl ⟨Nat.le_of_ble_eq_true rfl, Nat.le_of_ble_eq_true rfl⟩) (zPreV E hw (Nat.le_of_ble_eq_true rfl) (ceC_67 ad cy _) rfl _) rfl rfl hl.1 rfl (lv_room (Nat.le_of_ble_eq_true rfl)) dX8_readRule_40 ⟨Nat.zero_le _, Nat.zero_le _⟩) (fun H locs hw => ?_)
    refine lv_aload_n hx hb dX8_readRule_43 rfl (lv_at hl 0 rfl) ?_
    refine zcali hw (va_runV (As := []) (rest := []) E.fix (c_X8_isStill (l := l) hA σ3 rfl) (zcV E k3_213 k1_2 k3_210 k3_212 kp1_12 mf_X8_isStill rfl rfl ⟨Nat.le_of_ble_eq_true rfl, Nat.le_of_ble_eq_true rfl⟩) (zPreV E hw (Nat.le_of_ble_eq_true rfl) (ceC_67 ad cy _) rfl _) rfl rfl hl.1 rfl (lv_room (Nat.le_of_ble_eq_true rfl)) dX8_readRule_44 ⟨Nat.zero_le _, Nat.zero_le _⟩) (fun H locs hw => ?_)
    refine lv_if_eq (tgt := 69) hx hb dX8_readRule_47 (by decide) (fun h => ?_) (fun h => ?_)
    · replace hf := it_f (b2i_0 h) hf
      exact hB69 xq1 xq2 σ3 _ _ _ hw (lv_sub hl [0, 1, 2] rfl) hf
    · replace hf := it_t (b2i_n h) hf
      refine lv_aload_n hx hb dX8_readRule_50 rfl (lv_at hl 0 rfl) ?_
      obtain ⟨vq4, hc, hf⟩ := bd_e hf
      refine zcali hw (va_runV (As := []) (rest := []) E.fix (c_X8_token (l := l) hA σ3 hc) (zcV E k3_217 k1_2 k3_214 k3_216 kp1_13 mf_X8_token rfl rfl ⟨Nat.le_of_ble_eq_true rfl, Nat.le_of_ble_eq_true rfl⟩) (zPreV E hw (Nat.le_of_ble_eq_true rfl) (ceC_67 ad cy _) rfl _) rfl rfl hl.1 rfl (lv_room (Nat.le_of_ble_eq_true rfl)) dX8_readRule_51 ⟨Nat.zero_le _, Nat.zero_le _⟩) (fun H locs hw => ?_)
      refine lv_bipush (v := 14) hx hb dX8_readRule_54 (by decide) ?_
      refine lv_icmp_ne (tgt := 69) hx hb dX8_readRule_56 (by decide) (fun h => ?_) (fun h => ?_)
      · replace hf := it_t h hf
        exact hB69 xq1 xq2 σ3 _ _ _ hw (lv_sub hl [0, 1, 2] rfl) hf
      · replace hf := it_n h hf
        refine lv_aload_n hx hb dX8_readRule_59 rfl (lv_at hl 0 rfl) ?_
        refine lv_iconst (v := 1) hx hb dX8_readRule_60 (by decide) ?_
        obtain ⟨σ5, hc, hf⟩ := bd_e hf
        refine zcalv hw (va_runV (As := [.int 1]) (rest := []) E.fix (c_X8_pass (l := l) hA 1 σ3 hc) (zcV E k3_225 k1_2 k3_222 k3_224 kp1_15 mf_X8_pass rfl rfl ⟨Nat.le_of_ble_eq_true rfl, Nat.le_of_ble_eq_true rfl⟩) (zPreV E hw (Nat.le_of_ble_eq_true rfl) (ceC_67 ad cy _) rfl _) rfl rfl hl.1 rfl (lv_room (Nat.le_of_ble_eq_true rfl)) dX8_readRule_61 ⟨Nat.zero_le _, Nat.zero_le _⟩) (fun H locs hw => ?_)
        refine lv_aload_n hx hb dX8_readRule_64 rfl (lv_at hl 0 rfl) ?_
        refine lv_iconst (v := 0) hx hb dX8_readRule_65 (by decide) ?_
        obtain ⟨σ6, hc, hf⟩ := bd_e hf
        refine zcalv hw (va_runV (As := [.int 0]) (rest := []) E.fix (c_X8_readAny (l := l) hA 6 0 σ5 hc) (zcV E k3_229 k1_2 k3_226 k3_228 kp2_0 mf_X8_readAny rfl rfl ⟨Nat.le_of_ble_eq_true rfl, Nat.le_of_ble_eq_true rfl⟩) (zPreV E hw (Nat.le_of_ble_eq_true rfl) (ceC_67 ad cy _) rfl _) rfl rfl hl.1 rfl (lv_room (Nat.le_of_ble_eq_true rfl)) dX8_readRule_66 ⟨Nat.zero_le _, Nat.zero_le _⟩) (fun H locs hw => ?_)
        exact hB69 xq1 xq2 σ6 _ _ _ hw (lv_sub hl [0, 1, 2] rfl) hf
  unfold f_X8_readRule at hf
  refine lv_aload_n hx hb dX8_readRule_0 rfl (lv_at hl 0 rfl) ?_
  obtain ⟨vq1, hc, hf⟩ := bd_e hf
  refine zcali hw (va_runV (As := []) (rest := []) E.fix (c_X8_token (l := l) hA σ hc) (zcV E k3_217 k1_2 k3_214 k3_216 kp1_13 mf_X8_token rfl rfl ⟨Nat.le_of_ble_eq_true rfl, Nat.le_of_ble_eq_true rfl⟩) (zPreV E hw (Nat.le_of_ble_eq_true rfl) (ceC_67 ad cy _) rfl _) rfl rfl hl.1 rfl (lv_room (Nat.le_of_ble_eq_true rfl)) dX8_readRule_1 ⟨Nat.zero_le _, Nat.zero_le _⟩) (fun H locs hw => ?_)
  refine lv_istore_n (lv' := [(1, .int vq1), (0, .ref (ad 67))]) hx hb dX8_readRule_4 rfl hl (by decide) rfl (fun ls hl => ?_)
  refine lv_aload_n hx hb dX8_readRule_5 rfl (lv_at hl 1 rfl) ?_
  refine zget E hw (Nat.le_of_ble_eq_true rfl) (ceC_67 ad cy _) rfl inX8 7 (by decide) k1_83 (fun _ h => h) rfl dX8_readRule_6 ?_
  refine zget E hw (Nat.le_of_ble_eq_true rfl) (ceC_71 ad cy _) rfl inX9 1 (by decide) k1_48 (fun _ h => h) rfl dX8_readRule_9 ?_
  refine lv_topi (fun vq2 evq2 => ?_)
  replace hf := lt_i evq2 hf
  refine lv_istore_n (lv' := [(2, .int vq2), (1, .int vq1), (0, .ref (ad 67))]) hx hb dX8_readRule_12 rfl hl (by decide) rfl (fun ls hl => ?_)
  refine lv_aload_n hx hb dX8_readRule_13 rfl (lv_at hl 2 rfl) ?_
  refine lv_iload_n hx hb dX8_readRule_14 rfl (lv_at hl 1 rfl) ?_
  refine lv_iconst (v := 0) hx hb dX8_readRule_15 (by decide) ?_
  refine lv_iconst (v := 5) hx hb dX8_readRule_16 (by decide) ?_
  refine zcali hw (va_runSN (As := [.int vq1, .int 0, .int 5]) (rest := [.ref (ad 67)]) E.fix (c_X11_within (l := l) hA vq1 0 5 σ rfl) (zcN E k2_179 k1_1 k3_136 k2_178 mf_X11_within rfl rfl ⟨Nat.le_of_ble_eq_true rfl, Nat.le_of_ble_eq_true rfl⟩) (zPre E hw _) rfl rfl hl.1 rfl (lv_room (Nat.le_of_ble_eq_true rfl)) dX8_readRule_17 ⟨Nat.zero_le _, Nat.zero_le _⟩) (fun H locs hw => ?_)
  refine lv_if_eq (tgt := 39) hx hb dX8_readRule_20 (by decide) (fun h => ?_) (fun h => ?_)
  · replace hf := it_f (b2i_0 h) hf
    refine lv_iconst (v := 0) hx hb dX8_readRule_39 (by decide) ?_
    exact hB40 vq1 vq2 0 σ _ _ _ hw (lv_sub hl [2, 1, 0] rfl) hf
  · replace hf := it_t (b2i_n h) hf
    refine lv_aload_n hx hb dX8_readRule_23 rfl (lv_at hl 2 rfl) ?_
    refine zget E hw (Nat.le_of_ble_eq_true rfl) (ceC_67 ad cy _) rfl inX8 7 (by decide) k1_83 (fun _ h => h) rfl dX8_readRule_24 ?_
    refine zget E hw (Nat.le_of_ble_eq_true rfl) (ceC_71 ad cy _) rfl inX9 0 (by decide) k1_45 (fun _ h => h) rfl dX8_readRule_27 ?_
    refine lv_bipush (v := 8) hx hb dX8_readRule_30 (by decide) ?_
    refine lv_icmp_ge (tgt := 39) hx hb dX8_readRule_32 (by decide) (fun h => ?_) (fun h => ?_)
    · replace hf := it_t h hf
      refine lv_iconst (v := 0) hx hb dX8_readRule_39 (by decide) ?_
      exact hB40 vq1 vq2 0 σ _ _ _ hw (lv_sub hl [2, 1, 0] rfl) hf
    · replace hf := it_f h hf
      refine lv_iconst (v := 1) hx hb dX8_readRule_35 (by decide) ?_
      refine lv_goto (tgt := 40) hx hb dX8_readRule_36 (by decide) ?_
      exact hB40 vq1 vq2 1 σ _ _ _ hw (lv_sub hl [2, 1, 0] rfl) hf
set_option maxRecDepth 100000 in
set_option maxHeartbeats 4000000 in
theorem c_X9_copy_p34_p71 {l : Launch} {D : va_G} {cy : Cy} {ad : Nat → Nat} {A : Nat → Prop} (hA : okAd 97 ad A) (σ : Sg) {σ9 : Sg} (hf : f_X9_copy_p34_p71 σ = σ9) : Met l yX9_copy (.code yX9_copy cX9_copy 2 none :: TT) ({ frames := 1, cells := 0, slots := 0, locals := 40 } : Room) (zPc D cy 97 (celC ad cy) ad A [.ref (ad 34), .ref (ad 71)] σ) (zQv D 97 (celC ad cy) ad A σ9) 0 0 A := by
  refine zofW (by decide) hA (Nat.le_of_ble_eq_true rfl) ?_
  intro p e s m args below meth c ls E hw hr hlk hl
  have E : ZE p s m args c cX9_copy 2 "KiteSummons$Rules" D cy 97 ad A := E
  have hx := E.hx
  have hb := E.hb
  have hl : lv_has ls 2 [(0, .ref (ad 34)), (1, .ref (ad 71))] := hl
  unfold f_X9_copy_p34_p71 at hf
  refine lv_aload_n hx hb dX9_copy_0 rfl (lv_at hl 0 rfl) ?_
  refine lv_aload_n hx hb dX9_copy_1 rfl (lv_at hl 1 rfl) ?_
  refine zget E hw (Nat.le_of_ble_eq_true rfl) (ceC_71 ad cy _) rfl inX9 0 (by decide) k1_44 (fun _ h => h) rfl dX9_copy_2 ?_
  refine zputs E hw (Nat.le_of_ble_eq_true rfl) (ceC_34 ad cy _) rfl inX9 tyX9 tyX9_ok nmX9 0 (by decide) k1_44 (fun _ h => h) rfl rfl rfl (Nat.le_of_ble_eq_true rfl) (j := 0) (Eq.trans (ceC_34 ad cy _) (by rfl)) dX9_copy_5 (fun σ1 eσ1 H locs hw => ?_)
  replace hf := lt_i eσ1 hf
  refine lv_aload_n hx hb dX9_copy_8 rfl (lv_at hl 0 rfl) ?_
  refine lv_aload_n hx hb dX9_copy_9 rfl (lv_at hl 1 rfl) ?_
  refine zget E hw (Nat.le_of_ble_eq_true rfl) (ceC_71 ad cy _) rfl inX9 1 (by decide) k1_47 (fun _ h => h) rfl dX9_copy_10 ?_
  refine zputs E hw (Nat.le_of_ble_eq_true rfl) (ceC_34 ad cy _) rfl inX9 tyX9 tyX9_ok nmX9 1 (by decide) k1_47 (fun _ h => h) rfl rfl rfl (Nat.le_of_ble_eq_true rfl) (j := 1) (Eq.trans (ceC_34 ad cy _) (by rfl)) dX9_copy_13 (fun σ2 eσ2 H locs hw => ?_)
  replace hf := lt_i eσ2 hf
  refine lv_aload_n hx hb dX9_copy_16 rfl (lv_at hl 1 rfl) ?_
  refine zget E hw (Nat.le_of_ble_eq_true rfl) (ceC_71 ad cy _) rfl inX9 2 (by decide) k1_49 (fun _ h => h) rfl dX9_copy_17 ?_
  refine lv_iconst (v := 0) hx hb dX9_copy_20 (by decide) ?_
  refine lv_aload_n hx hb dX9_copy_21 rfl (lv_at hl 0 rfl) ?_
  refine zget E hw (Nat.le_of_ble_eq_true rfl) (ceC_34 ad cy _) rfl inX9 2 (by decide) k1_49 (fun _ h => h) rfl dX9_copy_22 ?_
  refine lv_iconst (v := 0) hx hb dX9_copy_25 (by decide) ?_
  refine lv_bipush (v := 8) hx hb dX9_copy_26 (by decide) ?_
  refine zcopy E hw hl.1 (E.ht _ k4_20) (E.ht _ k4_22) (E.ht _ k4_21) (E.ht _ k1_20) (Nat.le_of_ble_eq_true rfl) (ceC_72 ad cy) (Nat.le_of_ble_eq_true rfl) (ceC_35 ad cy) 8 ⟨by rfl, by decide⟩ (Nat.le_of_ble_eq_true rfl) (Nat.le_of_ble_eq_true rfl) (Nat.le_of_ble_eq_true rfl) (Nat.le_of_ble_eq_true rfl) dX9_copy_28 (fun σ3 eσ3 H locs hw => ?_)
  replace hf := lt_i eσ3 hf
  refine lv_aload_n hx hb dX9_copy_31 rfl (lv_at hl 1 rfl) ?_
  refine zget E hw (Nat.le_of_ble_eq_true rfl) (ceC_71 ad cy _) rfl inX9 3 (by decide) k1_50 (fun _ h => h) rfl dX9_copy_32 ?_
  refine lv_iconst (v := 0) hx hb dX9_copy_35 (by decide) ?_
  refine lv_aload_n hx hb dX9_copy_36 rfl (lv_at hl 0 rfl) ?_
  refine zget E hw (Nat.le_of_ble_eq_true rfl) (ceC_34 ad cy _) rfl inX9 3 (by decide) k1_50 (fun _ h => h) rfl dX9_copy_37 ?_
  refine lv_iconst (v := 0) hx hb dX9_copy_40 (by decide) ?_
  refine lv_bipush (v := 8) hx hb dX9_copy_41 (by decide) ?_
  refine zcopy E hw hl.1 (E.ht _ k4_20) (E.ht _ k4_22) (E.ht _ k4_21) (E.ht _ k1_20) (Nat.le_of_ble_eq_true rfl) (ceC_73 ad cy) (Nat.le_of_ble_eq_true rfl) (ceC_36 ad cy) 8 ⟨by rfl, by decide⟩ (Nat.le_of_ble_eq_true rfl) (Nat.le_of_ble_eq_true rfl) (Nat.le_of_ble_eq_true rfl) (Nat.le_of_ble_eq_true rfl) dX9_copy_43 (fun σ4 eσ4 H locs hw => ?_)
  replace hf := lt_i eσ4 hf
  refine lv_aload_n hx hb dX9_copy_46 rfl (lv_at hl 1 rfl) ?_
  refine zget E hw (Nat.le_of_ble_eq_true rfl) (ceC_71 ad cy _) rfl inX9 4 (by decide) k1_51 (fun _ h => h) rfl dX9_copy_47 ?_
  refine lv_iconst (v := 0) hx hb dX9_copy_50 (by decide) ?_
  refine lv_aload_n hx hb dX9_copy_51 rfl (lv_at hl 0 rfl) ?_
  refine zget E hw (Nat.le_of_ble_eq_true rfl) (ceC_34 ad cy _) rfl inX9 4 (by decide) k1_51 (fun _ h => h) rfl dX9_copy_52 ?_
  refine lv_iconst (v := 0) hx hb dX9_copy_55 (by decide) ?_
  refine lv_bipush (v := 8) hx hb dX9_copy_56 (by decide) ?_
  refine zcopy E hw hl.1 (E.ht _ k4_20) (E.ht _ k4_22) (E.ht _ k4_21) (E.ht _ k1_20) (Nat.le_of_ble_eq_true rfl) (ceC_74 ad cy) (Nat.le_of_ble_eq_true rfl) (ceC_37 ad cy) 8 ⟨by rfl, by decide⟩ (Nat.le_of_ble_eq_true rfl) (Nat.le_of_ble_eq_true rfl) (Nat.le_of_ble_eq_true rfl) (Nat.le_of_ble_eq_true rfl) dX9_copy_58 (fun σ5 eσ5 H locs hw => ?_)
  replace hf := lt_i eσ5 hf
  refine lv_aload_n hx hb dX9_copy_61 rfl (lv_at hl 1 rfl) ?_
  refine zget E hw (Nat.le_of_ble_eq_true rfl) (ceC_71 ad cy _) rfl inX9 5 (by decide) k1_52 (fun _ h => h) rfl dX9_copy_62 ?_
  refine lv_iconst (v := 0) hx hb dX9_copy_65 (by decide) ?_
  refine lv_aload_n hx hb dX9_copy_66 rfl (lv_at hl 0 rfl) ?_
  refine zget E hw (Nat.le_of_ble_eq_true rfl) (ceC_34 ad cy _) rfl inX9 5 (by decide) k1_52 (fun _ h => h) rfl dX9_copy_67 ?_
  refine lv_iconst (v := 0) hx hb dX9_copy_70 (by decide) ?_
  refine lv_bipush (v := 8) hx hb dX9_copy_71 (by decide) ?_
  refine zcopy E hw hl.1 (E.ht _ k4_20) (E.ht _ k4_22) (E.ht _ k4_21) (E.ht _ k1_20) (Nat.le_of_ble_eq_true rfl) (ceC_75 ad cy) (Nat.le_of_ble_eq_true rfl) (ceC_38 ad cy) 8 ⟨by rfl, by decide⟩ (Nat.le_of_ble_eq_true rfl) (Nat.le_of_ble_eq_true rfl) (Nat.le_of_ble_eq_true rfl) (Nat.le_of_ble_eq_true rfl) dX9_copy_73 (fun σ6 eσ6 H locs hw => ?_)
  replace hf := lt_i eσ6 hf
  refine lv_aload_n hx hb dX9_copy_76 rfl (lv_at hl 1 rfl) ?_
  refine zget E hw (Nat.le_of_ble_eq_true rfl) (ceC_71 ad cy _) rfl inX9 6 (by decide) k1_53 (fun _ h => h) rfl dX9_copy_77 ?_
  refine lv_iconst (v := 0) hx hb dX9_copy_80 (by decide) ?_
  refine lv_aload_n hx hb dX9_copy_81 rfl (lv_at hl 0 rfl) ?_
  refine zget E hw (Nat.le_of_ble_eq_true rfl) (ceC_34 ad cy _) rfl inX9 6 (by decide) k1_53 (fun _ h => h) rfl dX9_copy_82 ?_
  refine lv_iconst (v := 0) hx hb dX9_copy_85 (by decide) ?_
  refine lv_sipush (v := 200) hx hb dX9_copy_86 (by decide) ?_
  refine zcopy E hw hl.1 (E.ht _ k4_20) (E.ht _ k4_22) (E.ht _ k4_21) (E.ht _ k1_20) (Nat.le_of_ble_eq_true rfl) (ceC_76 ad cy) (Nat.le_of_ble_eq_true rfl) (ceC_39 ad cy) 200 ⟨by rfl, by decide⟩ (Nat.le_of_ble_eq_true rfl) (Nat.le_of_ble_eq_true rfl) (Nat.le_of_ble_eq_true rfl) (Nat.le_of_ble_eq_true rfl) dX9_copy_89 (fun σ7 eσ7 H locs hw => ?_)
  replace hf := lt_i eσ7 hf
  exact zretv E hw hr hlk hf dX9_copy_92
set_option maxRecDepth 100000 in
set_option maxHeartbeats 4000000 in
theorem c_X8_readInto {l : Launch} {D : va_G} {cy : Cy} {ad : Nat → Nat} {A : Nat → Prop} (hA : okAd 97 ad A) (σ : Sg) {r : Int32} {σ9 : Sg} (hf : f_X8_readInto σ = some (r, σ9)) : Met l yX8_readInto (.code yX8_readInto cX8_readInto 3 (some .int) :: TT) ({ frames := 22, cells := 0, slots := 0, locals := 492 } : Room) (zPc D cy 97 (celC ad cy) ad A [.ref (ad 67), .ref (ad 34)] σ) (zQi D 97 (celC ad cy) ad A r σ9) 0 0 A := by
  refine zofW (by decide) hA (Nat.le_of_ble_eq_true rfl) ?_
  intro p e s m args below meth c ls E hw hr hlk hl
  have E : ZE p s m args c cX8_readInto 3 "KiteSummons$RuleReader" D cy 97 ad A := E
  have hx := E.hx
  have hb := E.hb
  have hl : lv_has ls 3 [(0, .ref (ad 67)), (1, .ref (ad 34))] := hl
  have hB55 : ∀ (σ : Sg) (H : Heap) (locs : List Loc) (ls : Array Slot), ZS D 97 (celC ad cy) ad A s σ H locs → lv_has ls 3 [(0, .ref (ad 67)), (1, .ref (ad 34))] → f_X8_readInto_b55 σ = some (r, σ9) → W p l e ({ frames := 22, cells := 0, slots := 0, locals := 492 } : Room) s m args below meth c H locs 0 0 (MQ below (zQi D 97 (celC ad cy) ad A r σ9) args s 0 0 A) (F0 m 55 ls []) := by
    intro σ H locs ls hw hl hf
    unfold f_X8_readInto_b55 at hf
    refine lv_aload_n hx hb dX8_readInto_55 rfl (lv_at hl 0 rfl) ?_
    refine lv_iconst (v := 0) hx hb dX8_readInto_56 (by decide) ?_
    refine zputs E hw (Nat.le_of_ble_eq_true rfl) (ceC_67 ad cy _) rfl inX8 tyX8 tyX8_ok nmX8 0 (by decide) k1_75 (fun _ h => h) rfl rfl rfl (Nat.le_of_ble_eq_true rfl) (j := 0) (Eq.trans (ceC_67 ad cy _) (by rfl)) dX8_readInto_57 (fun σ7 eσ7 H locs hw => ?_)
    replace hf := lt_i eσ7 hf
    refine lv_aload_n hx hb dX8_readInto_60 rfl (lv_at hl 0 rfl) ?_
    refine zget E hw (Nat.le_of_ble_eq_true rfl) (ceC_67 ad cy _) rfl inX8 6 (by decide) k1_82 (fun _ h => h) rfl dX8_readInto_61 ?_
    refine lv_iconst (v := (-1)) hx hb dX8_readInto_64 (by decide) ?_
    refine lv_icmp_eq (tgt := 76) hx hb dX8_readInto_65 (by decide) (fun h => ?_) (fun h => ?_)
    · replace hf := it_t h hf
      refine lv_aload_n hx hb dX8_readInto_76 rfl (lv_at hl 1 rfl) ?_
      refine lv_aload_n hx hb dX8_readInto_77 rfl (lv_at hl 0 rfl) ?_
      refine zget E hw (Nat.le_of_ble_eq_true rfl) (ceC_67 ad cy _) rfl inX8 7 (by decide) k1_83 (fun _ h => h) rfl dX8_readInto_78 ?_
      obtain ⟨σ8, hc, hf⟩ := lt_e hf
      refine zcalv hw (va_runV (As := [.ref (ad 71)]) (rest := []) E.fix (c_X9_copy_p34_p71 (l := l) hA σ7 hc) (zcV E k4_19 k1_3 k4_16 k4_17 k4_18 mf_X9_copy rfl rfl ⟨Nat.le_of_ble_eq_true rfl, Nat.le_of_ble_eq_true rfl⟩) (zPreV E hw (Nat.le_of_ble_eq_true rfl) (ceC_34 ad cy _) rfl _) rfl rfl hl.1 rfl (lv_room (Nat.le_of_ble_eq_true rfl)) dX8_readInto_81 ⟨Nat.zero_le _, Nat.zero_le _⟩) (fun H locs hw => ?_)
      refine lv_aload_n hx hb dX8_readInto_84 rfl (lv_at hl 1 rfl) ?_
      refine zget E hw (Nat.le_of_ble_eq_true rfl) (ceC_34 ad cy _) rfl inX9 0 (by decide) k1_45 (fun _ h => h) rfl dX8_readInto_85 ?_
      exact zreti E hw hr hlk (rt_a hf) (rt_b hf) dX8_readInto_88
    · replace hf := it_f h hf
      refine lv_bipush (v := (-100)) hx hb dX8_readInto_68 (by decide) ?_
      refine lv_aload_n hx hb dX8_readInto_70 rfl (lv_at hl 0 rfl) ?_
      refine zget E hw (Nat.le_of_ble_eq_true rfl) (ceC_67 ad cy _) rfl inX8 6 (by decide) k1_82 (fun _ h => h) rfl dX8_readInto_71 ?_
      refine lv_isub hx hb dX8_readInto_74 ?_
      exact zreti E hw hr hlk (rt_a hf) (rt_b hf) dX8_readInto_75
  have hB23 : ∀ (kq23 : Int32 → Sg → Option (Int32 × Sg)) (hkq23 : ∀ (xq2 : Int32) (σ : Sg) (H : Heap) (locs : List Loc) (ls : Array Slot), ZS D 97 (celC ad cy) ad A s σ H locs → lv_has ls 3 [(0, .ref (ad 67)), (1, .ref (ad 34)), (2, .int xq2)] → kq23 xq2 σ = some (r, σ9) → W p l e ({ frames := 22, cells := 0, slots := 0, locals := 492 } : Room) s m args below meth c H locs 0 0 (MQ below (zQi D 97 (celC ad cy) ad A r σ9) args s 0 0 A) (F0 m 23 ls [])) (xq2 : Int32) (σ : Sg) (H : Heap) (locs : List Loc) (ls : Array Slot), ZS D 97 (celC ad cy) ad A s σ H locs → lv_has ls 3 [(0, .ref (ad 67)), (1, .ref (ad 34)), (2, .int xq2)] → f_X8_readInto_b23 kq23 xq2 σ = some (r, σ9) → W p l e ({ frames := 22, cells := 0, slots := 0, locals := 492 } : Room) s m args below meth c H locs 0 0 (MQ below (zQi D 97 (celC ad cy) ad A r σ9) args s 0 0 A) (F0 m 23 ls []) := by
    intro kq23 hkq23 xq2 σ H locs ls hw hl hf
    unfold f_X8_readInto_b23 at hf
    refine lv_iload_n hx hb dX8_readInto_23 rfl (lv_at hl 2 rfl) ?_
    refine lv_bipush (v := 8) hx hb dX8_readInto_24 (by decide) ?_
    refine lv_icmp_gt (tgt := 55) hx hb dX8_readInto_26 (by decide) (fun h => ?_) (fun h => ?_)
    · replace hf := it_t h hf
      exact hB55 σ _ _ _ hw (lv_sub hl [0, 1] rfl) hf
    · replace hf := it_f h hf
      refine lv_aload_n hx hb dX8_readInto_29 rfl (lv_at hl 0 rfl) ?_
      refine zcali hw (va_runV (As := []) (rest := []) E.fix (c_X8_isStill (l := l) hA σ rfl) (zcV E k3_213 k1_2 k3_210 k3_212 kp1_12 mf_X8_isStill rfl rfl ⟨Nat.le_of_ble_eq_true rfl, Nat.le_of_ble_eq_true rfl⟩) (zPreV E hw (Nat.le_of_ble_eq_true rfl) (ceC_67 ad cy _) rfl _) rfl rfl hl.1 rfl (lv_room (Nat.le_of_ble_eq_true rfl)) dX8_readInto_30 ⟨Nat.zero_le _, Nat.zero_le _⟩) (fun H locs hw => ?_)
      refine lv_if_eq (tgt := 55) hx hb dX8_readInto_33 (by decide) (fun h => ?_) (fun h => ?_)
      · replace hf := it_f (b2i_0 h) hf
        exact hB55 σ _ _ _ hw (lv_sub hl [0, 1] rfl) hf
      · replace hf := it_t (b2i_n h) hf
        refine lv_aload_n hx hb dX8_readInto_36 rfl (lv_at hl 0 rfl) ?_
        obtain ⟨vq5, hc, hf⟩ := bd_e hf
        refine zcali hw (va_runV (As := []) (rest := []) E.fix (c_X8_token (l := l) hA σ hc) (zcV E k3_217 k1_2 k3_214 k3_216 kp1_13 mf_X8_token rfl rfl ⟨Nat.le_of_ble_eq_true rfl, Nat.le_of_ble_eq_true rfl⟩) (zPreV E hw (Nat.le_of_ble_eq_true rfl) (ceC_67 ad cy _) rfl _) rfl rfl hl.1 rfl (lv_room (Nat.le_of_ble_eq_true rfl)) dX8_readInto_37 ⟨Nat.zero_le _, Nat.zero_le _⟩) (fun H locs hw => ?_)
        refine lv_bipush (v := 27) hx hb dX8_readInto_40 (by decide) ?_
        refine lv_icmp_eq (tgt := 55) hx hb dX8_readInto_42 (by decide) (fun h => ?_) (fun h => ?_)
        · replace hf := it_t h hf
          exact hB55 σ _ _ _ hw (lv_sub hl [0, 1] rfl) hf
        · replace hf := it_f h hf
          refine lv_aload_n hx hb dX8_readInto_45 rfl (lv_at hl 0 rfl) ?_
          obtain ⟨σ6, hc, hf⟩ := bd_e hf
          refine zcalv hw (va_runV (As := []) (rest := []) E.fix (c_X8_readRule (l := l) hA σ hc) (zcV E k3_221 k1_2 k3_218 k3_220 kp1_14 mf_X8_readRule rfl rfl ⟨Nat.le_of_ble_eq_true rfl, Nat.le_of_ble_eq_true rfl⟩) (zPreV E hw (Nat.le_of_ble_eq_true rfl) (ceC_67 ad cy _) rfl _) rfl rfl hl.1 rfl (lv_room (Nat.le_of_ble_eq_true rfl)) dX8_readInto_46 ⟨Nat.zero_le _, Nat.zero_le _⟩) (fun H locs hw => ?_)
          refine lv_iinc (v := (xq2 + 1)) (lv' := [(2, .int (xq2 + 1)), (0, .ref (ad 67)), (1, .ref (ad 34))]) hx hb dX8_readInto_49 hl (k := 2) rfl (by rfl) (by decide) rfl (fun ls hl => ?_)
          refine lv_goto (tgt := 23) hx hb dX8_readInto_52 (by decide) ?_
          exact hkq23 (xq2 + 1) σ6 _ _ _ hw (lv_sub hl [1, 2, 0] rfl) hf
  have hL23 : ∀ (n : Nat) (xq2 : Int32) (σ : Sg) (H : Heap) (locs : List Loc) (ls : Array Slot), ZS D 97 (celC ad cy) ad A s σ H locs → lv_has ls 3 [(0, .ref (ad 67)), (1, .ref (ad 34)), (2, .int xq2)] → f_X8_readInto_l23 n xq2 σ = some (r, σ9) → W p l e ({ frames := 22, cells := 0, slots := 0, locals := 492 } : Room) s m args below meth c H locs 0 0 (MQ below (zQi D 97 (celC ad cy) ad A r σ9) args s 0 0 A) (F0 m 23 ls []) := by
    intro n
    induction n with
    | zero =>
      intro xq2 σ H locs ls hw hl hf
      exact nn_e hf
    | succ n ih =>
      intro xq2 σ H locs ls hw hl hf
      exact hB23 (f_X8_readInto_l23 n) ih xq2 σ H locs ls hw hl hf
  unfold f_X8_readInto at hf
  refine lv_aload_n hx hb dX8_readInto_0 rfl (lv_at hl 0 rfl) ?_
  obtain ⟨σ1, hc, hf⟩ := bd_e hf
  refine zcalv hw (va_runV (As := []) (rest := []) E.fix (c_X8_readTokens (l := l) hA σ hc) (zcV E k3_127 k1_2 k3_124 k3_126 kp1_4 mf_X8_readTokens rfl rfl ⟨Nat.le_of_ble_eq_true rfl, Nat.le_of_ble_eq_true rfl⟩) (zPreV E hw (Nat.le_of_ble_eq_true rfl) (ceC_67 ad cy _) rfl _) rfl rfl hl.1 rfl (lv_room (Nat.le_of_ble_eq_true rfl)) dX8_readInto_1 ⟨Nat.zero_le _, Nat.zero_le _⟩) (fun H locs hw => ?_)
  refine lv_aload_n hx hb dX8_readInto_4 rfl (lv_at hl 0 rfl) ?_
  refine zget E hw (Nat.le_of_ble_eq_true rfl) (ceC_67 ad cy _) rfl inX8 7 (by decide) k1_83 (fun _ h => h) rfl dX8_readInto_5 ?_
  obtain ⟨σ2, hc, hf⟩ := lt_e hf
  refine zcalv hw (va_runV (As := []) (rest := []) E.fix (c_X9_clear (l := l) hA σ1 hc) (zcV E k3_209 k1_3 k3_206 k3_207 k3_208 mf_X9_clear rfl rfl ⟨Nat.le_of_ble_eq_true rfl, Nat.le_of_ble_eq_true rfl⟩) (zPreV E hw (Nat.le_of_ble_eq_true rfl) (ceC_71 ad cy _) rfl _) rfl rfl hl.1 rfl (lv_room (Nat.le_of_ble_eq_true rfl)) dX8_readInto_8 ⟨Nat.zero_le _, Nat.zero_le _⟩) (fun H locs hw => ?_)
  refine lv_aload_n hx hb dX8_readInto_11 rfl (lv_at hl 0 rfl) ?_
  refine lv_iconst (v := 0) hx hb dX8_readInto_12 (by decide) ?_
  refine zputs E hw (Nat.le_of_ble_eq_true rfl) (ceC_67 ad cy _) rfl inX8 tyX8 tyX8_ok nmX8 5 (by decide) k1_81 (fun _ h => h) rfl rfl rfl (Nat.le_of_ble_eq_true rfl) (j := 5) (Eq.trans (ceC_67 ad cy _) (by rfl)) dX8_readInto_13 (fun σ3 eσ3 H locs hw => ?_)
  replace hf := lt_i eσ3 hf
  refine lv_aload_n hx hb dX8_readInto_16 rfl (lv_at hl 0 rfl) ?_
  refine lv_iconst (v := (-1)) hx hb dX8_readInto_17 (by decide) ?_
  refine zputs E hw (Nat.le_of_ble_eq_true rfl) (ceC_67 ad cy _) rfl inX8 tyX8 tyX8_ok nmX8 6 (by decide) k1_82 (fun _ h => h) rfl rfl rfl (Nat.le_of_ble_eq_true rfl) (j := 6) (Eq.trans (ceC_67 ad cy _) (by rfl)) dX8_readInto_18 (fun σ4 eσ4 H locs hw => ?_)
  replace hf := lt_i eσ4 hf
  refine lv_iconst (v := 0) hx hb dX8_readInto_21 (by decide) ?_
  refine lv_istore_n (lv' := [(2, .int 0), (0, .ref (ad 67)), (1, .ref (ad 34))]) hx hb dX8_readInto_22 rfl hl (by decide) rfl (fun ls hl => ?_)
  exact hL23 400 0 σ4 _ _ _ hw (lv_sub hl [1, 2, 0] rfl) hf
set_option maxRecDepth 100000 in
set_option maxHeartbeats 4000000 in
theorem c_X11_rules {l : Launch} {D : va_G} {cy : Cy} {ad : Nat → Nat} {A : Nat → Prop} (hA : okAd 97 ad A) (σ : Sg) {r : Int32} {σ9 : Sg} (hf : f_X11_rules σ = some (r, σ9)) : Met l yX11_rules (.code yX11_rules cX11_rules 1 (some .int) :: TT) ({ frames := 23, cells := 0, slots := 0, locals := 514 } : Room) (zPc D cy 97 (celC ad cy) ad A [.ref (ad 0)] σ) (zQi D 97 (celC ad cy) ad A r σ9) 0 0 A := by
  refine zofW (by decide) hA (Nat.le_of_ble_eq_true rfl) ?_
  intro p e s m args below meth c ls E hw hr hlk hl
  have E : ZE p s m args c cX11_rules 1 "KiteSummons" D cy 97 ad A := E
  have hx := E.hx
  have hb := E.hb
  have hl : lv_has ls 1 [(0, .ref (ad 0))] := hl
  unfold f_X11_rules at hf
  refine lv_aload_n hx hb dX11_rules_0 rfl (lv_at hl 0 rfl) ?_
  refine zget E hw (Nat.le_of_ble_eq_true rfl) (ceC_0 ad cy _) rfl inX11 4 (by decide) k2_125 (fun _ h => h) rfl dX11_rules_1 ?_
  refine lv_aload_n hx hb dX11_rules_4 rfl (lv_at hl 0 rfl) ?_
  refine zget E hw (Nat.le_of_ble_eq_true rfl) (ceC_0 ad cy _) rfl inX11 2 (by decide) k2_123 (fun _ h => h) rfl dX11_rules_5 ?_
  refine zget E hw (Nat.le_of_ble_eq_true rfl) (ceC_24 ad cy _) rfl inX1 14 (by decide) k2_33 (fun _ h => h) rfl dX11_rules_8 ?_
  obtain ⟨vq1, σ2, hc, hf⟩ := bd2_e hf
  refine zcali hw (va_runV (As := [.ref (ad 34)]) (rest := []) E.fix (c_X8_readInto (l := l) hA σ hc) (zcV E k3_123 k1_2 k3_120 k3_121 k3_122 mf_X8_readInto rfl rfl ⟨Nat.le_of_ble_eq_true rfl, Nat.le_of_ble_eq_true rfl⟩) (zPreV E hw (Nat.le_of_ble_eq_true rfl) (ceC_67 ad cy _) rfl _) rfl rfl hl.1 rfl (lv_room (Nat.le_of_ble_eq_true rfl)) dX11_rules_11 ⟨Nat.zero_le _, Nat.zero_le _⟩) (fun H locs hw => ?_)
  exact zreti E hw hr hlk (rt_a hf) (rt_b hf) dX11_rules_14
set_option maxRecDepth 100000 in
set_option maxHeartbeats 4000000 in
theorem c_X11_room {l : Launch} {D : va_G} {cy : Cy} {ad : Nat → Nat} {A : Nat → Prop} (hA : okAd 97 ad A) (xq0 : Int32) (xq1 : Int32) (σ : Sg) {r : Int32} (hf : f_X11_room xq0 xq1 σ = r) : Met l yX11_room (.code yX11_room cX11_room 2 (some .int) :: TT) ({ frames := 0, cells := 0, slots := 0, locals := 0 } : Room) (zPc D cy 97 (celC ad cy) ad A [.int xq0, .int xq1] σ) (zQi D 97 (celC ad cy) ad A r σ) 0 0 A := by
  refine zofW (by decide) hA (Nat.le_of_ble_eq_true rfl) ?_
  intro p e s m args below meth c ls E hw hr hlk hl
  have E : ZE p s m args c cX11_room 2 "KiteSummons" D cy 97 ad A := E
  have hx := E.hx
  have hb := E.hb
  have hl : lv_has ls 2 [(0, .int xq0), (1, .int xq1)] := hl
  unfold f_X11_room at hf
  refine lv_iload_n hx hb dX11_room_0 rfl (lv_at hl 1 rfl) ?_
  by_cases hc1_0 : xq1 = 0
  · replace hf := it_t hc1_0 hf
    refine lv_tableIn (tgt := 28) (off := 27) hx hb dX11_room_1 (by rw [hc1_0]; decide) (by rw [hc1_0]; decide) (by rw [hc1_0]; rfl) (by decide) ?_
    refine lv_bipush (v := 7) hx hb dX11_room_28 (by decide) ?_
    refine lv_iload_n hx hb dX11_room_30 rfl (lv_at hl 0 rfl) ?_
    refine lv_bipush (v := 7) hx hb dX11_room_31 (by decide) ?_
    refine lv_iand hx hb dX11_room_33 ?_
    refine lv_isub hx hb dX11_room_34 ?_
    exact zreti E hw hr hlk hf rfl dX11_room_35
  · replace hf := it_f hc1_0 hf
    by_cases hc1_1 : xq1 = 1
    · replace hf := it_t hc1_1 hf
      refine lv_tableIn (tgt := 36) (off := 35) hx hb dX11_room_1 (by rw [hc1_1]; decide) (by rw [hc1_1]; decide) (by rw [hc1_1]; rfl) (by decide) ?_
      refine lv_bipush (v := 7) hx hb dX11_room_36 (by decide) ?_
      refine lv_iload_n hx hb dX11_room_38 rfl (lv_at hl 0 rfl) ?_
      refine lv_iconst (v := 3) hx hb dX11_room_39 (by decide) ?_
      refine zishr hx hb dX11_room_40 ?_
      refine lv_isub hx hb dX11_room_41 ?_
      exact zreti E hw hr hlk hf rfl dX11_room_42
    · replace hf := it_f hc1_1 hf
      by_cases hc1_2 : xq1 = 2
      · replace hf := it_t hc1_2 hf
        refine lv_tableIn (tgt := 43) (off := 42) hx hb dX11_room_1 (by rw [hc1_2]; decide) (by rw [hc1_2]; decide) (by rw [hc1_2]; rfl) (by decide) ?_
        refine lv_iload_n hx hb dX11_room_43 rfl (lv_at hl 0 rfl) ?_
        refine lv_bipush (v := 7) hx hb dX11_room_44 (by decide) ?_
        refine lv_iand hx hb dX11_room_46 ?_
        exact zreti E hw hr hlk hf rfl dX11_room_47
      · replace hf := it_f hc1_2 hf
        refine lv_tableOut (tgt := 48) hx hb dX11_room_1 (by have := lv_neT hc1_0 (a := 0) rfl; have := lv_neT hc1_1 (a := 1) rfl; have := lv_neT hc1_2 (a := 2) rfl; omega) (by decide) ?_
        refine lv_iload_n hx hb dX11_room_48 rfl (lv_at hl 0 rfl) ?_
        refine lv_iconst (v := 3) hx hb dX11_room_49 (by decide) ?_
        refine zishr hx hb dX11_room_50 ?_
        exact zreti E hw hr hlk hf rfl dX11_room_51
set_option maxRecDepth 100000 in
set_option maxHeartbeats 4000000 in
theorem c_X11_step {l : Launch} {D : va_G} {cy : Cy} {ad : Nat → Nat} {A : Nat → Prop} (hA : okAd 97 ad A) (xq0 : Int32) (σ : Sg) {r : Int32} (hf : f_X11_step xq0 σ = r) : Met l yX11_step (.code yX11_step cX11_step 1 (some .int) :: TT) ({ frames := 0, cells := 0, slots := 0, locals := 0 } : Room) (zPc D cy 97 (celC ad cy) ad A [.int xq0] σ) (zQi D 97 (celC ad cy) ad A r σ) 0 0 A := by
  refine zofW (by decide) hA (Nat.le_of_ble_eq_true rfl) ?_
  intro p e s m args below meth c ls E hw hr hlk hl
  have E : ZE p s m args c cX11_step 1 "KiteSummons" D cy 97 ad A := E
  have hx := E.hx
  have hb := E.hb
  have hl : lv_has ls 1 [(0, .int xq0)] := hl
  unfold f_X11_step at hf
  refine lv_iload_n hx hb dX11_step_0 rfl (lv_at hl 0 rfl) ?_
  by_cases hc1_0 : xq0 = 0
  · replace hf := it_t hc1_0 hf
    refine lv_tableIn (tgt := 28) (off := 27) hx hb dX11_step_1 (by rw [hc1_0]; decide) (by rw [hc1_0]; decide) (by rw [hc1_0]; rfl) (by decide) ?_
    refine lv_iconst (v := 1) hx hb dX11_step_28 (by decide) ?_
    exact zreti E hw hr hlk hf rfl dX11_step_29
  · replace hf := it_f hc1_0 hf
    by_cases hc1_1 : xq0 = 1
    · replace hf := it_t hc1_1 hf
      refine lv_tableIn (tgt := 30) (off := 29) hx hb dX11_step_1 (by rw [hc1_1]; decide) (by rw [hc1_1]; decide) (by rw [hc1_1]; rfl) (by decide) ?_
      refine lv_bipush (v := 8) hx hb dX11_step_30 (by decide) ?_
      exact zreti E hw hr hlk hf rfl dX11_step_32
    · replace hf := it_f hc1_1 hf
      by_cases hc1_2 : xq0 = 2
      · replace hf := it_t hc1_2 hf
        refine lv_tableIn (tgt := 33) (off := 32) hx hb dX11_step_1 (by rw [hc1_2]; decide) (by rw [hc1_2]; decide) (by rw [hc1_2]; rfl) (by decide) ?_
        refine lv_iconst (v := (-1)) hx hb dX11_step_33 (by decide) ?_
        exact zreti E hw hr hlk hf rfl dX11_step_34
      · replace hf := it_f hc1_2 hf
        refine lv_tableOut (tgt := 35) hx hb dX11_step_1 (by have := lv_neT hc1_0 (a := 0) rfl; have := lv_neT hc1_1 (a := 1) rfl; have := lv_neT hc1_2 (a := 2) rfl; omega) (by decide) ?_
        refine lv_bipush (v := (-8)) hx hb dX11_step_35 (by decide) ?_
        exact zreti E hw hr hlk hf rfl dX11_step_37
set_option maxRecDepth 100000 in
set_option maxHeartbeats 4000000 in
theorem c_X1_drift {l : Launch} {D : va_G} {cy : Cy} {ad : Nat → Nat} {A : Nat → Prop} (hA : okAd 97 ad A) (nq1 : Nat) (hnq1 : isSky nq1) (σ : Sg) {σ9 : Sg} (hf : f_X1_drift nq1 σ = some σ9) : Met l yX1_drift (.code yX1_drift cX1_drift 7 none :: TT) ({ frames := 3, cells := 0, slots := 0, locals := 66 } : Room) (zPc D cy 97 (celC ad cy) ad A [.ref (ad 24), .ref (ad nq1)] σ) (zQv D 97 (celC ad cy) ad A σ9) 0 0 A := by
  refine zofW (by decide) hA (Nat.le_of_ble_eq_true rfl) ?_
  intro p e s m args below meth c ls E hw hr hlk hl
  have E : ZE p s m args c cX1_drift 7 "KiteSummons$County" D cy 97 ad A := E
  have hx := E.hx
  have hb := E.hb
  have hl : lv_has ls 7 [(0, .ref (ad 24)), (1, .ref (ad nq1))] := hl
  have hB25 : ∀ (nq1 : Nat) (hnq1 : isSky nq1) (xq2 : Int32) (xq3 : Int32) (kq25 : Int32 → Sg → Option Sg) (hkq25 : ∀ (xq4 : Int32) (σ : Sg) (H : Heap) (locs : List Loc) (ls : Array Slot), ZS D 97 (celC ad cy) ad A s σ H locs → lv_has ls 7 [(0, .ref (ad 24)), (1, .ref (ad nq1)), (2, .int xq2), (3, .int xq3), (4, .int xq4)] → kq25 xq4 σ = some σ9 → W p l e ({ frames := 3, cells := 0, slots := 0, locals := 66 } : Room) s m args below meth c H locs 0 0 (MQ below (zQv D 97 (celC ad cy) ad A σ9) args s 0 0 A) (F0 m 25 ls [])) (xq4 : Int32) (σ : Sg) (H : Heap) (locs : List Loc) (ls : Array Slot), ZS D 97 (celC ad cy) ad A s σ H locs → lv_has ls 7 [(0, .ref (ad 24)), (1, .ref (ad nq1)), (2, .int xq2), (3, .int xq3), (4, .int xq4)] → f_X1_drift_b25 kq25 nq1 xq2 xq3 xq4 σ = some σ9 → W p l e ({ frames := 3, cells := 0, slots := 0, locals := 66 } : Room) s m args below meth c H locs 0 0 (MQ below (zQv D 97 (celC ad cy) ad A σ9) args s 0 0 A) (F0 m 25 ls []) := by
    intro nq1 hnq1 xq2 xq3 kq25 hkq25 xq4 σ H locs ls hw hl hf
    unfold f_X1_drift_b25 at hf
    refine lv_iload hx hb dX1_drift_25 (lv_at hl 4 rfl) ?_
    refine lv_aload_n hx hb dX1_drift_27 rfl (lv_at hl 0 rfl) ?_
    refine zget E hw (Nat.le_of_ble_eq_true rfl) (ceC_24 ad cy _) rfl inX1 1 (by decide) k2_9 (fun _ h => h) rfl dX1_drift_28 ?_
    refine lv_icmp_ge (tgt := 131) hx hb dX1_drift_31 (by decide) (fun h => ?_) (fun h => ?_)
    · replace hf := it_t h hf
      exact zretv E hw hr hlk (rt_1 hf) dX1_drift_131
    · replace hf := it_f h hf
      refine lv_aload_n hx hb dX1_drift_34 rfl (lv_at hl 1 rfl) ?_
      refine zget E hw (ltSky hnq1) (ceSky ad cy _ hnq1) rfl inX10 2 (by decide) k1_114 (fun _ h => h) rfl dX1_drift_35 ?_
      refine lv_iload hx hb dX1_drift_38 (lv_at hl 4 rfl) ?_
      refine zcali hw (va_runSN (As := [.int (σ nq1 2), .int xq4]) (rest := []) E.fix (c_X11_isIn (l := l) hA (σ nq1 2) xq4 σ rfl) (zcN E k2_197 k1_1 k4_35 k2_196 mf_X11_isIn rfl rfl ⟨Nat.le_of_ble_eq_true rfl, Nat.le_of_ble_eq_true rfl⟩) (zPre E hw _) rfl rfl hl.1 rfl (lv_room (Nat.le_of_ble_eq_true rfl)) dX1_drift_40 ⟨Nat.zero_le _, Nat.zero_le _⟩) (fun H locs hw => ?_)
      refine lv_if_eq (tgt := 125) hx hb dX1_drift_43 (by decide) (fun h => ?_) (fun h => ?_)
      · replace hf := it_f (b2i_0 h) hf
        refine lv_iinc (v := (xq4 + 1)) (lv' := [(4, .int (xq4 + 1)), (0, .ref (ad 24)), (1, .ref (ad nq1)), (2, .int xq2), (3, .int xq3)]) hx hb dX1_drift_125 hl (k := 4) rfl (by rfl) (by decide) rfl (fun ls hl => ?_)
        refine lv_goto (tgt := 25) hx hb dX1_drift_128 (by decide) ?_
        exact hkq25 (xq4 + 1) σ _ _ _ hw (lv_sub hl [1, 2, 3, 4, 0] rfl) hf
      · replace hf := it_t (b2i_n h) hf
        refine lv_aload_n hx hb dX1_drift_46 rfl (lv_at hl 0 rfl) ?_
        refine zget E hw (Nat.le_of_ble_eq_true rfl) (ceC_24 ad cy _) rfl inX1 0 (by decide) k2_8 (fun _ h => h) rfl dX1_drift_47 ?_
        refine lv_aload_n hx hb dX1_drift_50 rfl (lv_at hl 0 rfl) ?_
        refine zget E hw (Nat.le_of_ble_eq_true rfl) (ceC_24 ad cy _) rfl inX1 5 (by decide) k2_18 (fun _ h => h) rfl dX1_drift_51 ?_
        refine lv_iload hx hb dX1_drift_54 (lv_at hl 4 rfl) ?_
        obtain ⟨vq5, hvq5, hf⟩ := bd_e hf
        refine zaldr E hw (Nat.le_of_ble_eq_true rfl) (ceC_25 ad cy) hvq5 dX1_drift_56 ?_
        obtain ⟨hiq6, hf⟩ := gd_e hf
        refine zaldq E hw (Nat.le_of_ble_eq_true rfl) 3 rfl rfl (ceC_2 ad cy _) hiq6 dX1_drift_57 ?_
        refine lv_iload_n hx hb dX1_drift_58 rfl (lv_at hl 2 rfl) ?_
        refine lv_aload_n hx hb dX1_drift_59 rfl (lv_at hl 1 rfl) ?_
        refine zget E hw (ltSky hnq1) (ceSky ad cy _ hnq1) rfl inX10 0 (by decide) k1_108 (fun _ h => h) rfl dX1_drift_60 ?_
        refine vs_X1_116 hA E hw hl.1 (Nat.le_of_ble_eq_true rfl) (Nat.le_of_ble_eq_true rfl) (Nat.le_of_ble_eq_true rfl) (nlt hiq6) rfl dX1_drift_63 (fun H locs hw => ?_)
        refine lv_topi (fun vq7 evq7 => ?_)
        replace hf := lt_i evq7 hf
        refine lv_istore (lv' := [(5, .int vq7), (0, .ref (ad 24)), (1, .ref (ad nq1)), (2, .int xq2), (3, .int xq3), (4, .int xq4)]) hx hb dX1_drift_66 hl (by decide) rfl (fun ls hl => ?_)
        refine lv_iload hx hb dX1_drift_68 (lv_at hl 0 rfl) ?_
        refine lv_aload_n hx hb dX1_drift_70 rfl (lv_at hl 2 rfl) ?_
        refine zget E hw (ltSky hnq1) (ceSky ad cy _ hnq1) rfl inX10 5 (by decide) k1_124 (fun _ h => h) rfl dX1_drift_71 ?_
        refine lv_iload hx hb dX1_drift_74 (lv_at hl 5 rfl) ?_
        obtain ⟨vq8, hvq8, hf⟩ := bd_e hf
        refine zaldr E hw (ltSkyB hnq1) (fun r => ceSkyB ad cy r hnq1) hvq8 dX1_drift_76 ?_
        refine zmmin E hl.1 (E.ht _ k4_36) (E.ht _ k2_216) (E.ht _ k1_15) (E.ht _ k2_217) (Nat.le_of_ble_eq_true rfl) (Nat.le_of_ble_eq_true rfl) dX1_drift_77 ?_
        refine lv_aload_n hx hb dX1_drift_80 rfl (lv_at hl 2 rfl) ?_
        refine zget E hw (ltSky hnq1) (ceSky ad cy _ hnq1) rfl inX10 4 (by decide) k1_121 (fun _ h => h) rfl dX1_drift_81 ?_
        refine lv_iload hx hb dX1_drift_84 (lv_at hl 5 rfl) ?_
        obtain ⟨vq9, hvq9, hf⟩ := bd_e hf
        refine zaldr E hw (ltSkyA hnq1) (fun r => ceSkyA ad cy r hnq1) hvq9 dX1_drift_86 ?_
        refine lv_iload_n hx hb dX1_drift_87 rfl (lv_at hl 4 rfl) ?_
        refine zcali hw (va_runSN (As := [.int vq9, .int xq3]) (rest := [.int (min32 vq7 vq8)]) E.fix (c_X11_room (l := l) hA vq9 xq3 σ rfl) (zcN E k4_39 k1_1 k4_37 k4_38 mf_X11_room rfl rfl ⟨Nat.le_of_ble_eq_true rfl, Nat.le_of_ble_eq_true rfl⟩) (zPre E hw _) rfl rfl hl.1 rfl (lv_room (Nat.le_of_ble_eq_true rfl)) dX1_drift_88 ⟨Nat.zero_le _, Nat.zero_le _⟩) (fun H locs hw => ?_)
        refine zmmin E hl.1 (E.ht _ k4_36) (E.ht _ k2_216) (E.ht _ k1_15) (E.ht _ k2_217) (Nat.le_of_ble_eq_true rfl) (Nat.le_of_ble_eq_true rfl) dX1_drift_91 ?_
        refine lv_topi (fun vq10 evq10 => ?_)
        replace hf := lt_i evq10 hf
        refine lv_istore (lv' := [(6, .int vq10), (5, .int vq7), (0, .ref (ad 24)), (1, .ref (ad nq1)), (2, .int xq2), (3, .int xq3), (4, .int xq4)]) hx hb dX1_drift_94 hl (by decide) rfl (fun ls hl => ?_)
        refine lv_aload_n hx hb dX1_drift_96 rfl (lv_at hl 3 rfl) ?_
        refine zget E hw (ltSky hnq1) (ceSky ad cy _ hnq1) rfl inX10 4 (by decide) k1_121 (fun _ h => h) rfl dX1_drift_97 ?_
        refine lv_iload hx hb dX1_drift_100 (lv_at hl 6 rfl) ?_
        refine lv_dup2_11 hx hb dX1_drift_102 rfl rfl ?_
        obtain ⟨vq11, hvq11, hf⟩ := bd_e hf
        refine zaldr E hw (ltSkyA hnq1) (fun r => ceSkyA ad cy r hnq1) hvq11 dX1_drift_103 ?_
        refine lv_iload hx hb dX1_drift_104 (lv_at hl 0 rfl) ?_
        refine lv_iload_n hx hb dX1_drift_106 rfl (lv_at hl 5 rfl) ?_
        refine zcali hw (va_runSN (As := [.int xq3]) (rest := [.int vq10, .int vq11, .int xq4, .ref (ad (nq1 + 1))]) E.fix (c_X11_step (l := l) hA xq3 σ rfl) (zcN E k4_42 k1_1 k4_40 k4_41 mf_X11_step rfl rfl ⟨Nat.le_of_ble_eq_true rfl, Nat.le_of_ble_eq_true rfl⟩) (zPre E hw _) rfl rfl hl.1 rfl (lv_room (Nat.le_of_ble_eq_true rfl)) dX1_drift_107 ⟨Nat.zero_le _, Nat.zero_le _⟩) (fun H locs hw => ?_)
        refine lv_imul hx hb dX1_drift_110 ?_
        refine lv_iadd hx hb dX1_drift_111 ?_
        obtain ⟨σ12, hσ12, hf⟩ := bd_e hf
        refine zastr E hw (ltSkyA hnq1) (fun r => ceSkyA ad cy r hnq1) hσ12 dX1_drift_112 (fun H locs hw => ?_)
        refine lv_aload_n hx hb dX1_drift_113 rfl (lv_at hl 3 rfl) ?_
        refine zget E hw (ltSky hnq1) (ceSky ad cy _ hnq1) rfl inX10 5 (by decide) k1_124 (fun _ h => h) rfl dX1_drift_114 ?_
        refine lv_iload hx hb dX1_drift_117 (lv_at hl 6 rfl) ?_
        refine lv_dup2_11 hx hb dX1_drift_119 rfl rfl ?_
        obtain ⟨vq13, hvq13, hf⟩ := bd_e hf
        refine zaldr E hw (ltSkyB hnq1) (fun r => ceSkyB ad cy r hnq1) hvq13 dX1_drift_120 ?_
        refine lv_iload hx hb dX1_drift_121 (lv_at hl 0 rfl) ?_
        refine lv_isub hx hb dX1_drift_123 ?_
        obtain ⟨σ14, hσ14, hf⟩ := bd_e hf
        refine zastr E hw (ltSkyB hnq1) (fun r => ceSkyB ad cy r hnq1) hσ14 dX1_drift_124 (fun H locs hw => ?_)
        refine lv_iinc (v := (xq4 + 1)) (lv' := [(4, .int (xq4 + 1)), (6, .int vq10), (5, .int vq7), (0, .ref (ad 24)), (1, .ref (ad nq1)), (2, .int xq2), (3, .int xq3)]) hx hb dX1_drift_125 hl (k := 6) rfl (by rfl) (by decide) rfl (fun ls hl => ?_)
        refine lv_goto (tgt := 25) hx hb dX1_drift_128 (by decide) ?_
        exact hkq25 (xq4 + 1) σ14 _ _ _ hw (lv_sub hl [3, 4, 5, 6, 0] rfl) hf
  have hL25 : ∀ (nq1 : Nat) (hnq1 : isSky nq1) (xq2 : Int32) (xq3 : Int32) (n : Nat) (xq4 : Int32) (σ : Sg) (H : Heap) (locs : List Loc) (ls : Array Slot), ZS D 97 (celC ad cy) ad A s σ H locs → lv_has ls 7 [(0, .ref (ad 24)), (1, .ref (ad nq1)), (2, .int xq2), (3, .int xq3), (4, .int xq4)] → f_X1_drift_l25 nq1 xq2 xq3 n xq4 σ = some σ9 → W p l e ({ frames := 3, cells := 0, slots := 0, locals := 66 } : Room) s m args below meth c H locs 0 0 (MQ below (zQv D 97 (celC ad cy) ad A σ9) args s 0 0 A) (F0 m 25 ls []) := by
    intro nq1 hnq1 xq2 xq3 n
    induction n with
    | zero =>
      intro xq4 σ H locs ls hw hl hf
      exact nn_e hf
    | succ n ih =>
      intro xq4 σ H locs ls hw hl hf
      exact hB25 nq1 hnq1 xq2 xq3 (f_X1_drift_l25 nq1 xq2 xq3 n) ih xq4 σ H locs ls hw hl hf
  unfold f_X1_drift at hf
  refine lv_aload_n hx hb dX1_drift_0 rfl (lv_at hl 0 rfl) ?_
  refine lv_aload_n hx hb dX1_drift_1 rfl (lv_at hl 1 rfl) ?_
  refine zget E hw (ltSky hnq1) (ceSky ad cy _ hnq1) rfl inX10 0 (by decide) k1_108 (fun _ h => h) rfl dX1_drift_2 ?_
  obtain ⟨vq1, hc, hf⟩ := bd_e hf
  refine zcali hw (va_runV (As := [.int (σ nq1 0)]) (rest := []) E.fix (c_X1_windOf (l := l) hA (σ nq1 0) σ hc) (zcV E k2_205 k1_11 k2_202 k2_203 k2_204 mf_X1_windOf rfl rfl ⟨Nat.le_of_ble_eq_true rfl, Nat.le_of_ble_eq_true rfl⟩) (zPreV E hw (Nat.le_of_ble_eq_true rfl) (ceC_24 ad cy _) rfl _) rfl rfl hl.1 rfl (lv_room (Nat.le_of_ble_eq_true rfl)) dX1_drift_5 ⟨Nat.zero_le _, Nat.zero_le _⟩) (fun H locs hw => ?_)
  refine lv_iconst (v := 4) hx hb dX1_drift_8 (by decide) ?_
  refine lv_idiv hx hb dX1_drift_9 (by decide) ?_
  refine lv_topi (fun vq2 evq2 => ?_)
  replace hf := lt_i evq2 hf
  refine lv_istore_n (lv' := [(2, .int vq2), (0, .ref (ad 24)), (1, .ref (ad nq1))]) hx hb dX1_drift_10 rfl hl (by decide) rfl (fun ls hl => ?_)
  refine lv_aload_n hx hb dX1_drift_11 rfl (lv_at hl 1 rfl) ?_
  refine lv_aload_n hx hb dX1_drift_12 rfl (lv_at hl 2 rfl) ?_
  refine zget E hw (ltSky hnq1) (ceSky ad cy _ hnq1) rfl inX10 0 (by decide) k1_108 (fun _ h => h) rfl dX1_drift_13 ?_
  obtain ⟨vq3, hc, hf⟩ := bd_e hf
  refine zcali hw (va_runV (As := [.int (σ nq1 0)]) (rest := []) E.fix (c_X1_windOf (l := l) hA (σ nq1 0) σ hc) (zcV E k2_205 k1_11 k2_202 k2_203 k2_204 mf_X1_windOf rfl rfl ⟨Nat.le_of_ble_eq_true rfl, Nat.le_of_ble_eq_true rfl⟩) (zPreV E hw (Nat.le_of_ble_eq_true rfl) (ceC_24 ad cy _) rfl _) rfl rfl hl.1 rfl (lv_room (Nat.le_of_ble_eq_true rfl)) dX1_drift_16 ⟨Nat.zero_le _, Nat.zero_le _⟩) (fun H locs hw => ?_)
  refine lv_iconst (v := 4) hx hb dX1_drift_19 (by decide) ?_
  refine zirem hx hb dX1_drift_20 (by decide) ?_
  refine lv_topi (fun vq4 evq4 => ?_)
  replace hf := lt_i evq4 hf
  refine lv_istore_n (lv' := [(3, .int vq4), (2, .int vq2), (0, .ref (ad 24)), (1, .ref (ad nq1))]) hx hb dX1_drift_21 rfl hl (by decide) rfl (fun ls hl => ?_)
  refine lv_iconst (v := 0) hx hb dX1_drift_22 (by decide) ?_
  refine lv_istore (lv' := [(4, .int 0), (3, .int vq4), (2, .int vq2), (0, .ref (ad 24)), (1, .ref (ad nq1))]) hx hb dX1_drift_23 hl (by decide) rfl (fun ls hl => ?_)
  exact hL25 nq1 hnq1 vq2 vq4 400 0 σ _ _ _ hw (lv_sub hl [3, 4, 2, 1, 0] rfl) hf
set_option maxRecDepth 100000 in
set_option maxHeartbeats 4000000 in
theorem c_X1_firstInReach {l : Launch} {D : va_G} {cy : Cy} {ad : Nat → Nat} {A : Nat → Prop} (hA : okAd 97 ad A) (nq1 : Nat) (hnq1 : isSky nq1) (σ : Sg) {r : Int32} (hf : f_X1_firstInReach nq1 σ = some r) : Met l yX1_firstInReach (.code yX1_firstInReach cX1_firstInReach 3 (some .int) :: TT) ({ frames := 3, cells := 0, slots := 0, locals := 64 } : Room) (zPc D cy 97 (celC ad cy) ad A [.ref (ad 24), .ref (ad nq1)] σ) (zQi D 97 (celC ad cy) ad A r σ) 0 0 A := by
  refine zofW (by decide) hA (Nat.le_of_ble_eq_true rfl) ?_
  intro p e s m args below meth c ls E hw hr hlk hl
  have E : ZE p s m args c cX1_firstInReach 3 "KiteSummons$County" D cy 97 ad A := E
  have hx := E.hx
  have hb := E.hb
  have hl : lv_has ls 3 [(0, .ref (ad 24)), (1, .ref (ad nq1))] := hl
  have hB2 : ∀ (nq1 : Nat) (hnq1 : isSky nq1) (kq2 : Int32 → Option Int32) (hkq2 : ∀ (xq2 : Int32) (H : Heap) (locs : List Loc) (ls : Array Slot), ZS D 97 (celC ad cy) ad A s σ H locs → lv_has ls 3 [(0, .ref (ad 24)), (1, .ref (ad nq1)), (2, .int xq2)] → kq2 xq2 = some r → W p l e ({ frames := 3, cells := 0, slots := 0, locals := 64 } : Room) s m args below meth c H locs 0 0 (MQ below (zQi D 97 (celC ad cy) ad A r σ) args s 0 0 A) (F0 m 2 ls [])) (xq2 : Int32) (H : Heap) (locs : List Loc) (ls : Array Slot), ZS D 97 (celC ad cy) ad A s σ H locs → lv_has ls 3 [(0, .ref (ad 24)), (1, .ref (ad nq1)), (2, .int xq2)] → f_X1_firstInReach_b2 kq2 nq1 σ xq2 = some r → W p l e ({ frames := 3, cells := 0, slots := 0, locals := 64 } : Room) s m args below meth c H locs 0 0 (MQ below (zQi D 97 (celC ad cy) ad A r σ) args s 0 0 A) (F0 m 2 ls []) := by
    intro nq1 hnq1 kq2 hkq2 xq2 H locs ls hw hl hf
    unfold f_X1_firstInReach_b2 at hf
    refine lv_iload_n hx hb dX1_firstInReach_2 rfl (lv_at hl 2 rfl) ?_
    refine lv_aload_n hx hb dX1_firstInReach_3 rfl (lv_at hl 0 rfl) ?_
    refine zget E hw (Nat.le_of_ble_eq_true rfl) (ceC_24 ad cy _) rfl inX1 1 (by decide) k2_9 (fun _ h => h) rfl dX1_firstInReach_4 ?_
    refine lv_icmp_ge (tgt := 49) hx hb dX1_firstInReach_7 (by decide) (fun h => ?_) (fun h => ?_)
    · replace hf := it_t h hf
      refine lv_iconst (v := (-1)) hx hb dX1_firstInReach_49 (by decide) ?_
      exact zreti E hw hr hlk (rt_1 hf) rfl dX1_firstInReach_50
    · replace hf := it_f h hf
      refine lv_aload_n hx hb dX1_firstInReach_10 rfl (lv_at hl 1 rfl) ?_
      refine zget E hw (ltSky hnq1) (ceSky ad cy _ hnq1) rfl inX10 2 (by decide) k1_114 (fun _ h => h) rfl dX1_firstInReach_11 ?_
      refine lv_iload_n hx hb dX1_firstInReach_14 rfl (lv_at hl 2 rfl) ?_
      refine zcali hw (va_runSN (As := [.int (σ nq1 2), .int xq2]) (rest := []) E.fix (c_X11_isIn (l := l) hA (σ nq1 2) xq2 σ rfl) (zcN E k2_197 k1_1 k4_35 k2_196 mf_X11_isIn rfl rfl ⟨Nat.le_of_ble_eq_true rfl, Nat.le_of_ble_eq_true rfl⟩) (zPre E hw _) rfl rfl hl.1 rfl (lv_room (Nat.le_of_ble_eq_true rfl)) dX1_firstInReach_15 ⟨Nat.zero_le _, Nat.zero_le _⟩) (fun H locs hw => ?_)
      refine lv_if_eq (tgt := 43) hx hb dX1_firstInReach_18 (by decide) (fun h => ?_) (fun h => ?_)
      · replace hf := it_f (b2i_0 h) hf
        refine lv_iinc (v := (xq2 + 1)) (lv' := [(2, .int (xq2 + 1)), (0, .ref (ad 24)), (1, .ref (ad nq1))]) hx hb dX1_firstInReach_43 hl (k := 2) rfl (by rfl) (by decide) rfl (fun ls hl => ?_)
        refine lv_goto (tgt := 2) hx hb dX1_firstInReach_46 (by decide) ?_
        exact hkq2 (xq2 + 1) _ _ _ hw (lv_sub hl [1, 2, 0] rfl) hf
      · replace hf := it_t (b2i_n h) hf
        refine lv_aload_n hx hb dX1_firstInReach_21 rfl (lv_at hl 0 rfl) ?_
        refine lv_aload_n hx hb dX1_firstInReach_22 rfl (lv_at hl 1 rfl) ?_
        refine lv_iload_n hx hb dX1_firstInReach_23 rfl (lv_at hl 2 rfl) ?_
        obtain ⟨vq1, hc, hf⟩ := bd_e hf
        refine zcali hw (va_runV (As := [.ref (ad nq1), .int xq2]) (rest := []) E.fix (c_X1_farFromFarm (l := l) hA nq1 hnq1 xq2 σ hc) (zcV E k3_34 k1_11 k3_31 k3_32 k3_33 mf_X1_farFromFarm rfl rfl ⟨Nat.le_of_ble_eq_true rfl, Nat.le_of_ble_eq_true rfl⟩) (zPreV E hw (Nat.le_of_ble_eq_true rfl) (ceC_24 ad cy _) rfl _) rfl rfl hl.1 rfl (lv_room (Nat.le_of_ble_eq_true rfl)) dX1_firstInReach_24 ⟨Nat.zero_le _, Nat.zero_le _⟩) (fun H locs hw => ?_)
        refine lv_aload_n hx hb dX1_firstInReach_27 rfl (lv_at hl 0 rfl) ?_
        refine zget E hw (Nat.le_of_ble_eq_true rfl) (ceC_24 ad cy _) rfl inX1 9 (by decide) k2_26 (fun _ h => h) rfl dX1_firstInReach_28 ?_
        refine lv_aload_n hx hb dX1_firstInReach_31 rfl (lv_at hl 0 rfl) ?_
        refine zget E hw (Nat.le_of_ble_eq_true rfl) (ceC_24 ad cy _) rfl inX1 6 (by decide) k2_20 (fun _ h => h) rfl dX1_firstInReach_32 ?_
        refine lv_iload_n hx hb dX1_firstInReach_35 rfl (lv_at hl 2 rfl) ?_
        obtain ⟨vq2, hvq2, hf⟩ := bd_e hf
        refine zaldr E hw (Nat.le_of_ble_eq_true rfl) (ceC_26 ad cy) hvq2 dX1_firstInReach_36 ?_
        obtain ⟨vq3, hvq3, hf⟩ := bd_e hf
        refine zaldr E hw (Nat.le_of_ble_eq_true rfl) (ceC_29 ad cy) hvq3 dX1_firstInReach_37 ?_
        refine lv_icmp_gt (tgt := 43) hx hb dX1_firstInReach_38 (by decide) (fun h => ?_) (fun h => ?_)
        · replace hf := it_t h hf
          refine lv_iinc (v := (xq2 + 1)) (lv' := [(2, .int (xq2 + 1)), (0, .ref (ad 24)), (1, .ref (ad nq1))]) hx hb dX1_firstInReach_43 hl (k := 2) rfl (by rfl) (by decide) rfl (fun ls hl => ?_)
          refine lv_goto (tgt := 2) hx hb dX1_firstInReach_46 (by decide) ?_
          exact hkq2 (xq2 + 1) _ _ _ hw (lv_sub hl [1, 2, 0] rfl) hf
        · replace hf := it_f h hf
          refine lv_iload_n hx hb dX1_firstInReach_41 rfl (lv_at hl 2 rfl) ?_
          exact zreti E hw hr hlk (rt_1 hf) rfl dX1_firstInReach_42
  have hL2 : ∀ (nq1 : Nat) (hnq1 : isSky nq1) (n : Nat) (xq2 : Int32) (H : Heap) (locs : List Loc) (ls : Array Slot), ZS D 97 (celC ad cy) ad A s σ H locs → lv_has ls 3 [(0, .ref (ad 24)), (1, .ref (ad nq1)), (2, .int xq2)] → f_X1_firstInReach_l2 nq1 σ n xq2 = some r → W p l e ({ frames := 3, cells := 0, slots := 0, locals := 64 } : Room) s m args below meth c H locs 0 0 (MQ below (zQi D 97 (celC ad cy) ad A r σ) args s 0 0 A) (F0 m 2 ls []) := by
    intro nq1 hnq1 n
    induction n with
    | zero =>
      intro xq2 H locs ls hw hl hf
      exact nn_e hf
    | succ n ih =>
      intro xq2 H locs ls hw hl hf
      exact hB2 nq1 hnq1 (f_X1_firstInReach_l2 nq1 σ n) ih xq2 H locs ls hw hl hf
  unfold f_X1_firstInReach at hf
  refine lv_iconst (v := 0) hx hb dX1_firstInReach_0 (by decide) ?_
  refine lv_istore_n (lv' := [(2, .int 0), (0, .ref (ad 24)), (1, .ref (ad nq1))]) hx hb dX1_firstInReach_1 rfl hl (by decide) rfl (fun ls hl => ?_)
  exact hL2 nq1 hnq1 400 0 _ _ _ hw (lv_sub hl [1, 2, 0] rfl) hf
set_option maxRecDepth 100000 in
set_option maxHeartbeats 4000000 in
theorem c_X1_tell {l : Launch} {D : va_G} {cy : Cy} {ad : Nat → Nat} {A : Nat → Prop} (hA : okAd 97 ad A) (nq1 : Nat) (hnq1 : isSky nq1) (xq2 : Int32) (σ : Sg) {r : Int32} {σ9 : Sg} (hf : f_X1_tell nq1 xq2 σ = some (r, σ9)) : Met l yX1_tell (.code yX1_tell cX1_tell 6 (some .int) :: TT) ({ frames := 3, cells := 0, slots := 0, locals := 71 } : Room) (zPc D cy 97 (celC ad cy) ad A [.ref (ad 24), .ref (ad nq1), .int xq2] σ) (zQi D 97 (celC ad cy) ad A r σ9) 0 0 A := by
  refine zofW (by decide) hA (Nat.le_of_ble_eq_true rfl) ?_
  intro p e s m args below meth c ls E hw hr hlk hl
  have E : ZE p s m args c cX1_tell 6 "KiteSummons$County" D cy 97 ad A := E
  have hx := E.hx
  have hb := E.hb
  have hl : lv_has ls 6 [(0, .ref (ad 24)), (1, .ref (ad nq1)), (2, .int xq2)] := hl
  have hB139 : ∀ (nq1 : Nat) (hnq1 : isSky nq1) (xq3 : Int32) (σ : Sg) (H : Heap) (locs : List Loc) (ls : Array Slot), ZS D 97 (celC ad cy) ad A s σ H locs → lv_has ls 6 [(1, .ref (ad nq1)), (3, .int xq3)] → f_X1_tell_b139 nq1 xq3 σ = some (r, σ9) → W p l e ({ frames := 3, cells := 0, slots := 0, locals := 71 } : Room) s m args below meth c H locs 0 0 (MQ below (zQi D 97 (celC ad cy) ad A r σ9) args s 0 0 A) (F0 m 139 ls []) := by
    intro nq1 hnq1 xq3 σ H locs ls hw hl hf
    unfold f_X1_tell_b139 at hf
    refine lv_aload_n hx hb dX1_tell_139 rfl (lv_at hl 0 rfl) ?_
    refine lv_dup hx hb dX1_tell_140 rfl ?_
    refine zget E hw (ltSky hnq1) (ceSky ad cy _ hnq1) rfl inX10 1 (by decide) k1_112 (fun _ h => h) rfl dX1_tell_141 ?_
    refine lv_iload_n hx hb dX1_tell_144 rfl (lv_at hl 1 rfl) ?_
    refine lv_iadd hx hb dX1_tell_145 ?_
    refine zputs E hw (ltSky hnq1) (ceSky ad cy _ hnq1) rfl inX10 tyX10 tyX10_ok nmX10 1 (by decide) k1_112 (fun _ h => h) rfl rfl rfl (Nat.le_of_ble_eq_true rfl) (j := 1) (Eq.trans (ceSky ad cy _ hnq1) (by rfl)) dX1_tell_146 (fun σ6 eσ6 H locs hw => ?_)
    replace hf := lt_i eσ6 hf
    refine lv_aload_n hx hb dX1_tell_149 rfl (lv_at hl 0 rfl) ?_
    refine lv_dup hx hb dX1_tell_150 rfl ?_
    refine zget E hw (ltSky hnq1) (ceSky ad cy _ hnq1) rfl inX10 0 (by decide) k1_108 (fun _ h => h) rfl dX1_tell_151 ?_
    refine lv_iconst (v := 1) hx hb dX1_tell_154 (by decide) ?_
    refine lv_iadd hx hb dX1_tell_155 ?_
    refine zputs E hw (ltSky hnq1) (ceSky ad cy _ hnq1) rfl inX10 tyX10 tyX10_ok nmX10 0 (by decide) k1_108 (fun _ h => h) rfl rfl rfl (Nat.le_of_ble_eq_true rfl) (j := 0) (Eq.trans (ceSky ad cy _ hnq1) (by rfl)) dX1_tell_156 (fun σ7 eσ7 H locs hw => ?_)
    replace hf := lt_i eσ7 hf
    refine lv_iload_n hx hb dX1_tell_159 rfl (lv_at hl 1 rfl) ?_
    exact zreti E hw hr hlk (rt_a hf) (rt_b hf) dX1_tell_160
  have hB68 : ∀ (nq1 : Nat) (hnq1 : isSky nq1) (xq2 : Int32) (xq3 : Int32) (xq4 : Int32) (xq5 : Int32) (σ : Sg) (H : Heap) (locs : List Loc) (ls : Array Slot), ZS D 97 (celC ad cy) ad A s σ H locs → lv_has ls 6 [(0, .ref (ad 24)), (1, .ref (ad nq1)), (2, .int xq2), (3, .int xq3), (4, .int xq4), (5, .int xq5)] → f_X1_tell_b68 nq1 xq2 xq3 xq4 xq5 σ = some (r, σ9) → W p l e ({ frames := 3, cells := 0, slots := 0, locals := 71 } : Room) s m args below meth c H locs 0 0 (MQ below (zQi D 97 (celC ad cy) ad A r σ9) args s 0 0 A) (F0 m 68 ls []) := by
    intro nq1 hnq1 xq2 xq3 xq4 xq5 σ H locs ls hw hl hf
    unfold f_X1_tell_b68 at hf
    refine lv_iload hx hb dX1_tell_68 (lv_at hl 5 rfl) ?_
    refine lv_iconst (v := 2) hx hb dX1_tell_70 (by decide) ?_
    refine lv_icmp_ne (tgt := 79) hx hb dX1_tell_71 (by decide) (fun h => ?_) (fun h => ?_)
    · replace hf := it_t h hf
      refine lv_iload hx hb dX1_tell_79 (lv_at hl 5 rfl) ?_
      refine lv_if_ne (tgt := 139) hx hb dX1_tell_81 (by decide) (fun h => ?_) (fun h => ?_)
      · replace hf := it_t h hf
        exact hB139 nq1 hnq1 xq3 σ _ _ _ hw (lv_sub hl [1, 3] rfl) hf
      · replace hf := it_n h hf
        refine lv_iload hx hb dX1_tell_84 (lv_at hl 4 rfl) ?_
        refine lv_aload_n hx hb dX1_tell_86 rfl (lv_at hl 0 rfl) ?_
        refine zget E hw (Nat.le_of_ble_eq_true rfl) (ceC_24 ad cy _) rfl inX1 9 (by decide) k2_26 (fun _ h => h) rfl dX1_tell_87 ?_
        refine lv_aload_n hx hb dX1_tell_90 rfl (lv_at hl 0 rfl) ?_
        refine zget E hw (Nat.le_of_ble_eq_true rfl) (ceC_24 ad cy _) rfl inX1 6 (by decide) k2_20 (fun _ h => h) rfl dX1_tell_91 ?_
        refine lv_iload_n hx hb dX1_tell_94 rfl (lv_at hl 2 rfl) ?_
        obtain ⟨vq8, hvq8, hf⟩ := bd_e hf
        refine zaldr E hw (Nat.le_of_ble_eq_true rfl) (ceC_26 ad cy) hvq8 dX1_tell_95 ?_
        obtain ⟨vq9, hvq9, hf⟩ := bd_e hf
        refine zaldr E hw (Nat.le_of_ble_eq_true rfl) (ceC_29 ad cy) hvq9 dX1_tell_96 ?_
        refine lv_icmp_gt (tgt := 139) hx hb dX1_tell_97 (by decide) (fun h => ?_) (fun h => ?_)
        · replace hf := it_t h hf
          exact hB139 nq1 hnq1 xq3 σ _ _ _ hw (lv_sub hl [1, 3] rfl) hf
        · replace hf := it_f h hf
          refine lv_aload_n hx hb dX1_tell_100 rfl (lv_at hl 1 rfl) ?_
          refine lv_aload_n hx hb dX1_tell_101 rfl (lv_at hl 1 rfl) ?_
          refine zget E hw (ltSky hnq1) (ceSky ad cy _ hnq1) rfl inX10 3 (by decide) k1_117 (fun _ h => h) rfl dX1_tell_102 ?_
          refine lv_iload_n hx hb dX1_tell_105 rfl (lv_at hl 2 rfl) ?_
          refine lv_iconst (v := 1) hx hb dX1_tell_106 (by decide) ?_
          refine zcali hw (va_runSN (As := [.int (σ nq1 3), .int xq2, .int 1]) (rest := [.ref (ad nq1)]) E.fix (c_X11_withBit (l := l) hA (σ nq1 3) xq2 1 σ rfl) (zcN E k2_186 k1_1 k2_184 k2_185 mf_X11_withBit rfl rfl ⟨Nat.le_of_ble_eq_true rfl, Nat.le_of_ble_eq_true rfl⟩) (zPre E hw _) rfl rfl hl.1 rfl (lv_room (Nat.le_of_ble_eq_true rfl)) dX1_tell_107 ⟨Nat.zero_le _, Nat.zero_le _⟩) (fun H locs hw => ?_)
          refine zputs E hw (ltSky hnq1) (ceSky ad cy _ hnq1) rfl inX10 tyX10 tyX10_ok nmX10 3 (by decide) k1_117 (fun _ h => h) rfl rfl rfl (Nat.le_of_ble_eq_true rfl) (j := 3) (Eq.trans (ceSky ad cy _ hnq1) (by rfl)) dX1_tell_110 (fun σ10 eσ10 H locs hw => ?_)
          replace hf := lt_i eσ10 hf
          refine lv_aload_n hx hb dX1_tell_113 rfl (lv_at hl 0 rfl) ?_
          refine zget E hw (Nat.le_of_ble_eq_true rfl) (ceC_24 ad cy _) rfl inX1 0 (by decide) k2_8 (fun _ h => h) rfl dX1_tell_114 ?_
          refine lv_aload_n hx hb dX1_tell_117 rfl (lv_at hl 0 rfl) ?_
          refine zget E hw (Nat.le_of_ble_eq_true rfl) (ceC_24 ad cy _) rfl inX1 5 (by decide) k2_18 (fun _ h => h) rfl dX1_tell_118 ?_
          refine lv_iload_n hx hb dX1_tell_121 rfl (lv_at hl 2 rfl) ?_
          obtain ⟨vq11, hvq11, hf⟩ := bd_e hf
          refine zaldr E hw (Nat.le_of_ble_eq_true rfl) (ceC_25 ad cy) hvq11 dX1_tell_122 ?_
          obtain ⟨hiq12, hf⟩ := gd_e hf
          refine zaldq E hw (Nat.le_of_ble_eq_true rfl) 3 rfl rfl (ceC_2 ad cy _) hiq12 dX1_tell_123 ?_
          refine lv_iload_n hx hb dX1_tell_124 rfl (lv_at hl 2 rfl) ?_
          refine vs_X1_122 hA E hw hl.1 (Nat.le_of_ble_eq_true rfl) (Nat.le_of_ble_eq_true rfl) (Nat.le_of_ble_eq_true rfl) (nlt hiq12) rfl dX1_tell_125 (fun H locs hw => ?_)
          refine lv_iconst (v := 0) hx hb dX1_tell_128 (by decide) ?_
          refine lv_bipush (v := 9) hx hb dX1_tell_129 (by decide) ?_
          refine lv_iload hx hb dX1_tell_131 (lv_at hl 4 rfl) ?_
          refine lv_isub hx hb dX1_tell_133 ?_
          refine zmmax E hl.1 (E.ht _ k4_51) (E.ht _ k2_223) (E.ht _ k1_15) (E.ht _ k2_224) (Nat.le_of_ble_eq_true rfl) (Nat.le_of_ble_eq_true rfl) dX1_tell_134 ?_
          refine lv_iadd hx hb dX1_tell_137 ?_
          refine lv_topi (fun vq13 evq13 => ?_)
          replace hf := lt_i evq13 hf
          refine lv_istore_n (lv' := [(3, .int vq13), (0, .ref (ad 24)), (1, .ref (ad nq1)), (2, .int xq2), (4, .int xq4), (5, .int xq5)]) hx hb dX1_tell_138 rfl hl (by decide) rfl (fun ls hl => ?_)
          exact hB139 nq1 hnq1 vq13 σ10 _ _ _ hw (lv_sub hl [2, 0] rfl) hf
    · replace hf := it_n h hf
      refine lv_iconst (v := 1) hx hb dX1_tell_74 (by decide) ?_
      refine lv_istore_n (lv' := [(3, .int 1), (0, .ref (ad 24)), (1, .ref (ad nq1)), (2, .int xq2), (4, .int xq4), (5, .int xq5)]) hx hb dX1_tell_75 rfl hl (by decide) rfl (fun ls hl => ?_)
      refine lv_goto (tgt := 139) hx hb dX1_tell_76 (by decide) ?_
      exact hB139 nq1 hnq1 1 σ _ _ _ hw (lv_sub hl [2, 0] rfl) hf
  unfold f_X1_tell at hf
  refine lv_iconst (v := 0) hx hb dX1_tell_0 (by decide) ?_
  refine lv_istore_n (lv' := [(3, .int 0), (0, .ref (ad 24)), (1, .ref (ad nq1)), (2, .int xq2)]) hx hb dX1_tell_1 rfl hl (by decide) rfl (fun ls hl => ?_)
  refine lv_iload_n hx hb dX1_tell_2 rfl (lv_at hl 3 rfl) ?_
  refine lv_iconst (v := (-1)) hx hb dX1_tell_3 (by decide) ?_
  refine lv_icmp_eq (tgt := 139) hx hb dX1_tell_4 (by decide) (fun h => ?_) (fun h => ?_)
  · replace hf := it_t h hf
    exact hB139 nq1 hnq1 0 σ _ _ _ hw (lv_sub hl [2, 0] rfl) hf
  · replace hf := it_f h hf
    refine lv_aload_n hx hb dX1_tell_7 rfl (lv_at hl 2 rfl) ?_
    refine zget E hw (ltSky hnq1) (ceSky ad cy _ hnq1) rfl inX10 2 (by decide) k1_114 (fun _ h => h) rfl dX1_tell_8 ?_
    refine lv_iload_n hx hb dX1_tell_11 rfl (lv_at hl 3 rfl) ?_
    refine zcali hw (va_runSN (As := [.int (σ nq1 2), .int xq2]) (rest := []) E.fix (c_X11_isIn (l := l) hA (σ nq1 2) xq2 σ rfl) (zcN E k2_197 k1_1 k4_35 k2_196 mf_X11_isIn rfl rfl ⟨Nat.le_of_ble_eq_true rfl, Nat.le_of_ble_eq_true rfl⟩) (zPre E hw _) rfl rfl hl.1 rfl (lv_room (Nat.le_of_ble_eq_true rfl)) dX1_tell_12 ⟨Nat.zero_le _, Nat.zero_le _⟩) (fun H locs hw => ?_)
    refine lv_if_eq (tgt := 139) hx hb dX1_tell_15 (by decide) (fun h => ?_) (fun h => ?_)
    · replace hf := it_f (b2i_0 h) hf
      exact hB139 nq1 hnq1 0 σ _ _ _ hw (lv_sub hl [2, 0] rfl) hf
    · replace hf := it_t (b2i_n h) hf
      refine lv_aload_n hx hb dX1_tell_18 rfl (lv_at hl 1 rfl) ?_
      refine lv_aload_n hx hb dX1_tell_19 rfl (lv_at hl 2 rfl) ?_
      refine lv_iload_n hx hb dX1_tell_20 rfl (lv_at hl 3 rfl) ?_
      obtain ⟨vq1, hc, hf⟩ := bd_e hf
      refine zcali hw (va_runV (As := [.ref (ad nq1), .int xq2]) (rest := []) E.fix (c_X1_farFromFarm (l := l) hA nq1 hnq1 xq2 σ hc) (zcV E k3_34 k1_11 k3_31 k3_32 k3_33 mf_X1_farFromFarm rfl rfl ⟨Nat.le_of_ble_eq_true rfl, Nat.le_of_ble_eq_true rfl⟩) (zPreV E hw (Nat.le_of_ble_eq_true rfl) (ceC_24 ad cy _) rfl _) rfl rfl hl.1 rfl (lv_room (Nat.le_of_ble_eq_true rfl)) dX1_tell_21 ⟨Nat.zero_le _, Nat.zero_le _⟩) (fun H locs hw => ?_)
      refine lv_istore (lv' := [(4, .int vq1), (3, .int 0), (0, .ref (ad 24)), (1, .ref (ad nq1)), (2, .int xq2)]) hx hb dX1_tell_24 hl (by decide) rfl (fun ls hl => ?_)
      refine lv_aload_n hx hb dX1_tell_26 rfl (lv_at hl 2 rfl) ?_
      refine lv_aload_n hx hb dX1_tell_27 rfl (lv_at hl 3 rfl) ?_
      refine lv_iload_n hx hb dX1_tell_28 rfl (lv_at hl 4 rfl) ?_
      refine lv_iload hx hb dX1_tell_29 (lv_at hl 0 rfl) ?_
      obtain ⟨σ2, hc, hf⟩ := bd_e hf
      refine zcalv hw (va_runV (As := [.ref (ad nq1), .int xq2, .int vq1]) (rest := []) E.fix (c_X1_layFacts (l := l) hA nq1 hnq1 xq2 vq1 σ hc) (zcV E k3_44 k1_11 k3_41 k3_43 kp1_1 mf_X1_layFacts rfl rfl ⟨Nat.le_of_ble_eq_true rfl, Nat.le_of_ble_eq_true rfl⟩) (zPreV E hw (Nat.le_of_ble_eq_true rfl) (ceC_24 ad cy _) rfl _) rfl rfl hl.1 rfl (lv_room (Nat.le_of_ble_eq_true rfl)) dX1_tell_31 ⟨Nat.zero_le _, Nat.zero_le _⟩) (fun H locs hw => ?_)
      refine lv_aload_n hx hb dX1_tell_34 rfl (lv_at hl 2 rfl) ?_
      refine zget E hw (Nat.le_of_ble_eq_true rfl) (ceC_24 ad cy _) rfl inX1 14 (by decide) k2_32 (fun _ h => h) rfl dX1_tell_35 ?_
      refine lv_aload_n hx hb dX1_tell_38 rfl (lv_at hl 2 rfl) ?_
      refine zget E hw (Nat.le_of_ble_eq_true rfl) (ceC_24 ad cy _) rfl inX1 5 (by decide) k2_18 (fun _ h => h) rfl dX1_tell_39 ?_
      refine lv_iload_n hx hb dX1_tell_42 rfl (lv_at hl 4 rfl) ?_
      obtain ⟨vq3, hvq3, hf⟩ := bd_e hf
      refine zaldr E hw (Nat.le_of_ble_eq_true rfl) (ceC_25 ad cy) hvq3 dX1_tell_43 ?_
      obtain ⟨vq4, hc, hf⟩ := bd_e hf
      refine zcali hw (va_runV (As := [.int vq3]) (rest := []) E.fix (c_X9_doFor (l := l) hA vq3 σ2 hc) (zcV E k3_48 k1_3 k3_45 k3_46 k3_47 mf_X9_doFor rfl rfl ⟨Nat.le_of_ble_eq_true rfl, Nat.le_of_ble_eq_true rfl⟩) (zPreV E hw (Nat.le_of_ble_eq_true rfl) (ceC_34 ad cy _) rfl _) rfl rfl hl.1 rfl (lv_room (Nat.le_of_ble_eq_true rfl)) dX1_tell_44 ⟨Nat.zero_le _, Nat.zero_le _⟩) (fun H locs hw => ?_)
      refine lv_istore (lv' := [(5, .int vq4), (4, .int vq1), (3, .int 0), (0, .ref (ad 24)), (1, .ref (ad nq1)), (2, .int xq2)]) hx hb dX1_tell_47 hl (by decide) rfl (fun ls hl => ?_)
      refine lv_iload hx hb dX1_tell_49 (lv_at hl 0 rfl) ?_
      refine lv_iconst (v := 1) hx hb dX1_tell_51 (by decide) ?_
      refine lv_icmp_eq (tgt := 68) hx hb dX1_tell_52 (by decide) (fun h => ?_) (fun h => ?_)
      · replace hf := it_t h hf
        exact hB68 nq1 hnq1 xq2 0 vq1 vq4 σ2 _ _ _ hw (lv_sub hl [3, 4, 5, 2, 1, 0] rfl) hf
      · replace hf := it_f h hf
        refine lv_aload_n hx hb dX1_tell_55 rfl (lv_at hl 4 rfl) ?_
        refine lv_aload_n hx hb dX1_tell_56 rfl (lv_at hl 4 rfl) ?_
        refine zget E hw (ltSky hnq1) (ceSky ad cy _ hnq1) rfl inX10 2 (by decide) k1_114 (fun _ h => h) rfl dX1_tell_57 ?_
        refine lv_iload_n hx hb dX1_tell_60 rfl (lv_at hl 5 rfl) ?_
        refine lv_iconst (v := 0) hx hb dX1_tell_61 (by decide) ?_
        refine zcali hw (va_runSN (As := [.int (σ2 nq1 2), .int xq2, .int 0]) (rest := [.ref (ad nq1)]) E.fix (c_X11_withBit (l := l) hA (σ2 nq1 2) xq2 0 σ2 rfl) (zcN E k2_186 k1_1 k2_184 k2_185 mf_X11_withBit rfl rfl ⟨Nat.le_of_ble_eq_true rfl, Nat.le_of_ble_eq_true rfl⟩) (zPre E hw _) rfl rfl hl.1 rfl (lv_room (Nat.le_of_ble_eq_true rfl)) dX1_tell_62 ⟨Nat.zero_le _, Nat.zero_le _⟩) (fun H locs hw => ?_)
        refine zputs E hw (ltSky hnq1) (ceSky ad cy _ hnq1) rfl inX10 tyX10 tyX10_ok nmX10 2 (by decide) k1_114 (fun _ h => h) rfl rfl rfl (Nat.le_of_ble_eq_true rfl) (j := 2) (Eq.trans (ceSky ad cy _ hnq1) (by rfl)) dX1_tell_65 (fun σ5 eσ5 H locs hw => ?_)
        replace hf := lt_i eσ5 hf
        exact hB68 nq1 hnq1 xq2 0 vq1 vq4 σ5 _ _ _ hw (lv_sub hl [3, 4, 5, 2, 1, 0] rfl) hf
set_option maxRecDepth 100000 in
set_option maxHeartbeats 4000000 in
theorem c_X1_goByRest {l : Launch} {D : va_G} {cy : Cy} {ad : Nat → Nat} {A : Nat → Prop} (hA : okAd 97 ad A) (nq1 : Nat) (hnq1 : isSky nq1) (σ : Sg) {r : Int32} {σ9 : Sg} (hf : f_X1_goByRest nq1 σ = some (r, σ9)) : Met l yX1_goByRest (.code yX1_goByRest cX1_goByRest 2 (some .int) :: TT) ({ frames := 4, cells := 0, slots := 0, locals := 96 } : Room) (zPc D cy 97 (celC ad cy) ad A [.ref (ad 24), .ref (ad nq1)] σ) (zQi D 97 (celC ad cy) ad A r σ9) 0 0 A := by
  refine zofW (by decide) hA (Nat.le_of_ble_eq_true rfl) ?_
  intro p e s m args below meth c ls E hw hr hlk hl
  have E : ZE p s m args c cX1_goByRest 2 "KiteSummons$County" D cy 97 ad A := E
  have hx := E.hx
  have hb := E.hb
  have hl : lv_has ls 2 [(0, .ref (ad 24)), (1, .ref (ad nq1))] := hl
  unfold f_X1_goByRest at hf
  refine lv_aload_n hx hb dX1_goByRest_0 rfl (lv_at hl 0 rfl) ?_
  refine lv_aload_n hx hb dX1_goByRest_1 rfl (lv_at hl 1 rfl) ?_
  obtain ⟨σ1, hc, hf⟩ := bd_e hf
  refine zcalv hw (va_runV (As := [.ref (ad nq1)]) (rest := []) E.fix (c_X1_drift (l := l) hA nq1 hnq1 σ hc) (zcV E k4_34 k1_11 k4_31 k4_33 kp2_4 mf_X1_drift rfl rfl ⟨Nat.le_of_ble_eq_true rfl, Nat.le_of_ble_eq_true rfl⟩) (zPreV E hw (Nat.le_of_ble_eq_true rfl) (ceC_24 ad cy _) rfl _) rfl rfl hl.1 rfl (lv_room (Nat.le_of_ble_eq_true rfl)) dX1_goByRest_2 ⟨Nat.zero_le _, Nat.zero_le _⟩) (fun H locs hw => ?_)
  refine lv_aload_n hx hb dX1_goByRest_5 rfl (lv_at hl 0 rfl) ?_
  refine lv_aload_n hx hb dX1_goByRest_6 rfl (lv_at hl 1 rfl) ?_
  refine lv_aload_n hx hb dX1_goByRest_7 rfl (lv_at hl 0 rfl) ?_
  refine lv_aload_n hx hb dX1_goByRest_8 rfl (lv_at hl 1 rfl) ?_
  obtain ⟨vq2, hc, hf⟩ := bd_e hf
  refine zcali hw (va_runV (As := [.ref (ad nq1)]) (rest := [.ref (ad nq1), .ref (ad 24)]) E.fix (c_X1_firstInReach (l := l) hA nq1 hnq1 σ1 hc) (zcV E k4_46 k1_11 k4_43 k4_45 kp2_5 mf_X1_firstInReach rfl rfl ⟨Nat.le_of_ble_eq_true rfl, Nat.le_of_ble_eq_true rfl⟩) (zPreV E hw (Nat.le_of_ble_eq_true rfl) (ceC_24 ad cy _) rfl _) rfl rfl hl.1 rfl (lv_room (Nat.le_of_ble_eq_true rfl)) dX1_goByRest_9 ⟨Nat.zero_le _, Nat.zero_le _⟩) (fun H locs hw => ?_)
  obtain ⟨vq3, σ4, hc, hf⟩ := bd2_e hf
  refine zcali hw (va_runV (As := [.ref (ad nq1), .int vq2]) (rest := []) E.fix (c_X1_tell (l := l) hA nq1 hnq1 vq2 σ1 hc) (zcV E k4_50 k1_11 k4_47 k4_49 kp2_6 mf_X1_tell rfl rfl ⟨Nat.le_of_ble_eq_true rfl, Nat.le_of_ble_eq_true rfl⟩) (zPreV E hw (Nat.le_of_ble_eq_true rfl) (ceC_24 ad cy _) rfl _) rfl rfl hl.1 rfl (lv_room (Nat.le_of_ble_eq_true rfl)) dX1_goByRest_12 ⟨Nat.zero_le _, Nat.zero_le _⟩) (fun H locs hw => ?_)
  exact zreti E hw hr hlk (rt_a hf) (rt_b hf) dX1_goByRest_15
set_option maxRecDepth 100000 in
set_option maxHeartbeats 4000000 in
theorem c_X11_gust {l : Launch} {D : va_G} {cy : Cy} {ad : Nat → Nat} {A : Nat → Prop} (hA : okAd 97 ad A) (σ : Sg) {r : Int32} {σ9 : Sg} (hf : f_X11_gust σ = some (r, σ9)) : Met l yX11_gust (.code yX11_gust cX11_gust 1 (some .int) :: TT) ({ frames := 5, cells := 0, slots := 0, locals := 117 } : Room) (zPc D cy 97 (celC ad cy) ad A [.ref (ad 0)] σ) (zQi D 97 (celC ad cy) ad A r σ9) 0 0 A := by
  refine zofW (by decide) hA (Nat.le_of_ble_eq_true rfl) ?_
  intro p e s m args below meth c ls E hw hr hlk hl
  have E : ZE p s m args c cX11_gust 1 "KiteSummons" D cy 97 ad A := E
  have hx := E.hx
  have hb := E.hb
  have hl : lv_has ls 1 [(0, .ref (ad 0))] := hl
  unfold f_X11_gust at hf
  refine lv_aload_n hx hb dX11_gust_0 rfl (lv_at hl 0 rfl) ?_
  refine zget E hw (Nat.le_of_ble_eq_true rfl) (ceC_0 ad cy _) rfl inX11 2 (by decide) k2_123 (fun _ h => h) rfl dX11_gust_1 ?_
  refine lv_aload_n hx hb dX11_gust_4 rfl (lv_at hl 0 rfl) ?_
  refine zget E hw (Nat.le_of_ble_eq_true rfl) (ceC_0 ad cy _) rfl inX11 2 (by decide) k2_123 (fun _ h => h) rfl dX11_gust_5 ?_
  refine zget E hw (Nat.le_of_ble_eq_true rfl) (ceC_24 ad cy _) rfl inX1 15 (by decide) k2_36 (fun _ h => h) rfl dX11_gust_8 ?_
  refine zcali hw (va_runV (As := [.ref (ad 41)]) (rest := []) E.fix (c_X1_isOver (l := l) hA 41 (by unfold isSky; omega) σ rfl) (zcV E k3_106 k1_11 k3_103 k3_104 k3_105 mf_X1_isOver rfl rfl ⟨Nat.le_of_ble_eq_true rfl, Nat.le_of_ble_eq_true rfl⟩) (zPreV E hw (Nat.le_of_ble_eq_true rfl) (ceC_24 ad cy _) rfl _) rfl rfl hl.1 rfl (lv_room (Nat.le_of_ble_eq_true rfl)) dX11_gust_11 ⟨Nat.zero_le _, Nat.zero_le _⟩) (fun H locs hw => ?_)
  refine lv_if_eq (tgt := 22) hx hb dX11_gust_14 (by decide) (fun h => ?_) (fun h => ?_)
  · replace hf := it_f (b2i_0 h) hf
    refine lv_aload_n hx hb dX11_gust_22 rfl (lv_at hl 0 rfl) ?_
    refine zget E hw (Nat.le_of_ble_eq_true rfl) (ceC_0 ad cy _) rfl inX11 2 (by decide) k2_123 (fun _ h => h) rfl dX11_gust_23 ?_
    refine lv_aload_n hx hb dX11_gust_26 rfl (lv_at hl 0 rfl) ?_
    refine zget E hw (Nat.le_of_ble_eq_true rfl) (ceC_0 ad cy _) rfl inX11 2 (by decide) k2_123 (fun _ h => h) rfl dX11_gust_27 ?_
    refine zget E hw (Nat.le_of_ble_eq_true rfl) (ceC_24 ad cy _) rfl inX1 15 (by decide) k2_36 (fun _ h => h) rfl dX11_gust_30 ?_
    obtain ⟨vq1, σ2, hc, hf⟩ := bd2_e hf
    refine zcali hw (va_runV (As := [.ref (ad 41)]) (rest := []) E.fix (c_X1_goByRest (l := l) hA 41 (by unfold isSky; omega) σ hc) (zcV E k4_30 k1_11 k4_27 k4_28 k4_29 mf_X1_goByRest rfl rfl ⟨Nat.le_of_ble_eq_true rfl, Nat.le_of_ble_eq_true rfl⟩) (zPreV E hw (Nat.le_of_ble_eq_true rfl) (ceC_24 ad cy _) rfl _) rfl rfl hl.1 rfl (lv_room (Nat.le_of_ble_eq_true rfl)) dX11_gust_33 ⟨Nat.zero_le _, Nat.zero_le _⟩) (fun H locs hw => ?_)
    exact zreti E hw hr hlk (rt_a hf) (rt_b hf) dX11_gust_36
  · replace hf := it_t (b2i_n h) hf
    refine lv_bipush (v := (-4)) hx hb dX11_gust_17 (by decide) ?_
    refine lv_goto (tgt := 36) hx hb dX11_gust_19 (by decide) ?_
    exact zreti E hw hr hlk (rt_a hf) (rt_b hf) dX11_gust_36
set_option maxRecDepth 100000 in
set_option maxHeartbeats 4000000 in
theorem c_X10_copy {l : Launch} {D : va_G} {cy : Cy} {ad : Nat → Nat} {A : Nat → Prop} (hA : okAd 97 ad A) (nq0 : Nat) (hnq0 : isSky nq0) (nq1 : Nat) (hnq1 : isSky nq1) (σ : Sg) {σ9 : Sg} (hf : f_X10_copy nq0 nq1 σ = σ9) : Met l yX10_copy (.code yX10_copy cX10_copy 2 none :: TT) ({ frames := 1, cells := 0, slots := 0, locals := 40 } : Room) (zPc D cy 97 (celC ad cy) ad A [.ref (ad nq0), .ref (ad nq1)] σ) (zQv D 97 (celC ad cy) ad A σ9) 0 0 A := by
  refine zofW (by decide) hA (Nat.le_of_ble_eq_true rfl) ?_
  intro p e s m args below meth c ls E hw hr hlk hl
  have E : ZE p s m args c cX10_copy 2 "KiteSummons$Sky" D cy 97 ad A := E
  have hx := E.hx
  have hb := E.hb
  have hl : lv_has ls 2 [(0, .ref (ad nq0)), (1, .ref (ad nq1))] := hl
  unfold f_X10_copy at hf
  refine lv_aload_n hx hb dX10_copy_0 rfl (lv_at hl 0 rfl) ?_
  refine lv_aload_n hx hb dX10_copy_1 rfl (lv_at hl 1 rfl) ?_
  refine zget E hw (ltSky hnq1) (ceSky ad cy _ hnq1) rfl inX10 0 (by decide) k1_107 (fun _ h => h) rfl dX10_copy_2 ?_
  refine zputs E hw (ltSky hnq0) (ceSky ad cy _ hnq0) rfl inX10 tyX10 tyX10_ok nmX10 0 (by decide) k1_107 (fun _ h => h) rfl rfl rfl (Nat.le_of_ble_eq_true rfl) (j := 0) (Eq.trans (ceSky ad cy _ hnq0) (by rfl)) dX10_copy_5 (fun σ1 eσ1 H locs hw => ?_)
  replace hf := lt_i eσ1 hf
  refine lv_aload_n hx hb dX10_copy_8 rfl (lv_at hl 0 rfl) ?_
  refine lv_aload_n hx hb dX10_copy_9 rfl (lv_at hl 1 rfl) ?_
  refine zget E hw (ltSky hnq1) (ceSky ad cy _ hnq1) rfl inX10 1 (by decide) k1_110 (fun _ h => h) rfl dX10_copy_10 ?_
  refine zputs E hw (ltSky hnq0) (ceSky ad cy _ hnq0) rfl inX10 tyX10 tyX10_ok nmX10 1 (by decide) k1_110 (fun _ h => h) rfl rfl rfl (Nat.le_of_ble_eq_true rfl) (j := 1) (Eq.trans (ceSky ad cy _ hnq0) (by rfl)) dX10_copy_13 (fun σ2 eσ2 H locs hw => ?_)
  replace hf := lt_i eσ2 hf
  refine lv_aload_n hx hb dX10_copy_16 rfl (lv_at hl 0 rfl) ?_
  refine lv_aload_n hx hb dX10_copy_17 rfl (lv_at hl 1 rfl) ?_
  refine zget E hw (ltSky hnq1) (ceSky ad cy _ hnq1) rfl inX10 2 (by decide) k1_113 (fun _ h => h) rfl dX10_copy_18 ?_
  refine zputs E hw (ltSky hnq0) (ceSky ad cy _ hnq0) rfl inX10 tyX10 tyX10_ok nmX10 2 (by decide) k1_113 (fun _ h => h) rfl rfl rfl (Nat.le_of_ble_eq_true rfl) (j := 2) (Eq.trans (ceSky ad cy _ hnq0) (by rfl)) dX10_copy_21 (fun σ3 eσ3 H locs hw => ?_)
  replace hf := lt_i eσ3 hf
  refine lv_aload_n hx hb dX10_copy_24 rfl (lv_at hl 0 rfl) ?_
  refine lv_aload_n hx hb dX10_copy_25 rfl (lv_at hl 1 rfl) ?_
  refine zget E hw (ltSky hnq1) (ceSky ad cy _ hnq1) rfl inX10 3 (by decide) k1_116 (fun _ h => h) rfl dX10_copy_26 ?_
  refine zputs E hw (ltSky hnq0) (ceSky ad cy _ hnq0) rfl inX10 tyX10 tyX10_ok nmX10 3 (by decide) k1_116 (fun _ h => h) rfl rfl rfl (Nat.le_of_ble_eq_true rfl) (j := 3) (Eq.trans (ceSky ad cy _ hnq0) (by rfl)) dX10_copy_29 (fun σ4 eσ4 H locs hw => ?_)
  replace hf := lt_i eσ4 hf
  refine lv_aload_n hx hb dX10_copy_32 rfl (lv_at hl 1 rfl) ?_
  refine zget E hw (ltSky hnq1) (ceSky ad cy _ hnq1) rfl inX10 4 (by decide) k1_120 (fun _ h => h) rfl dX10_copy_33 ?_
  refine lv_iconst (v := 0) hx hb dX10_copy_36 (by decide) ?_
  refine lv_aload_n hx hb dX10_copy_37 rfl (lv_at hl 0 rfl) ?_
  refine zget E hw (ltSky hnq0) (ceSky ad cy _ hnq0) rfl inX10 4 (by decide) k1_120 (fun _ h => h) rfl dX10_copy_38 ?_
  refine lv_iconst (v := 0) hx hb dX10_copy_41 (by decide) ?_
  refine lv_bipush (v := 6) hx hb dX10_copy_42 (by decide) ?_
  refine zcopy E hw hl.1 (E.ht _ k4_64) (E.ht _ k4_22) (E.ht _ k4_21) (E.ht _ k1_20) (ltSkyA hnq1) (fun r => ceSkyA ad cy r hnq1) (ltSkyA hnq0) (fun r => ceSkyA ad cy r hnq0) 6 ⟨by rfl, by decide⟩ (Nat.le_of_ble_eq_true rfl) (Nat.le_of_ble_eq_true rfl) (Nat.le_of_ble_eq_true rfl) (Nat.le_of_ble_eq_true rfl) dX10_copy_44 (fun σ5 eσ5 H locs hw => ?_)
  replace hf := lt_i eσ5 hf
  refine lv_aload_n hx hb dX10_copy_47 rfl (lv_at hl 1 rfl) ?_
  refine zget E hw (ltSky hnq1) (ceSky ad cy _ hnq1) rfl inX10 5 (by decide) k1_123 (fun _ h => h) rfl dX10_copy_48 ?_
  refine lv_iconst (v := 0) hx hb dX10_copy_51 (by decide) ?_
  refine lv_aload_n hx hb dX10_copy_52 rfl (lv_at hl 0 rfl) ?_
  refine zget E hw (ltSky hnq0) (ceSky ad cy _ hnq0) rfl inX10 5 (by decide) k1_123 (fun _ h => h) rfl dX10_copy_53 ?_
  refine lv_iconst (v := 0) hx hb dX10_copy_56 (by decide) ?_
  refine lv_bipush (v := 6) hx hb dX10_copy_57 (by decide) ?_
  refine zcopy E hw hl.1 (E.ht _ k4_64) (E.ht _ k4_22) (E.ht _ k4_21) (E.ht _ k1_20) (ltSkyB hnq1) (fun r => ceSkyB ad cy r hnq1) (ltSkyB hnq0) (fun r => ceSkyB ad cy r hnq0) 6 ⟨by rfl, by decide⟩ (Nat.le_of_ble_eq_true rfl) (Nat.le_of_ble_eq_true rfl) (Nat.le_of_ble_eq_true rfl) (Nat.le_of_ble_eq_true rfl) dX10_copy_59 (fun σ6 eσ6 H locs hw => ?_)
  replace hf := lt_i eσ6 hf
  exact zretv E hw hr hlk hf dX10_copy_62
