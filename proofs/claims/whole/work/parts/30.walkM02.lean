set_option maxRecDepth 100000 in
set_option maxHeartbeats 4000000 in
theorem c_X12_valueHere {l : Launch} {D : va_G} {cy : Cy} {ad : Nat → Nat} {A : Nat → Prop} (hA : okAd 17 ad A) (σ : Sg) {σ9 : Sg} (hf : f_X12_valueHere σ = some σ9) : Met l yX12_valueHere (.code yX12_valueHere cX12_valueHere 2 none :: TT) ({ frames := 5, cells := 0, slots := 0, locals := 111 } : Room) (zPc D cy 17 (celM ad cy) ad A [.ref (ad 0)] σ) (zQv D 17 (celM ad cy) ad A σ9) 0 0 A := by
  refine zofW (by decide) hA (Nat.le_of_ble_eq_true rfl) ?_
  intro p e s m args below meth c ls E hw hr hlk hl
  have E : ZE p s m args c cX12_valueHere 2 "KiteSummonsModel" D cy 17 ad A := E
  have hx := E.hx
  have hb := E.hb
  have hl : lv_has ls 2 [(0, .ref (ad 0))] := hl
  unfold f_X12_valueHere at hf
  refine lv_aload_n hx hb dX12_valueHere_0 rfl (lv_at hl 0 rfl) ?_
  obtain ⟨vq1, hc, hf⟩ := bd_e hf
  refine zcali hw (va_runV (As := []) (rest := []) E.fix (c_X12_factHere (l := l) hA σ hc) (zcV E k8_55 k1_14 k8_52 k8_54 kp6_8 mf_X12_factHere rfl rfl ⟨Nat.le_of_ble_eq_true rfl, Nat.le_of_ble_eq_true rfl⟩) (zPreV E hw (Nat.le_of_ble_eq_true rfl) (ceM_0 ad cy _) rfl _) rfl rfl hl.1 rfl (lv_room (Nat.le_of_ble_eq_true rfl)) dX12_valueHere_1 ⟨Nat.zero_le _, Nat.zero_le _⟩) (fun H locs hw => ?_)
  refine lv_istore_n (lv' := [(1, .int vq1), (0, .ref (ad 0))]) hx hb dX12_valueHere_4 rfl hl (by decide) rfl (fun ls hl => ?_)
  refine lv_iload_n hx hb dX12_valueHere_5 rfl (lv_at hl 0 rfl) ?_
  refine lv_if_ge (tgt := 22) hx hb dX12_valueHere_6 (by decide) (fun h => ?_) (fun h => ?_)
  · replace hf := it_t h hf
    refine lv_aload_n hx hb dX12_valueHere_22 rfl (lv_at hl 1 rfl) ?_
    refine zget E hw (Nat.le_of_ble_eq_true rfl) (ceM_0 ad cy _) rfl inX12 27 (by decide) k6_10 (fun _ h => h) rfl dX12_valueHere_23 ?_
    refine lv_if_ne (tgt := 44) hx hb dX12_valueHere_26 (by decide) (fun h => ?_) (fun h => ?_)
    · replace hf := it_t h hf
      exact zretv E hw hr hlk (rt_1 hf) dX12_valueHere_44
    · replace hf := it_n h hf
      refine lv_aload_n hx hb dX12_valueHere_29 rfl (lv_at hl 1 rfl) ?_
      refine lv_sipush (v := 9999) hx hb dX12_valueHere_30 (by decide) ?_
      obtain ⟨σ2, hc, hf⟩ := bd_e hf
      refine zcalv hw (va_runV (As := [.int 9999]) (rest := []) E.fix (c_X12_number (l := l) hA 9999 σ hc) (zcV E k8_68 k1_14 k8_65 k8_67 kp6_10 mf_X12_number rfl rfl ⟨Nat.le_of_ble_eq_true rfl, Nat.le_of_ble_eq_true rfl⟩) (zPreV E hw (Nat.le_of_ble_eq_true rfl) (ceM_0 ad cy _) rfl _) rfl rfl hl.1 rfl (lv_room (Nat.le_of_ble_eq_true rfl)) dX12_valueHere_33 ⟨Nat.zero_le _, Nat.zero_le _⟩) (fun H locs hw => ?_)
      refine lv_aload_n hx hb dX12_valueHere_36 rfl (lv_at hl 1 rfl) ?_
      refine lv_aload_n hx hb dX12_valueHere_37 rfl (lv_at hl 1 rfl) ?_
      refine zget E hw (Nat.le_of_ble_eq_true rfl) (ceM_0 ad cy _) rfl inX12 24 (by decide) k6_7 (fun _ h => h) rfl dX12_valueHere_38 ?_
      obtain ⟨σ3, hc, hf⟩ := bd_e hf
      refine zcalv hw (va_runV (As := [.int (σ2 0 24)]) (rest := []) E.fix (c_X12_writes (l := l) hA (σ2 0 24) σ2 hc) (zcV E k8_64 k1_14 k8_61 k8_63 kp6_9 mf_X12_writes rfl rfl ⟨Nat.le_of_ble_eq_true rfl, Nat.le_of_ble_eq_true rfl⟩) (zPreV E hw (Nat.le_of_ble_eq_true rfl) (ceM_0 ad cy _) rfl _) rfl rfl hl.1 rfl (lv_room (Nat.le_of_ble_eq_true rfl)) dX12_valueHere_41 ⟨Nat.zero_le _, Nat.zero_le _⟩) (fun H locs hw => ?_)
      exact zretv E hw hr hlk (rt_1 hf) dX12_valueHere_44
  · replace hf := it_f h hf
    refine lv_aload_n hx hb dX12_valueHere_9 rfl (lv_at hl 1 rfl) ?_
    refine lv_iconst (v := 1) hx hb dX12_valueHere_10 (by decide) ?_
    obtain ⟨σ4, hc, hf⟩ := bd_e hf
    refine zcalv hw (va_runV (As := [.int 1]) (rest := []) E.fix (c_X12_wants (l := l) hA 1 σ hc) (zcV E k8_29 k1_14 k8_26 k8_28 kp6_2 mf_X12_wants rfl rfl ⟨Nat.le_of_ble_eq_true rfl, Nat.le_of_ble_eq_true rfl⟩) (zPreV E hw (Nat.le_of_ble_eq_true rfl) (ceM_0 ad cy _) rfl _) rfl rfl hl.1 rfl (lv_room (Nat.le_of_ble_eq_true rfl)) dX12_valueHere_11 ⟨Nat.zero_le _, Nat.zero_le _⟩) (fun H locs hw => ?_)
    refine lv_aload_n hx hb dX12_valueHere_14 rfl (lv_at hl 1 rfl) ?_
    refine lv_iload_n hx hb dX12_valueHere_15 rfl (lv_at hl 0 rfl) ?_
    obtain ⟨σ5, hc, hf⟩ := bd_e hf
    refine zcalv hw (va_runV (As := [.int vq1]) (rest := []) E.fix (c_X12_writes (l := l) hA vq1 σ4 hc) (zcV E k8_64 k1_14 k8_61 k8_63 kp6_9 mf_X12_writes rfl rfl ⟨Nat.le_of_ble_eq_true rfl, Nat.le_of_ble_eq_true rfl⟩) (zPreV E hw (Nat.le_of_ble_eq_true rfl) (ceM_0 ad cy _) rfl _) rfl rfl hl.1 rfl (lv_room (Nat.le_of_ble_eq_true rfl)) dX12_valueHere_16 ⟨Nat.zero_le _, Nat.zero_le _⟩) (fun H locs hw => ?_)
    refine lv_goto (tgt := 44) hx hb dX12_valueHere_19 (by decide) ?_
    exact zretv E hw hr hlk (rt_1 hf) dX12_valueHere_44
set_option maxRecDepth 100000 in
set_option maxHeartbeats 4000000 in
theorem c_X12_comparison {l : Launch} {D : va_G} {cy : Cy} {ad : Nat → Nat} {A : Nat → Prop} (hA : okAd 17 ad A) (σ : Sg) {σ9 : Sg} (hf : f_X12_comparison σ = some σ9) : Met l yX12_comparison (.code yX12_comparison cX12_comparison 2 none :: TT) ({ frames := 6, cells := 0, slots := 0, locals := 132 } : Room) (zPc D cy 17 (celM ad cy) ad A [.ref (ad 0)] σ) (zQv D 17 (celM ad cy) ad A σ9) 0 0 A := by
  refine zofW (by decide) hA (Nat.le_of_ble_eq_true rfl) ?_
  intro p e s m args below meth c ls E hw hr hlk hl
  have E : ZE p s m args c cX12_comparison 2 "KiteSummonsModel" D cy 17 ad A := E
  have hx := E.hx
  have hb := E.hb
  have hl : lv_has ls 2 [(0, .ref (ad 0))] := hl
  have hB48 : ∀ (xq1 : Int32) (tq1 : Int32) (σ : Sg) (H : Heap) (locs : List Loc) (ls : Array Slot), ZS D 17 (celM ad cy) ad A s σ H locs → lv_has ls 2 [(0, .ref (ad 0)), (1, .int xq1)] → f_X12_comparison_b48 xq1 tq1 σ = some σ9 → W p l e ({ frames := 6, cells := 0, slots := 0, locals := 132 } : Room) s m args below meth c H locs 0 0 (MQ below (zQv D 17 (celM ad cy) ad A σ9) args s 0 0 A) (F0 m 48 ls [.int tq1, .ref (ad 0)]) := by
    intro xq1 tq1 σ H locs ls hw hl hf
    unfold f_X12_comparison_b48 at hf
    obtain ⟨σ3, hc, hf⟩ := bd_e hf
    refine zcalv hw (va_runV (As := [.int tq1]) (rest := []) E.fix (c_X12_wants (l := l) hA tq1 σ hc) (zcV E k8_29 k1_14 k8_26 k8_28 kp6_2 mf_X12_wants rfl rfl ⟨Nat.le_of_ble_eq_true rfl, Nat.le_of_ble_eq_true rfl⟩) (zPreV E hw (Nat.le_of_ble_eq_true rfl) (ceM_0 ad cy _) rfl _) rfl rfl hl.1 rfl (lv_room (Nat.le_of_ble_eq_true rfl)) dX12_comparison_48 ⟨Nat.zero_le _, Nat.zero_le _⟩) (fun H locs hw => ?_)
    refine lv_aload_n hx hb dX12_comparison_51 rfl (lv_at hl 0 rfl) ?_
    obtain ⟨σ4, hc, hf⟩ := bd_e hf
    refine zcalv hw (va_runV (As := []) (rest := []) E.fix (c_X12_valueHere (l := l) hA σ3 hc) (zcV E k8_51 k1_14 k8_48 k8_50 kp6_7 mf_X12_valueHere rfl rfl ⟨Nat.le_of_ble_eq_true rfl, Nat.le_of_ble_eq_true rfl⟩) (zPreV E hw (Nat.le_of_ble_eq_true rfl) (ceM_0 ad cy _) rfl _) rfl rfl hl.1 rfl (lv_room (Nat.le_of_ble_eq_true rfl)) dX12_comparison_52 ⟨Nat.zero_le _, Nat.zero_le _⟩) (fun H locs hw => ?_)
    refine lv_aload_n hx hb dX12_comparison_55 rfl (lv_at hl 0 rfl) ?_
    refine lv_iload_n hx hb dX12_comparison_56 rfl (lv_at hl 1 rfl) ?_
    refine lv_bipush (v := 60) hx hb dX12_comparison_57 (by decide) ?_
    refine lv_icmp_ne (tgt := 67) hx hb dX12_comparison_59 (by decide) (fun h => ?_) (fun h => ?_)
    · replace hf := it_t h hf
      refine lv_iload_n hx hb dX12_comparison_67 rfl (lv_at hl 1 rfl) ?_
      refine lv_bipush (v := 61) hx hb dX12_comparison_68 (by decide) ?_
      refine lv_icmp_ne (tgt := 78) hx hb dX12_comparison_70 (by decide) (fun h => ?_) (fun h => ?_)
      · replace hf := it_t h hf
        refine lv_bipush (v := (-13)) hx hb dX12_comparison_78 (by decide) ?_
        obtain ⟨σ5, hc, hf⟩ := bd_e hf
        refine zcalv hw (va_runV (As := [.int (-13)]) (rest := []) E.fix (c_X12_writes (l := l) hA (-13) σ4 hc) (zcV E k8_64 k1_14 k8_61 k8_63 kp6_9 mf_X12_writes rfl rfl ⟨Nat.le_of_ble_eq_true rfl, Nat.le_of_ble_eq_true rfl⟩) (zPreV E hw (Nat.le_of_ble_eq_true rfl) (ceM_0 ad cy _) rfl _) rfl rfl hl.1 rfl (lv_room (Nat.le_of_ble_eq_true rfl)) dX12_comparison_80 ⟨Nat.zero_le _, Nat.zero_le _⟩) (fun H locs hw => ?_)
        exact zretv E hw hr hlk (rt_1 hf) dX12_comparison_83
      · replace hf := it_n h hf
        refine lv_bipush (v := (-12)) hx hb dX12_comparison_73 (by decide) ?_
        refine lv_goto (tgt := 80) hx hb dX12_comparison_75 (by decide) ?_
        obtain ⟨σ6, hc, hf⟩ := bd_e hf
        refine zcalv hw (va_runV (As := [.int (-12)]) (rest := []) E.fix (c_X12_writes (l := l) hA (-12) σ4 hc) (zcV E k8_64 k1_14 k8_61 k8_63 kp6_9 mf_X12_writes rfl rfl ⟨Nat.le_of_ble_eq_true rfl, Nat.le_of_ble_eq_true rfl⟩) (zPreV E hw (Nat.le_of_ble_eq_true rfl) (ceM_0 ad cy _) rfl _) rfl rfl hl.1 rfl (lv_room (Nat.le_of_ble_eq_true rfl)) dX12_comparison_80 ⟨Nat.zero_le _, Nat.zero_le _⟩) (fun H locs hw => ?_)
        exact zretv E hw hr hlk (rt_1 hf) dX12_comparison_83
    · replace hf := it_n h hf
      refine lv_bipush (v := (-11)) hx hb dX12_comparison_62 (by decide) ?_
      refine lv_goto (tgt := 80) hx hb dX12_comparison_64 (by decide) ?_
      obtain ⟨σ7, hc, hf⟩ := bd_e hf
      refine zcalv hw (va_runV (As := [.int (-11)]) (rest := []) E.fix (c_X12_writes (l := l) hA (-11) σ4 hc) (zcV E k8_64 k1_14 k8_61 k8_63 kp6_9 mf_X12_writes rfl rfl ⟨Nat.le_of_ble_eq_true rfl, Nat.le_of_ble_eq_true rfl⟩) (zPreV E hw (Nat.le_of_ble_eq_true rfl) (ceM_0 ad cy _) rfl _) rfl rfl hl.1 rfl (lv_room (Nat.le_of_ble_eq_true rfl)) dX12_comparison_80 ⟨Nat.zero_le _, Nat.zero_le _⟩) (fun H locs hw => ?_)
      exact zretv E hw hr hlk (rt_1 hf) dX12_comparison_83
  have hB23 : ∀ (tq0 : Int32) (σ : Sg) (H : Heap) (locs : List Loc) (ls : Array Slot), ZS D 17 (celM ad cy) ad A s σ H locs → lv_has ls 2 [(0, .ref (ad 0))] → f_X12_comparison_b23 tq0 σ = some σ9 → W p l e ({ frames := 6, cells := 0, slots := 0, locals := 132 } : Room) s m args below meth c H locs 0 0 (MQ below (zQv D 17 (celM ad cy) ad A σ9) args s 0 0 A) (F0 m 23 ls [.int tq0]) := by
    intro tq0 σ H locs ls hw hl hf
    unfold f_X12_comparison_b23 at hf
    refine lv_istore_n (lv' := [(1, .int tq0), (0, .ref (ad 0))]) hx hb dX12_comparison_23 rfl hl (by decide) rfl (fun ls hl => ?_)
    refine lv_aload_n hx hb dX12_comparison_24 rfl (lv_at hl 1 rfl) ?_
    refine lv_iload_n hx hb dX12_comparison_25 rfl (lv_at hl 0 rfl) ?_
    refine lv_bipush (v := 60) hx hb dX12_comparison_26 (by decide) ?_
    refine lv_icmp_eq (tgt := 43) hx hb dX12_comparison_28 (by decide) (fun h => ?_) (fun h => ?_)
    · replace hf := it_t h hf
      refine lv_iconst (v := 1) hx hb dX12_comparison_43 (by decide) ?_
      refine lv_goto (tgt := 48) hx hb dX12_comparison_44 (by decide) ?_
      exact hB48 tq0 1 σ _ _ _ hw (lv_sub hl [1, 0] rfl) hf
    · replace hf := it_f h hf
      refine lv_iload_n hx hb dX12_comparison_31 rfl (lv_at hl 0 rfl) ?_
      refine lv_bipush (v := 61) hx hb dX12_comparison_32 (by decide) ?_
      refine lv_icmp_eq (tgt := 43) hx hb dX12_comparison_34 (by decide) (fun h => ?_) (fun h => ?_)
      · replace hf := it_t h hf
        refine lv_iconst (v := 1) hx hb dX12_comparison_43 (by decide) ?_
        refine lv_goto (tgt := 48) hx hb dX12_comparison_44 (by decide) ?_
        exact hB48 tq0 1 σ _ _ _ hw (lv_sub hl [1, 0] rfl) hf
      · replace hf := it_f h hf
        refine lv_iload_n hx hb dX12_comparison_37 rfl (lv_at hl 0 rfl) ?_
        refine lv_bipush (v := 62) hx hb dX12_comparison_38 (by decide) ?_
        refine lv_icmp_ne (tgt := 47) hx hb dX12_comparison_40 (by decide) (fun h => ?_) (fun h => ?_)
        · replace hf := it_t h hf
          refine lv_iconst (v := 0) hx hb dX12_comparison_47 (by decide) ?_
          exact hB48 tq0 0 σ _ _ _ hw (lv_sub hl [1, 0] rfl) hf
        · replace hf := it_n h hf
          refine lv_iconst (v := 1) hx hb dX12_comparison_43 (by decide) ?_
          refine lv_goto (tgt := 48) hx hb dX12_comparison_44 (by decide) ?_
          exact hB48 tq0 1 σ _ _ _ hw (lv_sub hl [1, 0] rfl) hf
  unfold f_X12_comparison at hf
  refine lv_aload_n hx hb dX12_comparison_0 rfl (lv_at hl 0 rfl) ?_
  obtain ⟨σ1, hc, hf⟩ := bd_e hf
  refine zcalv hw (va_runV (As := []) (rest := []) E.fix (c_X12_valueHere (l := l) hA σ hc) (zcV E k8_51 k1_14 k8_48 k8_50 kp6_7 mf_X12_valueHere rfl rfl ⟨Nat.le_of_ble_eq_true rfl, Nat.le_of_ble_eq_true rfl⟩) (zPreV E hw (Nat.le_of_ble_eq_true rfl) (ceM_0 ad cy _) rfl _) rfl rfl hl.1 rfl (lv_room (Nat.le_of_ble_eq_true rfl)) dX12_comparison_1 ⟨Nat.zero_le _, Nat.zero_le _⟩) (fun H locs hw => ?_)
  refine lv_aload_n hx hb dX12_comparison_4 rfl (lv_at hl 0 rfl) ?_
  refine zget E hw (Nat.le_of_ble_eq_true rfl) (ceM_0 ad cy _) rfl inX12 27 (by decide) k6_10 (fun _ h => h) rfl dX12_comparison_5 ?_
  refine lv_if_eq (tgt := 15) hx hb dX12_comparison_8 (by decide) (fun h => ?_) (fun h => ?_)
  · replace hf := it_t h hf
    refine lv_aload_n hx hb dX12_comparison_15 rfl (lv_at hl 0 rfl) ?_
    refine lv_aload_n hx hb dX12_comparison_16 rfl (lv_at hl 0 rfl) ?_
    refine zget E hw (Nat.le_of_ble_eq_true rfl) (ceM_0 ad cy _) rfl inX12 22 (by decide) k6_5 (fun _ h => h) rfl dX12_comparison_17 ?_
    obtain ⟨vq2, hc, hf⟩ := bd_e hf
    refine zcali hw (va_runV (As := [.int (σ1 0 22)]) (rest := []) E.fix (c_X12_byteAt (l := l) hA (σ1 0 22) σ1 hc) (zcV E k7_235 k1_14 k7_232 k7_234 kp5_14 mf_X12_byteAt rfl rfl ⟨Nat.le_of_ble_eq_true rfl, Nat.le_of_ble_eq_true rfl⟩) (zPreV E hw (Nat.le_of_ble_eq_true rfl) (ceM_0 ad cy _) rfl _) rfl rfl hl.1 rfl (lv_room (Nat.le_of_ble_eq_true rfl)) dX12_comparison_20 ⟨Nat.zero_le _, Nat.zero_le _⟩) (fun H locs hw => ?_)
    exact hB23 vq2 σ1 _ _ _ hw (lv_sub hl [0] rfl) hf
  · replace hf := it_f h hf
    refine lv_iconst (v := (-1)) hx hb dX12_comparison_11 (by decide) ?_
    refine lv_goto (tgt := 23) hx hb dX12_comparison_12 (by decide) ?_
    exact hB23 (-1) σ1 _ _ _ hw (lv_sub hl [0] rfl) hf
set_option maxRecDepth 100000 in
set_option maxHeartbeats 4000000 in
theorem c_X12_one {l : Launch} {D : va_G} {cy : Cy} {ad : Nat → Nat} {A : Nat → Prop} (hA : okAd 17 ad A) (rec : Sg → Option Sg) (d : Nat) (hrec : ∀ (σ : Sg) {σ9 : Sg}, rec σ = some σ9 → Met l yX12_condition (.code yX12_condition cX12_condition 1 none :: TT) ({ frames := 7 + 3 * d, cells := 0, slots := 0, locals := 153 + 61 * d } : Room) (zPc D cy 17 (celM ad cy) ad A [.ref (ad 0)] σ) (zQv D 17 (celM ad cy) ad A σ9) 0 0 A) (σ : Sg) {σ9 : Sg} (hf : f_X12_one rec σ = some σ9) : Met l yX12_one (.code yX12_one cX12_one 2 none :: TT) ({ frames := 8 + 3 * d, cells := 0, slots := 0, locals := 173 + 61 * d } : Room) (zPc D cy 17 (celM ad cy) ad A [.ref (ad 0)] σ) (zQv D 17 (celM ad cy) ad A σ9) 0 0 A := by
  refine zofW (by decide) hA (Nat.le_of_ble_eq_true rfl) ?_
  intro p e s m args below meth c ls E hw hr hlk hl
  have E : ZE p s m args c cX12_one 2 "KiteSummonsModel" D cy 17 ad A := E
  have hx := E.hx
  have hb := E.hb
  have hl : lv_has ls 2 [(0, .ref (ad 0))] := hl
  have hB128 : ∀ (xq1 : Int32) (σ : Sg) (H : Heap) (locs : List Loc) (ls : Array Slot), ZS D 17 (celM ad cy) ad A s σ H locs → lv_has ls 2 [(0, .ref (ad 0)), (1, .int xq1)] → f_X12_one_b128 rec xq1 σ = some σ9 → W p l e ({ frames := 8 + 3 * d, cells := 0, slots := 0, locals := 173 + 61 * d } : Room) s m args below meth c H locs 0 0 (MQ below (zQv D 17 (celM ad cy) ad A σ9) args s 0 0 A) (F0 m 128 ls []) := by
    intro xq1 σ H locs ls hw hl hf
    unfold f_X12_one_b128 at hf
    refine lv_iload_n hx hb dX12_one_128 rfl (lv_at hl 1 rfl) ?_
    refine lv_if_eq (tgt := 138) hx hb dX12_one_129 (by decide) (fun h => ?_) (fun h => ?_)
    · replace hf := it_t h hf
      exact zretv E hw hr hlk (rt_1 hf) dX12_one_138
    · replace hf := it_f h hf
      refine lv_aload_n hx hb dX12_one_132 rfl (lv_at hl 0 rfl) ?_
      refine lv_bipush (v := (-20)) hx hb dX12_one_133 (by decide) ?_
      obtain ⟨σ7, hc, hf⟩ := bd_e hf
      refine zcalv hw (va_runV (As := [.int (-20)]) (rest := []) E.fix (c_X12_writes (l := l) hA (-20) σ hc) (zcV E k8_64 k1_14 k8_61 k8_63 kp6_9 mf_X12_writes rfl rfl ⟨by dsimp only; omega, by dsimp only; omega⟩) (zPreV E hw (Nat.le_of_ble_eq_true rfl) (ceM_0 ad cy _) rfl _) rfl rfl hl.1 rfl (lv_room (Nat.le_of_ble_eq_true rfl)) dX12_one_135 ⟨Nat.zero_le _, Nat.zero_le _⟩) (fun H locs hw => ?_)
      exact zretv E hw hr hlk (rt_1 hf) dX12_one_138
  have hB65 : ∀ (xq1 : Int32) (tq1 : Int32) (σ : Sg) (H : Heap) (locs : List Loc) (ls : Array Slot), ZS D 17 (celM ad cy) ad A s σ H locs → lv_has ls 2 [(0, .ref (ad 0)), (1, .int xq1)] → f_X12_one_b65 rec xq1 tq1 σ = some σ9 → W p l e ({ frames := 8 + 3 * d, cells := 0, slots := 0, locals := 173 + 61 * d } : Room) s m args below meth c H locs 0 0 (MQ below (zQv D 17 (celM ad cy) ad A σ9) args s 0 0 A) (F0 m 65 ls [.int tq1, .ref (ad 0)]) := by
    intro xq1 tq1 σ H locs ls hw hl hf
    unfold f_X12_one_b65 at hf
    obtain ⟨σ8, hc, hf⟩ := bd_e hf
    refine zcalv hw (va_runV (As := [.int tq1]) (rest := []) E.fix (c_X12_wants (l := l) hA tq1 σ hc) (zcV E k8_29 k1_14 k8_26 k8_28 kp6_2 mf_X12_wants rfl rfl ⟨by dsimp only; omega, by dsimp only; omega⟩) (zPreV E hw (Nat.le_of_ble_eq_true rfl) (ceM_0 ad cy _) rfl _) rfl rfl hl.1 rfl (lv_room (Nat.le_of_ble_eq_true rfl)) dX12_one_65 ⟨Nat.zero_le _, Nat.zero_le _⟩) (fun H locs hw => ?_)
    refine lv_aload_n hx hb dX12_one_68 rfl (lv_at hl 0 rfl) ?_
    refine lv_dup hx hb dX12_one_69 rfl ?_
    refine zget E hw (Nat.le_of_ble_eq_true rfl) (ceM_0 ad cy _) rfl inX12 25 (by decide) k6_8 (fun _ h => h) rfl dX12_one_70 ?_
    refine lv_iconst (v := 1) hx hb dX12_one_73 (by decide) ?_
    refine lv_iadd hx hb dX12_one_74 ?_
    refine zputs E hw (Nat.le_of_ble_eq_true rfl) (ceM_0 ad cy _) rfl inX12 tyX12 tyX12_ok nmX12 25 (by decide) k6_8 (fun _ h => h) rfl rfl rfl (Nat.le_of_ble_eq_true rfl) (j := 25) (Eq.trans (ceM_0 ad cy _) (by rfl)) dX12_one_75 (fun σ9 eσ9 H locs hw => ?_)
    replace hf := lt_i eσ9 hf
    refine lv_aload_n hx hb dX12_one_78 rfl (lv_at hl 0 rfl) ?_
    obtain ⟨σ10, hc, hf⟩ := bd_e hf
    refine zcalv hw (va_runV (As := []) (rest := []) E.fix (hrec σ9 hc) (zcV E k8_34 k1_14 k8_31 k8_33 kp6_3 mf_X12_condition rfl rfl ⟨by dsimp only; omega, by dsimp only; omega⟩) (zPreV E hw (Nat.le_of_ble_eq_true rfl) (ceM_0 ad cy _) rfl _) rfl rfl hl.1 rfl (lv_room (Nat.le_of_ble_eq_true rfl)) dX12_one_79 ⟨Nat.zero_le _, Nat.zero_le _⟩) (fun H locs hw => ?_)
    refine lv_aload_n hx hb dX12_one_82 rfl (lv_at hl 0 rfl) ?_
    refine lv_dup hx hb dX12_one_83 rfl ?_
    refine zget E hw (Nat.le_of_ble_eq_true rfl) (ceM_0 ad cy _) rfl inX12 25 (by decide) k6_8 (fun _ h => h) rfl dX12_one_84 ?_
    refine lv_iconst (v := 1) hx hb dX12_one_87 (by decide) ?_
    refine lv_isub hx hb dX12_one_88 ?_
    refine zputs E hw (Nat.le_of_ble_eq_true rfl) (ceM_0 ad cy _) rfl inX12 tyX12 tyX12_ok nmX12 25 (by decide) k6_8 (fun _ h => h) rfl rfl rfl (Nat.le_of_ble_eq_true rfl) (j := 25) (Eq.trans (ceM_0 ad cy _) (by rfl)) dX12_one_89 (fun σ11 eσ11 H locs hw => ?_)
    replace hf := lt_i eσ11 hf
    refine lv_aload_n hx hb dX12_one_92 rfl (lv_at hl 0 rfl) ?_
    refine lv_aload_n hx hb dX12_one_93 rfl (lv_at hl 0 rfl) ?_
    refine zget E hw (Nat.le_of_ble_eq_true rfl) (ceM_0 ad cy _) rfl inX12 27 (by decide) k6_10 (fun _ h => h) rfl dX12_one_94 ?_
    refine lv_if_ne (tgt := 117) hx hb dX12_one_97 (by decide) (fun h => ?_) (fun h => ?_)
    · replace hf := it_t h hf
      refine lv_iconst (v := 0) hx hb dX12_one_117 (by decide) ?_
      obtain ⟨σ12, hc, hf⟩ := bd_e hf
      refine zcalv hw (va_runV (As := [.int 0]) (rest := []) E.fix (c_X12_wants (l := l) hA 0 σ11 hc) (zcV E k8_29 k1_14 k8_26 k8_28 kp6_2 mf_X12_wants rfl rfl ⟨by dsimp only; omega, by dsimp only; omega⟩) (zPreV E hw (Nat.le_of_ble_eq_true rfl) (ceM_0 ad cy _) rfl _) rfl rfl hl.1 rfl (lv_room (Nat.le_of_ble_eq_true rfl)) dX12_one_118 ⟨Nat.zero_le _, Nat.zero_le _⟩) (fun H locs hw => ?_)
      refine lv_goto (tgt := 128) hx hb dX12_one_121 (by decide) ?_
      exact hB128 xq1 σ12 _ _ _ hw (lv_sub hl [0, 1] rfl) hf
    · replace hf := it_n h hf
      refine lv_aload_n hx hb dX12_one_100 rfl (lv_at hl 0 rfl) ?_
      refine lv_aload_n hx hb dX12_one_101 rfl (lv_at hl 0 rfl) ?_
      refine zget E hw (Nat.le_of_ble_eq_true rfl) (ceM_0 ad cy _) rfl inX12 22 (by decide) k6_5 (fun _ h => h) rfl dX12_one_102 ?_
      obtain ⟨vq13, hc, hf⟩ := bd_e hf
      refine zcali hw (va_runV (As := [.int (σ11 0 22)]) (rest := [.ref (ad 0)]) E.fix (c_X12_byteAt (l := l) hA (σ11 0 22) σ11 hc) (zcV E k7_235 k1_14 k7_232 k7_234 kp5_14 mf_X12_byteAt rfl rfl ⟨by dsimp only; omega, by dsimp only; omega⟩) (zPreV E hw (Nat.le_of_ble_eq_true rfl) (ceM_0 ad cy _) rfl _) rfl rfl hl.1 rfl (lv_room (Nat.le_of_ble_eq_true rfl)) dX12_one_105 ⟨Nat.zero_le _, Nat.zero_le _⟩) (fun H locs hw => ?_)
      refine lv_bipush (v := 41) hx hb dX12_one_108 (by decide) ?_
      refine lv_icmp_ne (tgt := 117) hx hb dX12_one_110 (by decide) (fun h => ?_) (fun h => ?_)
      · replace hf := it_t h hf
        refine lv_iconst (v := 0) hx hb dX12_one_117 (by decide) ?_
        obtain ⟨σ14, hc, hf⟩ := bd_e hf
        refine zcalv hw (va_runV (As := [.int 0]) (rest := []) E.fix (c_X12_wants (l := l) hA 0 σ11 hc) (zcV E k8_29 k1_14 k8_26 k8_28 kp6_2 mf_X12_wants rfl rfl ⟨by dsimp only; omega, by dsimp only; omega⟩) (zPreV E hw (Nat.le_of_ble_eq_true rfl) (ceM_0 ad cy _) rfl _) rfl rfl hl.1 rfl (lv_room (Nat.le_of_ble_eq_true rfl)) dX12_one_118 ⟨Nat.zero_le _, Nat.zero_le _⟩) (fun H locs hw => ?_)
        refine lv_goto (tgt := 128) hx hb dX12_one_121 (by decide) ?_
        exact hB128 xq1 σ14 _ _ _ hw (lv_sub hl [0, 1] rfl) hf
      · replace hf := it_n h hf
        refine lv_iconst (v := 1) hx hb dX12_one_113 (by decide) ?_
        refine lv_goto (tgt := 118) hx hb dX12_one_114 (by decide) ?_
        obtain ⟨σ15, hc, hf⟩ := bd_e hf
        refine zcalv hw (va_runV (As := [.int 1]) (rest := []) E.fix (c_X12_wants (l := l) hA 1 σ11 hc) (zcV E k8_29 k1_14 k8_26 k8_28 kp6_2 mf_X12_wants rfl rfl ⟨by dsimp only; omega, by dsimp only; omega⟩) (zPreV E hw (Nat.le_of_ble_eq_true rfl) (ceM_0 ad cy _) rfl _) rfl rfl hl.1 rfl (lv_room (Nat.le_of_ble_eq_true rfl)) dX12_one_118 ⟨Nat.zero_le _, Nat.zero_le _⟩) (fun H locs hw => ?_)
        refine lv_goto (tgt := 128) hx hb dX12_one_121 (by decide) ?_
        exact hB128 xq1 σ15 _ _ _ hw (lv_sub hl [0, 1] rfl) hf
  have hB2 : ∀ (kq2 : Int32 → Sg → Option Sg) (hkq2 : ∀ (xq1 : Int32) (σ : Sg) (H : Heap) (locs : List Loc) (ls : Array Slot), ZS D 17 (celM ad cy) ad A s σ H locs → lv_has ls 2 [(0, .ref (ad 0)), (1, .int xq1)] → kq2 xq1 σ = some σ9 → W p l e ({ frames := 8 + 3 * d, cells := 0, slots := 0, locals := 173 + 61 * d } : Room) s m args below meth c H locs 0 0 (MQ below (zQv D 17 (celM ad cy) ad A σ9) args s 0 0 A) (F0 m 2 ls [])) (xq1 : Int32) (σ : Sg) (H : Heap) (locs : List Loc) (ls : Array Slot), ZS D 17 (celM ad cy) ad A s σ H locs → lv_has ls 2 [(0, .ref (ad 0)), (1, .int xq1)] → f_X12_one_b2 rec kq2 xq1 σ = some σ9 → W p l e ({ frames := 8 + 3 * d, cells := 0, slots := 0, locals := 173 + 61 * d } : Room) s m args below meth c H locs 0 0 (MQ below (zQv D 17 (celM ad cy) ad A σ9) args s 0 0 A) (F0 m 2 ls []) := by
    intro kq2 hkq2 xq1 σ H locs ls hw hl hf
    unfold f_X12_one_b2 at hf
    refine lv_aload_n hx hb dX12_one_2 rfl (lv_at hl 0 rfl) ?_
    obtain ⟨vq1, hc, hf⟩ := bd_e hf
    refine zcall hw (va_runV (As := []) (rest := []) E.fix (c_X12_word (l := l) hA σ hc) (zcV E k8_17 k1_14 k8_14 k8_16 kp6_1 mf_X12_word rfl rfl ⟨by dsimp only; omega, by dsimp only; omega⟩) (zPreV E hw (Nat.le_of_ble_eq_true rfl) (ceM_0 ad cy _) rfl _) rfl rfl hl.1 rfl (lv_room (Nat.le_of_ble_eq_true rfl)) dX12_one_3 ⟨Nat.zero_le _, Nat.zero_le _⟩) (fun H locs hw => ?_)
    refine lv_ldc2 (v := 14836) hx hb E.hown (E.ht _ k8_43) dX12_one_6 ?_
    refine W.lcmp hx hb dX12_one_9 ?_
    refine lv_if_ne (tgt := 31) hx hb dX12_one_10 (by decide) (fun h => ?_) (fun h => ?_)
    · replace hf := it_t h hf
      refine lv_aload_n hx hb dX12_one_31 rfl (lv_at hl 0 rfl) ?_
      refine zget E hw (Nat.le_of_ble_eq_true rfl) (ceM_0 ad cy _) rfl inX12 27 (by decide) k6_10 (fun _ h => h) rfl dX12_one_32 ?_
      refine lv_if_ne (tgt := 124) hx hb dX12_one_35 (by decide) (fun h => ?_) (fun h => ?_)
      · replace hf := it_t h hf
        refine lv_aload_n hx hb dX12_one_124 rfl (lv_at hl 0 rfl) ?_
        obtain ⟨σ2, hc, hf⟩ := bd_e hf
        refine zcalv hw (va_runV (As := []) (rest := []) E.fix (c_X12_comparison (l := l) hA σ hc) (zcV E k8_47 k1_14 k8_44 k8_46 kp6_6 mf_X12_comparison rfl rfl ⟨by dsimp only; omega, by dsimp only; omega⟩) (zPreV E hw (Nat.le_of_ble_eq_true rfl) (ceM_0 ad cy _) rfl _) rfl rfl hl.1 rfl (lv_room (Nat.le_of_ble_eq_true rfl)) dX12_one_125 ⟨Nat.zero_le _, Nat.zero_le _⟩) (fun H locs hw => ?_)
        exact hB128 xq1 σ2 _ _ _ hw (lv_sub hl [0, 1] rfl) hf
      · replace hf := it_n h hf
        refine lv_aload_n hx hb dX12_one_38 rfl (lv_at hl 0 rfl) ?_
        refine lv_aload_n hx hb dX12_one_39 rfl (lv_at hl 0 rfl) ?_
        refine zget E hw (Nat.le_of_ble_eq_true rfl) (ceM_0 ad cy _) rfl inX12 22 (by decide) k6_5 (fun _ h => h) rfl dX12_one_40 ?_
        obtain ⟨vq3, hc, hf⟩ := bd_e hf
        refine zcali hw (va_runV (As := [.int (σ 0 22)]) (rest := []) E.fix (c_X12_byteAt (l := l) hA (σ 0 22) σ hc) (zcV E k7_235 k1_14 k7_232 k7_234 kp5_14 mf_X12_byteAt rfl rfl ⟨by dsimp only; omega, by dsimp only; omega⟩) (zPreV E hw (Nat.le_of_ble_eq_true rfl) (ceM_0 ad cy _) rfl _) rfl rfl hl.1 rfl (lv_room (Nat.le_of_ble_eq_true rfl)) dX12_one_43 ⟨Nat.zero_le _, Nat.zero_le _⟩) (fun H locs hw => ?_)
        refine lv_bipush (v := 40) hx hb dX12_one_46 (by decide) ?_
        refine lv_icmp_ne (tgt := 124) hx hb dX12_one_48 (by decide) (fun h => ?_) (fun h => ?_)
        · replace hf := it_t h hf
          refine lv_aload_n hx hb dX12_one_124 rfl (lv_at hl 0 rfl) ?_
          obtain ⟨σ4, hc, hf⟩ := bd_e hf
          refine zcalv hw (va_runV (As := []) (rest := []) E.fix (c_X12_comparison (l := l) hA σ hc) (zcV E k8_47 k1_14 k8_44 k8_46 kp6_6 mf_X12_comparison rfl rfl ⟨by dsimp only; omega, by dsimp only; omega⟩) (zPreV E hw (Nat.le_of_ble_eq_true rfl) (ceM_0 ad cy _) rfl _) rfl rfl hl.1 rfl (lv_room (Nat.le_of_ble_eq_true rfl)) dX12_one_125 ⟨Nat.zero_le _, Nat.zero_le _⟩) (fun H locs hw => ?_)
          exact hB128 xq1 σ4 _ _ _ hw (lv_sub hl [0, 1] rfl) hf
        · replace hf := it_n h hf
          refine lv_aload_n hx hb dX12_one_51 rfl (lv_at hl 0 rfl) ?_
          refine lv_aload_n hx hb dX12_one_52 rfl (lv_at hl 0 rfl) ?_
          refine zget E hw (Nat.le_of_ble_eq_true rfl) (ceM_0 ad cy _) rfl inX12 25 (by decide) k6_8 (fun _ h => h) rfl dX12_one_53 ?_
          refine lv_iconst (v := 3) hx hb dX12_one_56 (by decide) ?_
          refine lv_icmp_ge (tgt := 64) hx hb dX12_one_57 (by decide) (fun h => ?_) (fun h => ?_)
          · replace hf := it_t h hf
            refine lv_iconst (v := 0) hx hb dX12_one_64 (by decide) ?_
            exact hB65 xq1 0 σ _ _ _ hw (lv_sub hl [0, 1] rfl) hf
          · replace hf := it_f h hf
            refine lv_iconst (v := 1) hx hb dX12_one_60 (by decide) ?_
            refine lv_goto (tgt := 65) hx hb dX12_one_61 (by decide) ?_
            exact hB65 xq1 1 σ _ _ _ hw (lv_sub hl [0, 1] rfl) hf
    · replace hf := it_n h hf
      refine lv_iload_n hx hb dX12_one_13 rfl (lv_at hl 1 rfl) ?_
      refine lv_if_ne (tgt := 21) hx hb dX12_one_14 (by decide) (fun h => ?_) (fun h => ?_)
      · replace hf := it_t h hf
        refine lv_iconst (v := 0) hx hb dX12_one_21 (by decide) ?_
        refine lv_istore_n (lv' := [(1, .int 0), (0, .ref (ad 0))]) hx hb dX12_one_22 rfl hl (by decide) rfl (fun ls hl => ?_)
        refine lv_aload_n hx hb dX12_one_23 rfl (lv_at hl 1 rfl) ?_
        refine lv_iconst (v := 1) hx hb dX12_one_24 (by decide) ?_
        obtain ⟨σ5, hc, hf⟩ := bd_e hf
        refine zcalv hw (va_runV (As := [.int 1]) (rest := []) E.fix (c_X12_wants (l := l) hA 1 σ hc) (zcV E k8_29 k1_14 k8_26 k8_28 kp6_2 mf_X12_wants rfl rfl ⟨by dsimp only; omega, by dsimp only; omega⟩) (zPreV E hw (Nat.le_of_ble_eq_true rfl) (ceM_0 ad cy _) rfl _) rfl rfl hl.1 rfl (lv_room (Nat.le_of_ble_eq_true rfl)) dX12_one_25 ⟨Nat.zero_le _, Nat.zero_le _⟩) (fun H locs hw => ?_)
        refine lv_goto (tgt := 2) hx hb dX12_one_28 (by decide) ?_
        exact hkq2 0 σ5 _ _ _ hw (lv_sub hl [1, 0] rfl) hf
      · replace hf := it_n h hf
        refine lv_iconst (v := 1) hx hb dX12_one_17 (by decide) ?_
        refine lv_goto (tgt := 22) hx hb dX12_one_18 (by decide) ?_
        refine lv_istore_n (lv' := [(1, .int 1), (0, .ref (ad 0))]) hx hb dX12_one_22 rfl hl (by decide) rfl (fun ls hl => ?_)
        refine lv_aload_n hx hb dX12_one_23 rfl (lv_at hl 1 rfl) ?_
        refine lv_iconst (v := 1) hx hb dX12_one_24 (by decide) ?_
        obtain ⟨σ6, hc, hf⟩ := bd_e hf
        refine zcalv hw (va_runV (As := [.int 1]) (rest := []) E.fix (c_X12_wants (l := l) hA 1 σ hc) (zcV E k8_29 k1_14 k8_26 k8_28 kp6_2 mf_X12_wants rfl rfl ⟨by dsimp only; omega, by dsimp only; omega⟩) (zPreV E hw (Nat.le_of_ble_eq_true rfl) (ceM_0 ad cy _) rfl _) rfl rfl hl.1 rfl (lv_room (Nat.le_of_ble_eq_true rfl)) dX12_one_25 ⟨Nat.zero_le _, Nat.zero_le _⟩) (fun H locs hw => ?_)
        refine lv_goto (tgt := 2) hx hb dX12_one_28 (by decide) ?_
        exact hkq2 1 σ6 _ _ _ hw (lv_sub hl [1, 0] rfl) hf
  have hL2 : ∀ (n : Nat) (xq1 : Int32) (σ : Sg) (H : Heap) (locs : List Loc) (ls : Array Slot), ZS D 17 (celM ad cy) ad A s σ H locs → lv_has ls 2 [(0, .ref (ad 0)), (1, .int xq1)] → f_X12_one_l2 rec n xq1 σ = some σ9 → W p l e ({ frames := 8 + 3 * d, cells := 0, slots := 0, locals := 173 + 61 * d } : Room) s m args below meth c H locs 0 0 (MQ below (zQv D 17 (celM ad cy) ad A σ9) args s 0 0 A) (F0 m 2 ls []) := by
    intro n
    induction n with
    | zero =>
      intro xq1 σ H locs ls hw hl hf
      exact nn_e hf
    | succ n ih =>
      intro xq1 σ H locs ls hw hl hf
      exact hB2 (f_X12_one_l2 rec n) ih xq1 σ H locs ls hw hl hf
  unfold f_X12_one at hf
  refine lv_iconst (v := 0) hx hb dX12_one_0 (by decide) ?_
  refine lv_istore_n (lv' := [(1, .int 0), (0, .ref (ad 0))]) hx hb dX12_one_1 rfl hl (by decide) rfl (fun ls hl => ?_)
  exact hL2 400 0 σ _ _ _ hw (lv_sub hl [1, 0] rfl) hf
set_option maxRecDepth 100000 in
set_option maxHeartbeats 4000000 in
theorem c_X12_all {l : Launch} {D : va_G} {cy : Cy} {ad : Nat → Nat} {A : Nat → Prop} (hA : okAd 17 ad A) (rec : Sg → Option Sg) (d : Nat) (hrec : ∀ (σ : Sg) {σ9 : Sg}, rec σ = some σ9 → Met l yX12_condition (.code yX12_condition cX12_condition 1 none :: TT) ({ frames := 7 + 3 * d, cells := 0, slots := 0, locals := 153 + 61 * d } : Room) (zPc D cy 17 (celM ad cy) ad A [.ref (ad 0)] σ) (zQv D 17 (celM ad cy) ad A σ9) 0 0 A) (σ : Sg) {σ9 : Sg} (hf : f_X12_all rec σ = some σ9) : Met l yX12_all (.code yX12_all cX12_all 1 none :: TT) ({ frames := 9 + 3 * d, cells := 0, slots := 0, locals := 194 + 61 * d } : Room) (zPc D cy 17 (celM ad cy) ad A [.ref (ad 0)] σ) (zQv D 17 (celM ad cy) ad A σ9) 0 0 A := by
  refine zofW (by decide) hA (Nat.le_of_ble_eq_true rfl) ?_
  intro p e s m args below meth c ls E hw hr hlk hl
  have E : ZE p s m args c cX12_all 1 "KiteSummonsModel" D cy 17 ad A := E
  have hx := E.hx
  have hb := E.hb
  have hl : lv_has ls 1 [(0, .ref (ad 0))] := hl
  have hB4 : ∀ (kq4 : Sg → Option Sg) (hkq4 : ∀ (σ : Sg) (H : Heap) (locs : List Loc) (ls : Array Slot), ZS D 17 (celM ad cy) ad A s σ H locs → lv_has ls 1 [(0, .ref (ad 0))] → kq4 σ = some σ9 → W p l e ({ frames := 9 + 3 * d, cells := 0, slots := 0, locals := 194 + 61 * d } : Room) s m args below meth c H locs 0 0 (MQ below (zQv D 17 (celM ad cy) ad A σ9) args s 0 0 A) (F0 m 4 ls [])) (σ : Sg) (H : Heap) (locs : List Loc) (ls : Array Slot), ZS D 17 (celM ad cy) ad A s σ H locs → lv_has ls 1 [(0, .ref (ad 0))] → f_X12_all_b4 rec kq4 σ = some σ9 → W p l e ({ frames := 9 + 3 * d, cells := 0, slots := 0, locals := 194 + 61 * d } : Room) s m args below meth c H locs 0 0 (MQ below (zQv D 17 (celM ad cy) ad A σ9) args s 0 0 A) (F0 m 4 ls []) := by
    intro kq4 hkq4 σ H locs ls hw hl hf
    unfold f_X12_all_b4 at hf
    refine lv_aload_n hx hb dX12_all_4 rfl (lv_at hl 0 rfl) ?_
    obtain ⟨vq2, hc, hf⟩ := bd_e hf
    refine zcall hw (va_runV (As := []) (rest := []) E.fix (c_X12_word (l := l) hA σ hc) (zcV E k8_17 k1_14 k8_14 k8_16 kp6_1 mf_X12_word rfl rfl ⟨by dsimp only; omega, by dsimp only; omega⟩) (zPreV E hw (Nat.le_of_ble_eq_true rfl) (ceM_0 ad cy _) rfl _) rfl rfl hl.1 rfl (lv_room (Nat.le_of_ble_eq_true rfl)) dX12_all_5 ⟨Nat.zero_le _, Nat.zero_le _⟩) (fun H locs hw => ?_)
    refine lv_ldc2 (v := 1476) hx hb E.hown (E.ht _ k8_69) dX12_all_8 ?_
    refine W.lcmp hx hb dX12_all_11 ?_
    refine lv_if_ne (tgt := 33) hx hb dX12_all_12 (by decide) (fun h => ?_) (fun h => ?_)
    · replace hf := it_t h hf
      exact zretv E hw hr hlk (rt_1 hf) dX12_all_33
    · replace hf := it_n h hf
      refine lv_aload_n hx hb dX12_all_15 rfl (lv_at hl 0 rfl) ?_
      refine lv_iconst (v := 1) hx hb dX12_all_16 (by decide) ?_
      obtain ⟨σ3, hc, hf⟩ := bd_e hf
      refine zcalv hw (va_runV (As := [.int 1]) (rest := []) E.fix (c_X12_wants (l := l) hA 1 σ hc) (zcV E k8_29 k1_14 k8_26 k8_28 kp6_2 mf_X12_wants rfl rfl ⟨by dsimp only; omega, by dsimp only; omega⟩) (zPreV E hw (Nat.le_of_ble_eq_true rfl) (ceM_0 ad cy _) rfl _) rfl rfl hl.1 rfl (lv_room (Nat.le_of_ble_eq_true rfl)) dX12_all_17 ⟨Nat.zero_le _, Nat.zero_le _⟩) (fun H locs hw => ?_)
      refine lv_aload_n hx hb dX12_all_20 rfl (lv_at hl 0 rfl) ?_
      obtain ⟨σ4, hc, hf⟩ := bd_e hf
      refine zcalv hw (va_runV (As := []) (rest := []) E.fix (c_X12_one (l := l) hA rec d hrec σ3 hc) (zcV E k8_42 k1_14 k8_39 k8_41 kp6_5 mf_X12_one rfl rfl ⟨by dsimp only; omega, by dsimp only; omega⟩) (zPreV E hw (Nat.le_of_ble_eq_true rfl) (ceM_0 ad cy _) rfl _) rfl rfl hl.1 rfl (lv_room (Nat.le_of_ble_eq_true rfl)) dX12_all_21 ⟨Nat.zero_le _, Nat.zero_le _⟩) (fun H locs hw => ?_)
      refine lv_aload_n hx hb dX12_all_24 rfl (lv_at hl 0 rfl) ?_
      refine lv_bipush (v := (-21)) hx hb dX12_all_25 (by decide) ?_
      obtain ⟨σ5, hc, hf⟩ := bd_e hf
      refine zcalv hw (va_runV (As := [.int (-21)]) (rest := []) E.fix (c_X12_writes (l := l) hA (-21) σ4 hc) (zcV E k8_64 k1_14 k8_61 k8_63 kp6_9 mf_X12_writes rfl rfl ⟨by dsimp only; omega, by dsimp only; omega⟩) (zPreV E hw (Nat.le_of_ble_eq_true rfl) (ceM_0 ad cy _) rfl _) rfl rfl hl.1 rfl (lv_room (Nat.le_of_ble_eq_true rfl)) dX12_all_27 ⟨Nat.zero_le _, Nat.zero_le _⟩) (fun H locs hw => ?_)
      refine lv_goto (tgt := 4) hx hb dX12_all_30 (by decide) ?_
      exact hkq4 σ5 _ _ _ hw (lv_sub hl [0] rfl) hf
  have hL4 : ∀ (n : Nat) (σ : Sg) (H : Heap) (locs : List Loc) (ls : Array Slot), ZS D 17 (celM ad cy) ad A s σ H locs → lv_has ls 1 [(0, .ref (ad 0))] → f_X12_all_l4 rec n σ = some σ9 → W p l e ({ frames := 9 + 3 * d, cells := 0, slots := 0, locals := 194 + 61 * d } : Room) s m args below meth c H locs 0 0 (MQ below (zQv D 17 (celM ad cy) ad A σ9) args s 0 0 A) (F0 m 4 ls []) := by
    intro n
    induction n with
    | zero =>
      intro σ H locs ls hw hl hf
      exact nn_e hf
    | succ n ih =>
      intro σ H locs ls hw hl hf
      exact hB4 (f_X12_all_l4 rec n) ih σ H locs ls hw hl hf
  unfold f_X12_all at hf
  refine lv_aload_n hx hb dX12_all_0 rfl (lv_at hl 0 rfl) ?_
  obtain ⟨σ1, hc, hf⟩ := bd_e hf
  refine zcalv hw (va_runV (As := []) (rest := []) E.fix (c_X12_one (l := l) hA rec d hrec σ hc) (zcV E k8_42 k1_14 k8_39 k8_41 kp6_5 mf_X12_one rfl rfl ⟨by dsimp only; omega, by dsimp only; omega⟩) (zPreV E hw (Nat.le_of_ble_eq_true rfl) (ceM_0 ad cy _) rfl _) rfl rfl hl.1 rfl (lv_room (Nat.le_of_ble_eq_true rfl)) dX12_all_1 ⟨Nat.zero_le _, Nat.zero_le _⟩) (fun H locs hw => ?_)
  exact hL4 400 σ1 _ _ _ hw (lv_sub hl [0] rfl) hf
set_option maxRecDepth 100000 in
set_option maxHeartbeats 4000000 in
theorem c_X12_condition_s {l : Launch} {D : va_G} {cy : Cy} {ad : Nat → Nat} {A : Nat → Prop} (hA : okAd 17 ad A) (rec : Sg → Option Sg) (d : Nat) (hrec : ∀ (σ : Sg) {σ9 : Sg}, rec σ = some σ9 → Met l yX12_condition (.code yX12_condition cX12_condition 1 none :: TT) ({ frames := 7 + 3 * d, cells := 0, slots := 0, locals := 153 + 61 * d } : Room) (zPc D cy 17 (celM ad cy) ad A [.ref (ad 0)] σ) (zQv D 17 (celM ad cy) ad A σ9) 0 0 A) (σ : Sg) {σ9 : Sg} (hf : f_X12_condition_s rec σ = some σ9) : Met l yX12_condition (.code yX12_condition cX12_condition 1 none :: TT) ({ frames := 7 + 3 * (d + 1), cells := 0, slots := 0, locals := 153 + 61 * (d + 1) } : Room) (zPc D cy 17 (celM ad cy) ad A [.ref (ad 0)] σ) (zQv D 17 (celM ad cy) ad A σ9) 0 0 A := by
  refine zofW (by decide) hA (Nat.le_of_ble_eq_true rfl) ?_
  intro p e s m args below meth c ls E hw hr hlk hl
  have E : ZE p s m args c cX12_condition 1 "KiteSummonsModel" D cy 17 ad A := E
  have hx := E.hx
  have hb := E.hb
  have hl : lv_has ls 1 [(0, .ref (ad 0))] := hl
  have hB12 : ∀ (kq12 : Sg → Option Sg) (hkq12 : ∀ (σ : Sg) (H : Heap) (locs : List Loc) (ls : Array Slot), ZS D 17 (celM ad cy) ad A s σ H locs → lv_has ls 1 [(0, .ref (ad 0))] → kq12 σ = some σ9 → W p l e ({ frames := 7 + 3 * (d + 1), cells := 0, slots := 0, locals := 153 + 61 * (d + 1) } : Room) s m args below meth c H locs 0 0 (MQ below (zQv D 17 (celM ad cy) ad A σ9) args s 0 0 A) (F0 m 12 ls [])) (σ : Sg) (H : Heap) (locs : List Loc) (ls : Array Slot), ZS D 17 (celM ad cy) ad A s σ H locs → lv_has ls 1 [(0, .ref (ad 0))] → f_X12_condition_b12 rec kq12 σ = some σ9 → W p l e ({ frames := 7 + 3 * (d + 1), cells := 0, slots := 0, locals := 153 + 61 * (d + 1) } : Room) s m args below meth c H locs 0 0 (MQ below (zQv D 17 (celM ad cy) ad A σ9) args s 0 0 A) (F0 m 12 ls []) := by
    intro kq12 hkq12 σ H locs ls hw hl hf
    unfold f_X12_condition_b12 at hf
    refine lv_aload_n hx hb dX12_condition_12 rfl (lv_at hl 0 rfl) ?_
    obtain ⟨vq2, hc, hf⟩ := bd_e hf
    refine zcall hw (va_runV (As := []) (rest := []) E.fix (c_X12_word (l := l) hA σ hc) (zcV E k8_17 k1_14 k8_14 k8_16 kp6_1 mf_X12_word rfl rfl ⟨by dsimp only; omega, by dsimp only; omega⟩) (zPreV E hw (Nat.le_of_ble_eq_true rfl) (ceM_0 ad cy _) rfl _) rfl rfl hl.1 rfl (lv_room (Nat.le_of_ble_eq_true rfl)) dX12_condition_13 ⟨Nat.zero_le _, Nat.zero_le _⟩) (fun H locs hw => ?_)
    refine lv_ldc2 (v := 498) hx hb E.hown (E.ht _ k8_70) dX12_condition_16 ?_
    refine W.lcmp hx hb dX12_condition_19 ?_
    refine lv_if_ne (tgt := 41) hx hb dX12_condition_20 (by decide) (fun h => ?_) (fun h => ?_)
    · replace hf := it_t h hf
      exact zretv E hw hr hlk (rt_1 hf) dX12_condition_41
    · replace hf := it_n h hf
      refine lv_aload_n hx hb dX12_condition_23 rfl (lv_at hl 0 rfl) ?_
      refine lv_iconst (v := 1) hx hb dX12_condition_24 (by decide) ?_
      obtain ⟨σ3, hc, hf⟩ := bd_e hf
      refine zcalv hw (va_runV (As := [.int 1]) (rest := []) E.fix (c_X12_wants (l := l) hA 1 σ hc) (zcV E k8_29 k1_14 k8_26 k8_28 kp6_2 mf_X12_wants rfl rfl ⟨by dsimp only; omega, by dsimp only; omega⟩) (zPreV E hw (Nat.le_of_ble_eq_true rfl) (ceM_0 ad cy _) rfl _) rfl rfl hl.1 rfl (lv_room (Nat.le_of_ble_eq_true rfl)) dX12_condition_25 ⟨Nat.zero_le _, Nat.zero_le _⟩) (fun H locs hw => ?_)
      refine lv_aload_n hx hb dX12_condition_28 rfl (lv_at hl 0 rfl) ?_
      obtain ⟨σ4, hc, hf⟩ := bd_e hf
      refine zcalv hw (va_runV (As := []) (rest := []) E.fix (c_X12_all (l := l) hA rec d hrec σ3 hc) (zcV E k8_38 k1_14 k8_35 k8_37 kp6_4 mf_X12_all rfl rfl ⟨by dsimp only; omega, by dsimp only; omega⟩) (zPreV E hw (Nat.le_of_ble_eq_true rfl) (ceM_0 ad cy _) rfl _) rfl rfl hl.1 rfl (lv_room (Nat.le_of_ble_eq_true rfl)) dX12_condition_29 ⟨Nat.zero_le _, Nat.zero_le _⟩) (fun H locs hw => ?_)
      refine lv_aload_n hx hb dX12_condition_32 rfl (lv_at hl 0 rfl) ?_
      refine lv_bipush (v := (-22)) hx hb dX12_condition_33 (by decide) ?_
      obtain ⟨σ5, hc, hf⟩ := bd_e hf
      refine zcalv hw (va_runV (As := [.int (-22)]) (rest := []) E.fix (c_X12_writes (l := l) hA (-22) σ4 hc) (zcV E k8_64 k1_14 k8_61 k8_63 kp6_9 mf_X12_writes rfl rfl ⟨by dsimp only; omega, by dsimp only; omega⟩) (zPreV E hw (Nat.le_of_ble_eq_true rfl) (ceM_0 ad cy _) rfl _) rfl rfl hl.1 rfl (lv_room (Nat.le_of_ble_eq_true rfl)) dX12_condition_35 ⟨Nat.zero_le _, Nat.zero_le _⟩) (fun H locs hw => ?_)
      refine lv_goto (tgt := 12) hx hb dX12_condition_38 (by decide) ?_
      exact hkq12 σ5 _ _ _ hw (lv_sub hl [0] rfl) hf
  have hL12 : ∀ (n : Nat) (σ : Sg) (H : Heap) (locs : List Loc) (ls : Array Slot), ZS D 17 (celM ad cy) ad A s σ H locs → lv_has ls 1 [(0, .ref (ad 0))] → f_X12_condition_l12 rec n σ = some σ9 → W p l e ({ frames := 7 + 3 * (d + 1), cells := 0, slots := 0, locals := 153 + 61 * (d + 1) } : Room) s m args below meth c H locs 0 0 (MQ below (zQv D 17 (celM ad cy) ad A σ9) args s 0 0 A) (F0 m 12 ls []) := by
    intro n
    induction n with
    | zero =>
      intro σ H locs ls hw hl hf
      exact nn_e hf
    | succ n ih =>
      intro σ H locs ls hw hl hf
      exact hB12 (f_X12_condition_l12 rec n) ih σ H locs ls hw hl hf
  unfold f_X12_condition_s at hf
  refine lv_aload_n hx hb dX12_condition_0 rfl (lv_at hl 0 rfl) ?_
  refine zget E hw (Nat.le_of_ble_eq_true rfl) (ceM_0 ad cy _) rfl inX12 27 (by decide) k6_10 (fun _ h => h) rfl dX12_condition_1 ?_
  refine lv_if_eq (tgt := 8) hx hb dX12_condition_4 (by decide) (fun h => ?_) (fun h => ?_)
  · replace hf := it_t h hf
    refine lv_aload_n hx hb dX12_condition_8 rfl (lv_at hl 0 rfl) ?_
    obtain ⟨σ1, hc, hf⟩ := bd_e hf
    refine zcalv hw (va_runV (As := []) (rest := []) E.fix (c_X12_all (l := l) hA rec d hrec σ hc) (zcV E k8_38 k1_14 k8_35 k8_37 kp6_4 mf_X12_all rfl rfl ⟨by dsimp only; omega, by dsimp only; omega⟩) (zPreV E hw (Nat.le_of_ble_eq_true rfl) (ceM_0 ad cy _) rfl _) rfl rfl hl.1 rfl (lv_room (Nat.le_of_ble_eq_true rfl)) dX12_condition_9 ⟨Nat.zero_le _, Nat.zero_le _⟩) (fun H locs hw => ?_)
    exact hL12 400 σ1 _ _ _ hw (lv_sub hl [0] rfl) hf
  · replace hf := it_f h hf
    exact zretv E hw hr hlk (rt_1 hf) dX12_condition_7
theorem c_X12_condition {l : Launch} {D : va_G} {cy : Cy} {ad : Nat → Nat} {A : Nat → Prop} (hA : okAd 17 ad A) : ∀ (d : Nat) (σ : Sg) {σ9 : Sg}, f_X12_condition d σ = some σ9 → Met l yX12_condition (.code yX12_condition cX12_condition 1 none :: TT) ({ frames := 7 + 3 * d, cells := 0, slots := 0, locals := 153 + 61 * d } : Room) (zPc D cy 17 (celM ad cy) ad A [.ref (ad 0)] σ) (zQv D 17 (celM ad cy) ad A σ9) 0 0 A := by
  intro d
  induction d with
  | zero =>
    intro σ σ9 hf
    exact nn_e hf
  | succ d ih =>
    intro σ σ9 hf
    exact c_X12_condition_s hA (f_X12_condition d) d ih σ hf
set_option maxRecDepth 100000 in
set_option maxHeartbeats 4000000 in
theorem c_X12_rule {l : Launch} {D : va_G} {cy : Cy} {ad : Nat → Nat} {A : Nat → Prop} (hA : okAd 17 ad A) (σ : Sg) {σ9 : Sg} (hf : f_X12_rule σ = some σ9) : Met l yX12_rule (.code yX12_rule cX12_rule 6 none :: TT) ({ frames := 26, cells := 0, slots := 0, locals := 539 } : Room) (zPc D cy 17 (celM ad cy) ad A [.ref (ad 0)] σ) (zQv D 17 (celM ad cy) ad A σ9) 0 0 A := by
  refine zofW (by decide) hA (Nat.le_of_ble_eq_true rfl) ?_
  intro p e s m args below meth c ls E hw hr hlk hl
  have E : ZE p s m args c cX12_rule 6 "KiteSummonsModel" D cy 17 ad A := E
  have hx := E.hx
  have hb := E.hb
  have hl : lv_has ls 6 [(0, .ref (ad 0))] := hl
  have hB133 : ∀ (xq1 : Int32) (xq4 : Int32) (tq1 : Int32) (σ : Sg) (H : Heap) (locs : List Loc) (ls : Array Slot), ZS D 17 (celM ad cy) ad A s σ H locs → lv_has ls 6 [(0, .ref (ad 0)), (1, .int xq1), (4, .int xq4)] → f_X12_rule_b133 xq1 xq4 tq1 σ = some σ9 → W p l e ({ frames := 26, cells := 0, slots := 0, locals := 539 } : Room) s m args below meth c H locs 0 0 (MQ below (zQv D 17 (celM ad cy) ad A σ9) args s 0 0 A) (F0 m 133 ls [.int tq1, .ref (ad 0)]) := by
    intro xq1 xq4 tq1 σ H locs ls hw hl hf
    unfold f_X12_rule_b133 at hf
    obtain ⟨σ9, hc, hf⟩ := bd_e hf
    refine zcalv hw (va_runV (As := [.int tq1]) (rest := []) E.fix (c_X12_wants (l := l) hA tq1 σ hc) (zcV E k8_29 k1_14 k8_26 k8_28 kp6_2 mf_X12_wants rfl rfl ⟨Nat.le_of_ble_eq_true rfl, Nat.le_of_ble_eq_true rfl⟩) (zPreV E hw (Nat.le_of_ble_eq_true rfl) (ceM_0 ad cy _) rfl _) rfl rfl hl.1 rfl (lv_room (Nat.le_of_ble_eq_true rfl)) dX12_rule_133 ⟨Nat.zero_le _, Nat.zero_le _⟩) (fun H locs hw => ?_)
    refine lv_aload_n hx hb dX12_rule_136 rfl (lv_at hl 0 rfl) ?_
    refine zget E hw (Nat.le_of_ble_eq_true rfl) (ceM_0 ad cy _) rfl inX12 27 (by decide) k6_10 (fun _ h => h) rfl dX12_rule_137 ?_
    refine lv_if_ne (tgt := 200) hx hb dX12_rule_140 (by decide) (fun h => ?_) (fun h => ?_)
    · replace hf := it_t h hf
      exact zretv E hw hr hlk (rt_1 hf) dX12_rule_200
    · replace hf := it_n h hf
      refine lv_bipush (v := 95) hx hb dX12_rule_143 (by decide) ?_
      refine lv_iconst (v := 3) hx hb dX12_rule_145 (by decide) ?_
      refine lv_aload_n hx hb dX12_rule_146 rfl (lv_at hl 0 rfl) ?_
      refine zget E hw (Nat.le_of_ble_eq_true rfl) (ceM_0 ad cy _) rfl inX12 0 (by decide) k5_223 (fun _ h => h) rfl dX12_rule_147 ?_
      refine lv_iconst (v := 1) hx hb dX12_rule_150 (by decide) ?_
      refine zaldk E hw (Nat.le_of_ble_eq_true rfl) (ceM_1 ad cy) 1 (by rfl) (Nat.le_of_ble_eq_true rfl) (by decide) dX12_rule_151 ?_
      refine lv_imul hx hb dX12_rule_152 ?_
      refine lv_iadd hx hb dX12_rule_153 ?_
      refine lv_topi (fun vq10 evq10 => ?_)
      replace hf := lt_i evq10 hf
      refine lv_istore (lv' := [(5, .int vq10), (0, .ref (ad 0)), (1, .int xq1), (4, .int xq4)]) hx hb dX12_rule_154 hl (by decide) rfl (fun ls hl => ?_)
      refine lv_aload_n hx hb dX12_rule_156 rfl (lv_at hl 1 rfl) ?_
      refine zget E hw (Nat.le_of_ble_eq_true rfl) (ceM_0 ad cy _) rfl inX12 0 (by decide) k5_223 (fun _ h => h) rfl dX12_rule_157 ?_
      refine lv_iload hx hb dX12_rule_160 (lv_at hl 0 rfl) ?_
      refine lv_iconst (v := 0) hx hb dX12_rule_162 (by decide) ?_
      refine lv_iadd hx hb dX12_rule_163 ?_
      refine lv_iload_n hx hb dX12_rule_164 rfl (lv_at hl 2 rfl) ?_
      obtain ⟨σ11, hσ11, hf⟩ := bd_e hf
      refine zastr E hw (Nat.le_of_ble_eq_true rfl) (ceM_1 ad cy) hσ11 dX12_rule_165 (fun H locs hw => ?_)
      refine lv_aload_n hx hb dX12_rule_166 rfl (lv_at hl 1 rfl) ?_
      refine zget E hw (Nat.le_of_ble_eq_true rfl) (ceM_0 ad cy _) rfl inX12 0 (by decide) k5_223 (fun _ h => h) rfl dX12_rule_167 ?_
      refine lv_iload hx hb dX12_rule_170 (lv_at hl 0 rfl) ?_
      refine lv_iconst (v := 1) hx hb dX12_rule_172 (by decide) ?_
      refine lv_iadd hx hb dX12_rule_173 ?_
      refine lv_iload hx hb dX12_rule_174 (lv_at hl 3 rfl) ?_
      obtain ⟨σ12, hσ12, hf⟩ := bd_e hf
      refine zastr E hw (Nat.le_of_ble_eq_true rfl) (ceM_1 ad cy) hσ12 dX12_rule_176 (fun H locs hw => ?_)
      refine lv_aload_n hx hb dX12_rule_177 rfl (lv_at hl 1 rfl) ?_
      refine zget E hw (Nat.le_of_ble_eq_true rfl) (ceM_0 ad cy _) rfl inX12 0 (by decide) k5_223 (fun _ h => h) rfl dX12_rule_178 ?_
      refine lv_iload hx hb dX12_rule_181 (lv_at hl 0 rfl) ?_
      refine lv_iconst (v := 2) hx hb dX12_rule_183 (by decide) ?_
      refine lv_iadd hx hb dX12_rule_184 ?_
      refine lv_aload_n hx hb dX12_rule_185 rfl (lv_at hl 1 rfl) ?_
      refine zget E hw (Nat.le_of_ble_eq_true rfl) (ceM_0 ad cy _) rfl inX12 26 (by decide) k6_9 (fun _ h => h) rfl dX12_rule_186 ?_
      obtain ⟨σ13, hσ13, hf⟩ := bd_e hf
      refine zastr E hw (Nat.le_of_ble_eq_true rfl) (ceM_1 ad cy) hσ13 dX12_rule_189 (fun H locs hw => ?_)
      refine lv_aload_n hx hb dX12_rule_190 rfl (lv_at hl 1 rfl) ?_
      refine zget E hw (Nat.le_of_ble_eq_true rfl) (ceM_0 ad cy _) rfl inX12 0 (by decide) k5_223 (fun _ h => h) rfl dX12_rule_191 ?_
      refine lv_iconst (v := 1) hx hb dX12_rule_194 (by decide) ?_
      refine lv_dup2_11 hx hb dX12_rule_195 rfl rfl ?_
      refine zaldk E hw (Nat.le_of_ble_eq_true rfl) (ceM_1 ad cy) 1 (by rfl) (Nat.le_of_ble_eq_true rfl) (by decide) dX12_rule_196 ?_
      refine lv_iconst (v := 1) hx hb dX12_rule_197 (by decide) ?_
      refine lv_iadd hx hb dX12_rule_198 ?_
      refine zastk E hw (Nat.le_of_ble_eq_true rfl) (ceM_1 ad cy) 1 (by rfl) (Nat.le_of_ble_eq_true rfl) (by decide) dX12_rule_199 (fun σ14 eσ14 H locs hw => ?_)
      replace hf := lt_i eσ14 hf
      exact zretv E hw hr hlk (rt_1 hf) dX12_rule_200
  have hB104 : ∀ (xq1 : Int32) (xq4 : Int32) (tq1 : Int32) (σ : Sg) (H : Heap) (locs : List Loc) (ls : Array Slot), ZS D 17 (celM ad cy) ad A s σ H locs → lv_has ls 6 [(0, .ref (ad 0)), (1, .int xq1), (4, .int xq4)] → f_X12_rule_b104 xq1 xq4 tq1 σ = some σ9 → W p l e ({ frames := 26, cells := 0, slots := 0, locals := 539 } : Room) s m args below meth c H locs 0 0 (MQ below (zQv D 17 (celM ad cy) ad A σ9) args s 0 0 A) (F0 m 104 ls [.int tq1, .ref (ad 0)]) := by
    intro xq1 xq4 tq1 σ H locs ls hw hl hf
    unfold f_X12_rule_b104 at hf
    obtain ⟨σ7, hc, hf⟩ := bd_e hf
    refine zcalv hw (va_runV (As := [.int tq1]) (rest := []) E.fix (c_X12_wants (l := l) hA tq1 σ hc) (zcV E k8_29 k1_14 k8_26 k8_28 kp6_2 mf_X12_wants rfl rfl ⟨Nat.le_of_ble_eq_true rfl, Nat.le_of_ble_eq_true rfl⟩) (zPreV E hw (Nat.le_of_ble_eq_true rfl) (ceM_0 ad cy _) rfl _) rfl rfl hl.1 rfl (lv_room (Nat.le_of_ble_eq_true rfl)) dX12_rule_104 ⟨Nat.zero_le _, Nat.zero_le _⟩) (fun H locs hw => ?_)
    refine lv_aload_n hx hb dX12_rule_107 rfl (lv_at hl 0 rfl) ?_
    refine lv_aload_n hx hb dX12_rule_108 rfl (lv_at hl 0 rfl) ?_
    refine zget E hw (Nat.le_of_ble_eq_true rfl) (ceM_0 ad cy _) rfl inX12 27 (by decide) k6_10 (fun _ h => h) rfl dX12_rule_109 ?_
    refine lv_if_ne (tgt := 132) hx hb dX12_rule_112 (by decide) (fun h => ?_) (fun h => ?_)
    · replace hf := it_t h hf
      refine lv_iconst (v := 0) hx hb dX12_rule_132 (by decide) ?_
      exact hB133 xq1 xq4 0 σ7 _ _ _ hw (lv_sub hl [0, 1, 2] rfl) hf
    · replace hf := it_n h hf
      refine lv_aload_n hx hb dX12_rule_115 rfl (lv_at hl 0 rfl) ?_
      refine lv_aload_n hx hb dX12_rule_116 rfl (lv_at hl 0 rfl) ?_
      refine zget E hw (Nat.le_of_ble_eq_true rfl) (ceM_0 ad cy _) rfl inX12 22 (by decide) k6_5 (fun _ h => h) rfl dX12_rule_117 ?_
      obtain ⟨vq8, hc, hf⟩ := bd_e hf
      refine zcali hw (va_runV (As := [.int (σ7 0 22)]) (rest := [.ref (ad 0)]) E.fix (c_X12_byteAt (l := l) hA (σ7 0 22) σ7 hc) (zcV E k7_235 k1_14 k7_232 k7_234 kp5_14 mf_X12_byteAt rfl rfl ⟨Nat.le_of_ble_eq_true rfl, Nat.le_of_ble_eq_true rfl⟩) (zPreV E hw (Nat.le_of_ble_eq_true rfl) (ceM_0 ad cy _) rfl _) rfl rfl hl.1 rfl (lv_room (Nat.le_of_ble_eq_true rfl)) dX12_rule_120 ⟨Nat.zero_le _, Nat.zero_le _⟩) (fun H locs hw => ?_)
      refine lv_bipush (v := 59) hx hb dX12_rule_123 (by decide) ?_
      refine lv_icmp_ne (tgt := 132) hx hb dX12_rule_125 (by decide) (fun h => ?_) (fun h => ?_)
      · replace hf := it_t h hf
        refine lv_iconst (v := 0) hx hb dX12_rule_132 (by decide) ?_
        exact hB133 xq1 xq4 0 σ7 _ _ _ hw (lv_sub hl [0, 1, 2] rfl) hf
      · replace hf := it_n h hf
        refine lv_iconst (v := 1) hx hb dX12_rule_128 (by decide) ?_
        refine lv_goto (tgt := 133) hx hb dX12_rule_129 (by decide) ?_
        exact hB133 xq1 xq4 1 σ7 _ _ _ hw (lv_sub hl [0, 1, 2] rfl) hf
  have hB91 : ∀ (xq1 : Int32) (tq0 : Int32) (σ : Sg) (H : Heap) (locs : List Loc) (ls : Array Slot), ZS D 17 (celM ad cy) ad A s σ H locs → lv_has ls 6 [(0, .ref (ad 0)), (1, .int xq1)] → f_X12_rule_b91 xq1 tq0 σ = some σ9 → W p l e ({ frames := 26, cells := 0, slots := 0, locals := 539 } : Room) s m args below meth c H locs 0 0 (MQ below (zQv D 17 (celM ad cy) ad A σ9) args s 0 0 A) (F0 m 91 ls [.int tq0]) := by
    intro xq1 tq0 σ H locs ls hw hl hf
    unfold f_X12_rule_b91 at hf
    refine lv_istore (lv' := [(4, .int tq0), (0, .ref (ad 0)), (1, .int xq1)]) hx hb dX12_rule_91 hl (by decide) rfl (fun ls hl => ?_)
    refine lv_aload_n hx hb dX12_rule_93 rfl (lv_at hl 1 rfl) ?_
    refine lv_iload hx hb dX12_rule_94 (lv_at hl 0 rfl) ?_
    refine lv_if_lt (tgt := 103) hx hb dX12_rule_96 (by decide) (fun h => ?_) (fun h => ?_)
    · replace hf := it_t h hf
      refine lv_iconst (v := 0) hx hb dX12_rule_103 (by decide) ?_
      exact hB104 xq1 tq0 0 σ _ _ _ hw (lv_sub hl [1, 2, 0] rfl) hf
    · replace hf := it_f h hf
      refine lv_iconst (v := 1) hx hb dX12_rule_99 (by decide) ?_
      refine lv_goto (tgt := 104) hx hb dX12_rule_100 (by decide) ?_
      exact hB104 xq1 tq0 1 σ _ _ _ hw (lv_sub hl [1, 2, 0] rfl) hf
  have hB49 : ∀ (xq1 : Int32) (σ : Sg) (H : Heap) (locs : List Loc) (ls : Array Slot), ZS D 17 (celM ad cy) ad A s σ H locs → lv_has ls 6 [(0, .ref (ad 0)), (1, .int xq1)] → f_X12_rule_b49 xq1 σ = some σ9 → W p l e ({ frames := 26, cells := 0, slots := 0, locals := 539 } : Room) s m args below meth c H locs 0 0 (MQ below (zQv D 17 (celM ad cy) ad A σ9) args s 0 0 A) (F0 m 49 ls []) := by
    intro xq1 σ H locs ls hw hl hf
    unfold f_X12_rule_b49 at hf
    refine lv_aload_n hx hb dX12_rule_49 rfl (lv_at hl 0 rfl) ?_
    obtain ⟨vq6, hc, hf⟩ := bd_e hf
    refine zcall hw (va_runV (As := []) (rest := []) E.fix (c_X12_word (l := l) hA σ hc) (zcV E k8_17 k1_14 k8_14 k8_16 kp6_1 mf_X12_word rfl rfl ⟨Nat.le_of_ble_eq_true rfl, Nat.le_of_ble_eq_true rfl⟩) (zPreV E hw (Nat.le_of_ble_eq_true rfl) (ceM_0 ad cy _) rfl _) rfl rfl hl.1 rfl (lv_room (Nat.le_of_ble_eq_true rfl)) dX12_rule_50 ⟨Nat.zero_le _, Nat.zero_le _⟩) (fun H locs hw => ?_)
    refine lv_lstore_n (lv' := [(2, .long vq6), (0, .ref (ad 0)), (1, .int xq1)]) hx hb dX12_rule_53 rfl hl (by decide) rfl (fun ls hl => ?_)
    refine lv_lload_n hx hb dX12_rule_54 rfl (lv_at hl 0 rfl) ?_
    refine lv_ldc2 (v := 20105925) hx hb E.hown (E.ht _ k8_71) dX12_rule_55 ?_
    refine W.lcmp hx hb dX12_rule_58 ?_
    refine lv_if_ne (tgt := 66) hx hb dX12_rule_59 (by decide) (fun h => ?_) (fun h => ?_)
    · replace hf := it_t h hf
      refine lv_lload_n hx hb dX12_rule_66 rfl (lv_at hl 0 rfl) ?_
      refine lv_ldc2 (v := 277892) hx hb E.hown (E.ht _ k8_72) dX12_rule_67 ?_
      refine W.lcmp hx hb dX12_rule_70 ?_
      refine lv_if_ne (tgt := 78) hx hb dX12_rule_71 (by decide) (fun h => ?_) (fun h => ?_)
      · replace hf := it_t h hf
        refine lv_lload_n hx hb dX12_rule_78 rfl (lv_at hl 0 rfl) ?_
        refine lv_ldc2 (v := 3764) hx hb E.hown (E.ht _ k8_73) dX12_rule_79 ?_
        refine W.lcmp hx hb dX12_rule_82 ?_
        refine lv_if_ne (tgt := 90) hx hb dX12_rule_83 (by decide) (fun h => ?_) (fun h => ?_)
        · replace hf := it_t h hf
          refine lv_iconst (v := (-1)) hx hb dX12_rule_90 (by decide) ?_
          exact hB91 xq1 (-1) σ _ _ _ hw (lv_sub hl [1, 2] rfl) hf
        · replace hf := it_n h hf
          refine lv_iconst (v := 2) hx hb dX12_rule_86 (by decide) ?_
          refine lv_goto (tgt := 91) hx hb dX12_rule_87 (by decide) ?_
          exact hB91 xq1 2 σ _ _ _ hw (lv_sub hl [1, 2] rfl) hf
      · replace hf := it_n h hf
        refine lv_iconst (v := 1) hx hb dX12_rule_74 (by decide) ?_
        refine lv_goto (tgt := 91) hx hb dX12_rule_75 (by decide) ?_
        exact hB91 xq1 1 σ _ _ _ hw (lv_sub hl [1, 2] rfl) hf
    · replace hf := it_n h hf
      refine lv_iconst (v := 0) hx hb dX12_rule_62 (by decide) ?_
      refine lv_goto (tgt := 91) hx hb dX12_rule_63 (by decide) ?_
      exact hB91 xq1 0 σ _ _ _ hw (lv_sub hl [1, 2] rfl) hf
  have hB26 : ∀ (xq1 : Int32) (tq1 : Int32) (σ : Sg) (H : Heap) (locs : List Loc) (ls : Array Slot), ZS D 17 (celM ad cy) ad A s σ H locs → lv_has ls 6 [(0, .ref (ad 0)), (1, .int xq1)] → f_X12_rule_b26 xq1 tq1 σ = some σ9 → W p l e ({ frames := 26, cells := 0, slots := 0, locals := 539 } : Room) s m args below meth c H locs 0 0 (MQ below (zQv D 17 (celM ad cy) ad A σ9) args s 0 0 A) (F0 m 26 ls [.int tq1, .ref (ad 0)]) := by
    intro xq1 tq1 σ H locs ls hw hl hf
    unfold f_X12_rule_b26 at hf
    obtain ⟨σ2, hc, hf⟩ := bd_e hf
    refine zcalv hw (va_runV (As := [.int tq1]) (rest := []) E.fix (c_X12_wants (l := l) hA tq1 σ hc) (zcV E k8_29 k1_14 k8_26 k8_28 kp6_2 mf_X12_wants rfl rfl ⟨Nat.le_of_ble_eq_true rfl, Nat.le_of_ble_eq_true rfl⟩) (zPreV E hw (Nat.le_of_ble_eq_true rfl) (ceM_0 ad cy _) rfl _) rfl rfl hl.1 rfl (lv_room (Nat.le_of_ble_eq_true rfl)) dX12_rule_26 ⟨Nat.zero_le _, Nat.zero_le _⟩) (fun H locs hw => ?_)
    refine lv_aload_n hx hb dX12_rule_29 rfl (lv_at hl 0 rfl) ?_
    obtain ⟨vq3, hc, hf⟩ := bd_e hf
    refine zcall hw (va_runV (As := []) (rest := []) E.fix (c_X12_word (l := l) hA σ2 hc) (zcV E k8_17 k1_14 k8_14 k8_16 kp6_1 mf_X12_word rfl rfl ⟨Nat.le_of_ble_eq_true rfl, Nat.le_of_ble_eq_true rfl⟩) (zPreV E hw (Nat.le_of_ble_eq_true rfl) (ceM_0 ad cy _) rfl _) rfl rfl hl.1 rfl (lv_room (Nat.le_of_ble_eq_true rfl)) dX12_rule_30 ⟨Nat.zero_le _, Nat.zero_le _⟩) (fun H locs hw => ?_)
    refine lv_ldc2 (v := 294) hx hb E.hown (E.ht _ k8_30) dX12_rule_33 ?_
    refine W.lcmp hx hb dX12_rule_36 ?_
    refine lv_if_ne (tgt := 49) hx hb dX12_rule_37 (by decide) (fun h => ?_) (fun h => ?_)
    · replace hf := it_t h hf
      exact hB49 xq1 σ2 _ _ _ hw (lv_sub hl [0, 1] rfl) hf
    · replace hf := it_n h hf
      refine lv_aload_n hx hb dX12_rule_40 rfl (lv_at hl 0 rfl) ?_
      refine lv_iconst (v := 1) hx hb dX12_rule_41 (by decide) ?_
      obtain ⟨σ4, hc, hf⟩ := bd_e hf
      refine zcalv hw (va_runV (As := [.int 1]) (rest := []) E.fix (c_X12_wants (l := l) hA 1 σ2 hc) (zcV E k8_29 k1_14 k8_26 k8_28 kp6_2 mf_X12_wants rfl rfl ⟨Nat.le_of_ble_eq_true rfl, Nat.le_of_ble_eq_true rfl⟩) (zPreV E hw (Nat.le_of_ble_eq_true rfl) (ceM_0 ad cy _) rfl _) rfl rfl hl.1 rfl (lv_room (Nat.le_of_ble_eq_true rfl)) dX12_rule_42 ⟨Nat.zero_le _, Nat.zero_le _⟩) (fun H locs hw => ?_)
      refine lv_aload_n hx hb dX12_rule_45 rfl (lv_at hl 0 rfl) ?_
      obtain ⟨σ5, hc, hf⟩ := bd_e hf
      refine zcalv hw (va_runV (As := []) (rest := []) E.fix (c_X12_condition (l := l) hA 6 σ4 hc) (zcV E k8_34 k1_14 k8_31 k8_33 kp6_3 mf_X12_condition rfl rfl ⟨Nat.le_of_ble_eq_true rfl, Nat.le_of_ble_eq_true rfl⟩) (zPreV E hw (Nat.le_of_ble_eq_true rfl) (ceM_0 ad cy _) rfl _) rfl rfl hl.1 rfl (lv_room (Nat.le_of_ble_eq_true rfl)) dX12_rule_46 ⟨Nat.zero_le _, Nat.zero_le _⟩) (fun H locs hw => ?_)
      exact hB49 xq1 σ5 _ _ _ hw (lv_sub hl [0, 1] rfl) hf
  unfold f_X12_rule at hf
  refine lv_aload_n hx hb dX12_rule_0 rfl (lv_at hl 0 rfl) ?_
  obtain ⟨vq1, hc, hf⟩ := bd_e hf
  refine zcali hw (va_runV (As := []) (rest := []) E.fix (c_X12_kindHere (l := l) hA σ hc) (zcV E k8_13 k1_14 k8_10 k8_12 kp6_0 mf_X12_kindHere rfl rfl ⟨Nat.le_of_ble_eq_true rfl, Nat.le_of_ble_eq_true rfl⟩) (zPreV E hw (Nat.le_of_ble_eq_true rfl) (ceM_0 ad cy _) rfl _) rfl rfl hl.1 rfl (lv_room (Nat.le_of_ble_eq_true rfl)) dX12_rule_1 ⟨Nat.zero_le _, Nat.zero_le _⟩) (fun H locs hw => ?_)
  refine lv_istore_n (lv' := [(1, .int vq1), (0, .ref (ad 0))]) hx hb dX12_rule_4 rfl hl (by decide) rfl (fun ls hl => ?_)
  refine lv_aload_n hx hb dX12_rule_5 rfl (lv_at hl 1 rfl) ?_
  refine lv_iload_n hx hb dX12_rule_6 rfl (lv_at hl 0 rfl) ?_
  refine lv_if_lt (tgt := 25) hx hb dX12_rule_7 (by decide) (fun h => ?_) (fun h => ?_)
  · replace hf := it_t h hf
    refine lv_iconst (v := 0) hx hb dX12_rule_25 (by decide) ?_
    exact hB26 vq1 0 σ _ _ _ hw (lv_sub hl [1, 0] rfl) hf
  · replace hf := it_f h hf
    refine lv_aload_n hx hb dX12_rule_10 rfl (lv_at hl 1 rfl) ?_
    refine zget E hw (Nat.le_of_ble_eq_true rfl) (ceM_0 ad cy _) rfl inX12 0 (by decide) k5_223 (fun _ h => h) rfl dX12_rule_11 ?_
    refine lv_iconst (v := 1) hx hb dX12_rule_14 (by decide) ?_
    refine zaldk E hw (Nat.le_of_ble_eq_true rfl) (ceM_1 ad cy) 1 (by rfl) (Nat.le_of_ble_eq_true rfl) (by decide) dX12_rule_15 ?_
    refine lv_bipush (v := 8) hx hb dX12_rule_16 (by decide) ?_
    refine lv_icmp_ge (tgt := 25) hx hb dX12_rule_18 (by decide) (fun h => ?_) (fun h => ?_)
    · replace hf := it_t h hf
      refine lv_iconst (v := 0) hx hb dX12_rule_25 (by decide) ?_
      exact hB26 vq1 0 σ _ _ _ hw (lv_sub hl [1, 0] rfl) hf
    · replace hf := it_f h hf
      refine lv_iconst (v := 1) hx hb dX12_rule_21 (by decide) ?_
      refine lv_goto (tgt := 26) hx hb dX12_rule_22 (by decide) ?_
      exact hB26 vq1 1 σ _ _ _ hw (lv_sub hl [1, 0] rfl) hf
set_option maxRecDepth 100000 in
set_option maxHeartbeats 4000000 in
theorem c_X12_putsBack {l : Launch} {D : va_G} {cy : Cy} {ad : Nat → Nat} {A : Nat → Prop} (hA : okAd 17 ad A) (σ : Sg) {σ9 : Sg} (hf : f_X12_putsBack σ = some σ9) : Met l yX12_putsBack (.code yX12_putsBack cX12_putsBack 2 none :: TT) ({ frames := 0, cells := 0, slots := 0, locals := 0 } : Room) (zPc D cy 17 (celM ad cy) ad A [.ref (ad 0)] σ) (zQv D 17 (celM ad cy) ad A σ9) 0 0 A := by
  refine zofW (by decide) hA (Nat.le_of_ble_eq_true rfl) ?_
  intro p e s m args below meth c ls E hw hr hlk hl
  have E : ZE p s m args c cX12_putsBack 2 "KiteSummonsModel" D cy 17 ad A := E
  have hx := E.hx
  have hb := E.hb
  have hl : lv_has ls 2 [(0, .ref (ad 0))] := hl
  have hB2 : ∀ (kq2 : Int32 → Sg → Option Sg) (hkq2 : ∀ (xq1 : Int32) (σ : Sg) (H : Heap) (locs : List Loc) (ls : Array Slot), ZS D 17 (celM ad cy) ad A s σ H locs → lv_has ls 2 [(0, .ref (ad 0)), (1, .int xq1)] → kq2 xq1 σ = some σ9 → W p l e ({ frames := 0, cells := 0, slots := 0, locals := 0 } : Room) s m args below meth c H locs 0 0 (MQ below (zQv D 17 (celM ad cy) ad A σ9) args s 0 0 A) (F0 m 2 ls [])) (xq1 : Int32) (σ : Sg) (H : Heap) (locs : List Loc) (ls : Array Slot), ZS D 17 (celM ad cy) ad A s σ H locs → lv_has ls 2 [(0, .ref (ad 0)), (1, .int xq1)] → f_X12_putsBack_b2 kq2 xq1 σ = some σ9 → W p l e ({ frames := 0, cells := 0, slots := 0, locals := 0 } : Room) s m args below meth c H locs 0 0 (MQ below (zQv D 17 (celM ad cy) ad A σ9) args s 0 0 A) (F0 m 2 ls []) := by
    intro kq2 hkq2 xq1 σ H locs ls hw hl hf
    unfold f_X12_putsBack_b2 at hf
    refine lv_iload_n hx hb dX12_putsBack_2 rfl (lv_at hl 1 rfl) ?_
    refine lv_sipush (v := 319) hx hb dX12_putsBack_3 (by decide) ?_
    refine lv_icmp_ge (tgt := 27) hx hb dX12_putsBack_6 (by decide) (fun h => ?_) (fun h => ?_)
    · replace hf := it_t h hf
      exact zretv E hw hr hlk (rt_1 hf) dX12_putsBack_27
    · replace hf := it_f h hf
      refine lv_aload_n hx hb dX12_putsBack_9 rfl (lv_at hl 0 rfl) ?_
      refine zget E hw (Nat.le_of_ble_eq_true rfl) (ceM_0 ad cy _) rfl inX12 0 (by decide) k5_223 (fun _ h => h) rfl dX12_putsBack_10 ?_
      refine lv_iload_n hx hb dX12_putsBack_13 rfl (lv_at hl 1 rfl) ?_
      refine lv_aload_n hx hb dX12_putsBack_14 rfl (lv_at hl 0 rfl) ?_
      refine zget E hw (Nat.le_of_ble_eq_true rfl) (ceM_0 ad cy _) rfl inX12 2 (by decide) k5_225 (fun _ h => h) rfl dX12_putsBack_15 ?_
      refine lv_iload_n hx hb dX12_putsBack_18 rfl (lv_at hl 1 rfl) ?_
      obtain ⟨vq1, hvq1, hf⟩ := bd_e hf
      refine zaldr E hw (Nat.le_of_ble_eq_true rfl) (ceM_3 ad cy) hvq1 dX12_putsBack_19 ?_
      obtain ⟨σ2, hσ2, hf⟩ := bd_e hf
      refine zastr E hw (Nat.le_of_ble_eq_true rfl) (ceM_1 ad cy) hσ2 dX12_putsBack_20 (fun H locs hw => ?_)
      refine lv_iinc (v := (xq1 + 1)) (lv' := [(1, .int (xq1 + 1)), (0, .ref (ad 0))]) hx hb dX12_putsBack_21 hl (k := 1) rfl (by rfl) (by decide) rfl (fun ls hl => ?_)
      refine lv_goto (tgt := 2) hx hb dX12_putsBack_24 (by decide) ?_
      exact hkq2 (xq1 + 1) σ2 _ _ _ hw (lv_sub hl [1, 0] rfl) hf
  have hL2 : ∀ (n : Nat) (xq1 : Int32) (σ : Sg) (H : Heap) (locs : List Loc) (ls : Array Slot), ZS D 17 (celM ad cy) ad A s σ H locs → lv_has ls 2 [(0, .ref (ad 0)), (1, .int xq1)] → f_X12_putsBack_l2 n xq1 σ = some σ9 → W p l e ({ frames := 0, cells := 0, slots := 0, locals := 0 } : Room) s m args below meth c H locs 0 0 (MQ below (zQv D 17 (celM ad cy) ad A σ9) args s 0 0 A) (F0 m 2 ls []) := by
    intro n
    induction n with
    | zero =>
      intro xq1 σ H locs ls hw hl hf
      exact nn_e hf
    | succ n ih =>
      intro xq1 σ H locs ls hw hl hf
      exact hB2 (f_X12_putsBack_l2 n) ih xq1 σ H locs ls hw hl hf
  unfold f_X12_putsBack at hf
  refine lv_iconst (v := 0) hx hb dX12_putsBack_0 (by decide) ?_
  refine lv_istore_n (lv' := [(1, .int 0), (0, .ref (ad 0))]) hx hb dX12_putsBack_1 rfl hl (by decide) rfl (fun ls hl => ?_)
  exact hL2 400 0 σ _ _ _ hw (lv_sub hl [1, 0] rfl) hf
set_option maxRecDepth 100000 in
set_option maxHeartbeats 4000000 in
theorem c_X12_rules {l : Launch} {D : va_G} {cy : Cy} {ad : Nat → Nat} {A : Nat → Prop} (hA : okAd 17 ad A) (σ : Sg) {r : Int32} {σ9 : Sg} (hf : f_X12_rules σ = some (r, σ9)) : Met l yX12_rules (.code yX12_rules cX12_rules 1 (some .int) :: TT) ({ frames := 27, cells := 0, slots := 0, locals := 564 } : Room) (zPc D cy 17 (celM ad cy) ad A [.ref (ad 0)] σ) (zQi D 17 (celM ad cy) ad A r σ9) 0 0 A := by
  refine zofW (by decide) hA (Nat.le_of_ble_eq_true rfl) ?_
  intro p e s m args below meth c ls E hw hr hlk hl
  have E : ZE p s m args c cX12_rules 1 "KiteSummonsModel" D cy 17 ad A := E
  have hx := E.hx
  have hb := E.hb
  have hl : lv_has ls 1 [(0, .ref (ad 0))] := hl
  have hB60 : ∀ (σ : Sg) (H : Heap) (locs : List Loc) (ls : Array Slot), ZS D 17 (celM ad cy) ad A s σ H locs → lv_has ls 1 [(0, .ref (ad 0))] → f_X12_rules_b60 σ = some (r, σ9) → W p l e ({ frames := 27, cells := 0, slots := 0, locals := 564 } : Room) s m args below meth c H locs 0 0 (MQ below (zQi D 17 (celM ad cy) ad A r σ9) args s 0 0 A) (F0 m 60 ls []) := by
    intro σ H locs ls hw hl hf
    unfold f_X12_rules_b60 at hf
    refine lv_aload_n hx hb dX12_rules_60 rfl (lv_at hl 0 rfl) ?_
    refine lv_iconst (v := 0) hx hb dX12_rules_61 (by decide) ?_
    refine zputs E hw (Nat.le_of_ble_eq_true rfl) (ceM_0 ad cy _) rfl inX12 tyX12 tyX12_ok nmX12 21 (by decide) k6_4 (fun _ h => h) rfl rfl rfl (Nat.le_of_ble_eq_true rfl) (j := 21) (Eq.trans (ceM_0 ad cy _) (by rfl)) dX12_rules_62 (fun σ9 eσ9 H locs hw => ?_)
    replace hf := lt_i eσ9 hf
    refine lv_aload_n hx hb dX12_rules_65 rfl (lv_at hl 0 rfl) ?_
    refine zget E hw (Nat.le_of_ble_eq_true rfl) (ceM_0 ad cy _) rfl inX12 27 (by decide) k6_10 (fun _ h => h) rfl dX12_rules_66 ?_
    refine lv_if_eq (tgt := 84) hx hb dX12_rules_69 (by decide) (fun h => ?_) (fun h => ?_)
    · replace hf := it_t h hf
      refine lv_aload_n hx hb dX12_rules_84 rfl (lv_at hl 0 rfl) ?_
      refine zget E hw (Nat.le_of_ble_eq_true rfl) (ceM_0 ad cy _) rfl inX12 0 (by decide) k5_223 (fun _ h => h) rfl dX12_rules_85 ?_
      refine lv_iconst (v := 1) hx hb dX12_rules_88 (by decide) ?_
      refine zaldk E hw (Nat.le_of_ble_eq_true rfl) (ceM_1 ad cy) 1 (by rfl) (Nat.le_of_ble_eq_true rfl) (by decide) dX12_rules_89 ?_
      exact zreti E hw hr hlk (rt_a hf) (rt_b hf) dX12_rules_90
    · replace hf := it_f h hf
      refine lv_aload_n hx hb dX12_rules_72 rfl (lv_at hl 0 rfl) ?_
      obtain ⟨σ10, hc, hf⟩ := bd_e hf
      refine zcalv hw (va_runV (As := []) (rest := []) E.fix (c_X12_putsBack (l := l) hA σ9 hc) (zcV E k7_44 k1_14 k7_41 k7_43 kp4_11 mf_X12_putsBack rfl rfl ⟨Nat.le_of_ble_eq_true rfl, Nat.le_of_ble_eq_true rfl⟩) (zPreV E hw (Nat.le_of_ble_eq_true rfl) (ceM_0 ad cy _) rfl _) rfl rfl hl.1 rfl (lv_room (Nat.le_of_ble_eq_true rfl)) dX12_rules_73 ⟨Nat.zero_le _, Nat.zero_le _⟩) (fun H locs hw => ?_)
      refine lv_bipush (v := (-100)) hx hb dX12_rules_76 (by decide) ?_
      refine lv_aload_n hx hb dX12_rules_78 rfl (lv_at hl 0 rfl) ?_
      refine zget E hw (Nat.le_of_ble_eq_true rfl) (ceM_0 ad cy _) rfl inX12 22 (by decide) k6_5 (fun _ h => h) rfl dX12_rules_79 ?_
      refine lv_isub hx hb dX12_rules_82 ?_
      exact zreti E hw hr hlk (rt_a hf) (rt_b hf) dX12_rules_83
  have hB35 : ∀ (kq35 : Sg → Option (Int32 × Sg)) (hkq35 : ∀ (σ : Sg) (H : Heap) (locs : List Loc) (ls : Array Slot), ZS D 17 (celM ad cy) ad A s σ H locs → lv_has ls 1 [(0, .ref (ad 0))] → kq35 σ = some (r, σ9) → W p l e ({ frames := 27, cells := 0, slots := 0, locals := 564 } : Room) s m args below meth c H locs 0 0 (MQ below (zQi D 17 (celM ad cy) ad A r σ9) args s 0 0 A) (F0 m 35 ls [])) (σ : Sg) (H : Heap) (locs : List Loc) (ls : Array Slot), ZS D 17 (celM ad cy) ad A s σ H locs → lv_has ls 1 [(0, .ref (ad 0))] → f_X12_rules_b35 kq35 σ = some (r, σ9) → W p l e ({ frames := 27, cells := 0, slots := 0, locals := 564 } : Room) s m args below meth c H locs 0 0 (MQ below (zQi D 17 (celM ad cy) ad A r σ9) args s 0 0 A) (F0 m 35 ls []) := by
    intro kq35 hkq35 σ H locs ls hw hl hf
    unfold f_X12_rules_b35 at hf
    refine lv_aload_n hx hb dX12_rules_35 rfl (lv_at hl 0 rfl) ?_
    refine zget E hw (Nat.le_of_ble_eq_true rfl) (ceM_0 ad cy _) rfl inX12 27 (by decide) k6_10 (fun _ h => h) rfl dX12_rules_36 ?_
    refine lv_if_ne (tgt := 60) hx hb dX12_rules_39 (by decide) (fun h => ?_) (fun h => ?_)
    · replace hf := it_t h hf
      exact hB60 σ _ _ _ hw (lv_sub hl [0] rfl) hf
    · replace hf := it_n h hf
      refine lv_aload_n hx hb dX12_rules_42 rfl (lv_at hl 0 rfl) ?_
      refine zget E hw (Nat.le_of_ble_eq_true rfl) (ceM_0 ad cy _) rfl inX12 22 (by decide) k6_5 (fun _ h => h) rfl dX12_rules_43 ?_
      refine lv_aload_n hx hb dX12_rules_46 rfl (lv_at hl 0 rfl) ?_
      refine zget E hw (Nat.le_of_ble_eq_true rfl) (ceM_0 ad cy _) rfl inX12 21 (by decide) k6_4 (fun _ h => h) rfl dX12_rules_47 ?_
      refine lv_icmp_ge (tgt := 60) hx hb dX12_rules_50 (by decide) (fun h => ?_) (fun h => ?_)
      · replace hf := it_t h hf
        exact hB60 σ _ _ _ hw (lv_sub hl [0] rfl) hf
      · replace hf := it_f h hf
        refine lv_aload_n hx hb dX12_rules_53 rfl (lv_at hl 0 rfl) ?_
        obtain ⟨σ8, hc, hf⟩ := bd_e hf
        refine zcalv hw (va_runV (As := []) (rest := []) E.fix (c_X12_rule (l := l) hA σ hc) (zcV E k8_9 k1_14 k8_6 k8_8 kp5_15 mf_X12_rule rfl rfl ⟨Nat.le_of_ble_eq_true rfl, Nat.le_of_ble_eq_true rfl⟩) (zPreV E hw (Nat.le_of_ble_eq_true rfl) (ceM_0 ad cy _) rfl _) rfl rfl hl.1 rfl (lv_room (Nat.le_of_ble_eq_true rfl)) dX12_rules_54 ⟨Nat.zero_le _, Nat.zero_le _⟩) (fun H locs hw => ?_)
        refine lv_goto (tgt := 35) hx hb dX12_rules_57 (by decide) ?_
        exact hkq35 σ8 _ _ _ hw (lv_sub hl [0] rfl) hf
  have hL35 : ∀ (n : Nat) (σ : Sg) (H : Heap) (locs : List Loc) (ls : Array Slot), ZS D 17 (celM ad cy) ad A s σ H locs → lv_has ls 1 [(0, .ref (ad 0))] → f_X12_rules_l35 n σ = some (r, σ9) → W p l e ({ frames := 27, cells := 0, slots := 0, locals := 564 } : Room) s m args below meth c H locs 0 0 (MQ below (zQi D 17 (celM ad cy) ad A r σ9) args s 0 0 A) (F0 m 35 ls []) := by
    intro n
    induction n with
    | zero =>
      intro σ H locs ls hw hl hf
      exact nn_e hf
    | succ n ih =>
      intro σ H locs ls hw hl hf
      exact hB35 (f_X12_rules_l35 n) ih σ H locs ls hw hl hf
  unfold f_X12_rules at hf
  refine lv_aload_n hx hb dX12_rules_0 rfl (lv_at hl 0 rfl) ?_
  obtain ⟨σ1, hc, hf⟩ := bd_e hf
  refine zcalv hw (va_runV (As := []) (rest := []) E.fix (c_X12_puts (l := l) hA σ hc) (zcV E k7_36 k1_14 k7_33 k7_35 kp4_9 mf_X12_puts rfl rfl ⟨Nat.le_of_ble_eq_true rfl, Nat.le_of_ble_eq_true rfl⟩) (zPreV E hw (Nat.le_of_ble_eq_true rfl) (ceM_0 ad cy _) rfl _) rfl rfl hl.1 rfl (lv_room (Nat.le_of_ble_eq_true rfl)) dX12_rules_1 ⟨Nat.zero_le _, Nat.zero_le _⟩) (fun H locs hw => ?_)
  refine lv_aload_n hx hb dX12_rules_4 rfl (lv_at hl 0 rfl) ?_
  refine zget E hw (Nat.le_of_ble_eq_true rfl) (ceM_0 ad cy _) rfl inX12 0 (by decide) k5_223 (fun _ h => h) rfl dX12_rules_5 ?_
  refine lv_iconst (v := 1) hx hb dX12_rules_8 (by decide) ?_
  refine lv_iconst (v := 0) hx hb dX12_rules_9 (by decide) ?_
  refine zastk E hw (Nat.le_of_ble_eq_true rfl) (ceM_1 ad cy) 1 (by rfl) (Nat.le_of_ble_eq_true rfl) (by decide) dX12_rules_10 (fun σ2 eσ2 H locs hw => ?_)
  replace hf := lt_i eσ2 hf
  refine lv_aload_n hx hb dX12_rules_11 rfl (lv_at hl 0 rfl) ?_
  refine lv_iconst (v := 0) hx hb dX12_rules_12 (by decide) ?_
  refine zputs E hw (Nat.le_of_ble_eq_true rfl) (ceM_0 ad cy _) rfl inX12 tyX12 tyX12_ok nmX12 26 (by decide) k6_9 (fun _ h => h) rfl rfl rfl (Nat.le_of_ble_eq_true rfl) (j := 26) (Eq.trans (ceM_0 ad cy _) (by rfl)) dX12_rules_13 (fun σ3 eσ3 H locs hw => ?_)
  replace hf := lt_i eσ3 hf
  refine lv_aload_n hx hb dX12_rules_16 rfl (lv_at hl 0 rfl) ?_
  refine lv_iconst (v := 0) hx hb dX12_rules_17 (by decide) ?_
  refine zputs E hw (Nat.le_of_ble_eq_true rfl) (ceM_0 ad cy _) rfl inX12 tyX12 tyX12_ok nmX12 25 (by decide) k6_8 (fun _ h => h) rfl rfl rfl (Nat.le_of_ble_eq_true rfl) (j := 25) (Eq.trans (ceM_0 ad cy _) (by rfl)) dX12_rules_18 (fun σ4 eσ4 H locs hw => ?_)
  replace hf := lt_i eσ4 hf
  refine lv_aload_n hx hb dX12_rules_21 rfl (lv_at hl 0 rfl) ?_
  refine lv_iconst (v := 0) hx hb dX12_rules_22 (by decide) ?_
  refine zputs E hw (Nat.le_of_ble_eq_true rfl) (ceM_0 ad cy _) rfl inX12 tyX12 tyX12_ok nmX12 23 (by decide) k6_6 (fun _ h => h) rfl rfl rfl (Nat.le_of_ble_eq_true rfl) (j := 23) (Eq.trans (ceM_0 ad cy _) (by rfl)) dX12_rules_23 (fun σ5 eσ5 H locs hw => ?_)
  replace hf := lt_i eσ5 hf
  refine lv_aload_n hx hb dX12_rules_26 rfl (lv_at hl 0 rfl) ?_
  refine lv_iconst (v := 0) hx hb dX12_rules_27 (by decide) ?_
  refine zputs E hw (Nat.le_of_ble_eq_true rfl) (ceM_0 ad cy _) rfl inX12 tyX12 tyX12_ok nmX12 27 (by decide) k6_10 (fun _ h => h) rfl rfl rfl (Nat.le_of_ble_eq_true rfl) (j := 27) (Eq.trans (ceM_0 ad cy _) (by rfl)) dX12_rules_28 (fun σ6 eσ6 H locs hw => ?_)
  replace hf := lt_i eσ6 hf
  refine lv_aload_n hx hb dX12_rules_31 rfl (lv_at hl 0 rfl) ?_
  obtain ⟨σ7, hc, hf⟩ := bd_e hf
  refine zcalv hw (va_runV (As := []) (rest := []) E.fix (c_X12_token (l := l) hA σ6 hc) (zcV E k7_231 k1_14 k7_228 k7_230 kp5_13 mf_X12_token rfl rfl ⟨Nat.le_of_ble_eq_true rfl, Nat.le_of_ble_eq_true rfl⟩) (zPreV E hw (Nat.le_of_ble_eq_true rfl) (ceM_0 ad cy _) rfl _) rfl rfl hl.1 rfl (lv_room (Nat.le_of_ble_eq_true rfl)) dX12_rules_32 ⟨Nat.zero_le _, Nat.zero_le _⟩) (fun H locs hw => ?_)
  exact hL35 400 σ7 _ _ _ hw (lv_sub hl [0] rfl) hf
set_option maxRecDepth 100000 in
set_option maxHeartbeats 4000000 in
theorem c_X12_room {l : Launch} {D : va_G} {cy : Cy} {ad : Nat → Nat} {A : Nat → Prop} (hA : okAd 17 ad A) (xq0 : Int32) (xq1 : Int32) (xq2 : Int32) (σ : Sg) {r : Int32} (hf : f_X12_room xq0 xq1 xq2 σ = r) : Met l yX12_room (.code yX12_room cX12_room 6 (some .int) :: TT) ({ frames := 0, cells := 0, slots := 0, locals := 0 } : Room) (zPc D cy 17 (celM ad cy) ad A [.int xq0, .int xq1, .int xq2] σ) (zQi D 17 (celM ad cy) ad A r σ) 0 0 A := by
  refine zofW (by decide) hA (Nat.le_of_ble_eq_true rfl) ?_
  intro p e s m args below meth c ls E hw hr hlk hl
  have E : ZE p s m args c cX12_room 6 "KiteSummonsModel" D cy 17 ad A := E
  have hx := E.hx
  have hb := E.hb
  have hl : lv_has ls 6 [(0, .int xq0), (1, .int xq1), (2, .int xq2)] := hl
  have hB46 : ∀ (xq2 : Int32) (tq0 : Int32) (H : Heap) (locs : List Loc) (ls : Array Slot), ZS D 17 (celM ad cy) ad A s σ H locs → lv_has ls 6 [(2, .int xq2)] → f_X12_room_b46 xq2 tq0 σ = r → W p l e ({ frames := 0, cells := 0, slots := 0, locals := 0 } : Room) s m args below meth c H locs 0 0 (MQ below (zQi D 17 (celM ad cy) ad A r σ) args s 0 0 A) (F0 m 46 ls [.int tq0]) := by
    intro xq2 tq0 H locs ls hw hl hf
    unfold f_X12_room_b46 at hf
    refine lv_istore (lv' := [(5, .int tq0), (2, .int xq2)]) hx hb dX12_room_46 hl (by decide) rfl (fun ls hl => ?_)
    refine lv_iload_n hx hb dX12_room_48 rfl (lv_at hl 1 rfl) ?_
    refine lv_iload hx hb dX12_room_49 (lv_at hl 0 rfl) ?_
    refine lv_icmp_ge (tgt := 58) hx hb dX12_room_51 (by decide) (fun h => ?_) (fun h => ?_)
    · replace hf := it_t h hf
      refine lv_iload hx hb dX12_room_58 (lv_at hl 0 rfl) ?_
      exact zreti E hw hr hlk hf rfl dX12_room_60
    · replace hf := it_f h hf
      refine lv_iload_n hx hb dX12_room_54 rfl (lv_at hl 1 rfl) ?_
      refine lv_goto (tgt := 60) hx hb dX12_room_55 (by decide) ?_
      exact zreti E hw hr hlk hf rfl dX12_room_60
  unfold f_X12_room at hf
  refine lv_iload_n hx hb dX12_room_0 rfl (lv_at hl 0 rfl) ?_
  refine lv_bipush (v := 8) hx hb dX12_room_1 (by decide) ?_
  refine zirem hx hb dX12_room_3 (by decide) ?_
  refine lv_topi (fun vq1 evq1 => ?_)
  replace hf := lt_i evq1 hf
  refine lv_istore_n (lv' := [(3, .int vq1), (0, .int xq0), (1, .int xq1), (2, .int xq2)]) hx hb dX12_room_4 rfl hl (by decide) rfl (fun ls hl => ?_)
  refine lv_iload_n hx hb dX12_room_5 rfl (lv_at hl 1 rfl) ?_
  refine lv_bipush (v := 8) hx hb dX12_room_6 (by decide) ?_
  refine lv_idiv hx hb dX12_room_8 (by decide) ?_
  refine lv_topi (fun vq2 evq2 => ?_)
  replace hf := lt_i evq2 hf
  refine lv_istore (lv' := [(4, .int vq2), (3, .int vq1), (0, .int xq0), (1, .int xq1), (2, .int xq2)]) hx hb dX12_room_9 hl (by decide) rfl (fun ls hl => ?_)
  refine lv_iload_n hx hb dX12_room_11 rfl (lv_at hl 3 rfl) ?_
  refine lv_if_ne (tgt := 22) hx hb dX12_room_12 (by decide) (fun h => ?_) (fun h => ?_)
  · replace hf := it_t h hf
    refine lv_iload_n hx hb dX12_room_22 rfl (lv_at hl 3 rfl) ?_
    refine lv_iconst (v := 1) hx hb dX12_room_23 (by decide) ?_
    refine lv_icmp_ne (tgt := 35) hx hb dX12_room_24 (by decide) (fun h => ?_) (fun h => ?_)
    · replace hf := it_t h hf
      refine lv_iload_n hx hb dX12_room_35 rfl (lv_at hl 3 rfl) ?_
      refine lv_iconst (v := 2) hx hb dX12_room_36 (by decide) ?_
      refine lv_icmp_ne (tgt := 44) hx hb dX12_room_37 (by decide) (fun h => ?_) (fun h => ?_)
      · replace hf := it_t h hf
        refine lv_iload hx hb dX12_room_44 (lv_at hl 0 rfl) ?_
        exact hB46 xq2 vq2 _ _ _ hw (lv_sub hl [4] rfl) hf
      · replace hf := it_n h hf
        refine lv_iload_n hx hb dX12_room_40 rfl (lv_at hl 1 rfl) ?_
        refine lv_goto (tgt := 46) hx hb dX12_room_41 (by decide) ?_
        exact hB46 xq2 vq1 _ _ _ hw (lv_sub hl [4] rfl) hf
    · replace hf := it_n h hf
      refine lv_bipush (v := 7) hx hb dX12_room_27 (by decide) ?_
      refine lv_iload hx hb dX12_room_29 (lv_at hl 0 rfl) ?_
      refine lv_isub hx hb dX12_room_31 ?_
      refine lv_goto (tgt := 46) hx hb dX12_room_32 (by decide) ?_
      exact hB46 xq2 (7 - vq2) _ _ _ hw (lv_sub hl [4] rfl) hf
  · replace hf := it_n h hf
    refine lv_bipush (v := 7) hx hb dX12_room_15 (by decide) ?_
    refine lv_iload_n hx hb dX12_room_17 rfl (lv_at hl 1 rfl) ?_
    refine lv_isub hx hb dX12_room_18 ?_
    refine lv_goto (tgt := 46) hx hb dX12_room_19 (by decide) ?_
    exact hB46 xq2 (7 - vq1) _ _ _ hw (lv_sub hl [4] rfl) hf
set_option maxRecDepth 100000 in
set_option maxHeartbeats 4000000 in
theorem c_X12_moved {l : Launch} {D : va_G} {cy : Cy} {ad : Nat → Nat} {A : Nat → Prop} (hA : okAd 17 ad A) (xq0 : Int32) (xq1 : Int32) (xq2 : Int32) (σ : Sg) {r : Int32} (hf : f_X12_moved xq0 xq1 xq2 σ = r) : Met l yX12_moved (.code yX12_moved cX12_moved 3 (some .int) :: TT) ({ frames := 0, cells := 0, slots := 0, locals := 0 } : Room) (zPc D cy 17 (celM ad cy) ad A [.int xq0, .int xq1, .int xq2] σ) (zQi D 17 (celM ad cy) ad A r σ) 0 0 A := by
  refine zofW (by decide) hA (Nat.le_of_ble_eq_true rfl) ?_
  intro p e s m args below meth c ls E hw hr hlk hl
  have E : ZE p s m args c cX12_moved 3 "KiteSummonsModel" D cy 17 ad A := E
  have hx := E.hx
  have hb := E.hb
  have hl : lv_has ls 3 [(0, .int xq0), (1, .int xq1), (2, .int xq2)] := hl
  unfold f_X12_moved at hf
  refine lv_iload_n hx hb dX12_moved_0 rfl (lv_at hl 0 rfl) ?_
  refine lv_iload_n hx hb dX12_moved_1 rfl (lv_at hl 1 rfl) ?_
  refine lv_if_ne (tgt := 9) hx hb dX12_moved_2 (by decide) (fun h => ?_) (fun h => ?_)
  · replace hf := it_t h hf
    refine lv_iload_n hx hb dX12_moved_9 rfl (lv_at hl 1 rfl) ?_
    refine lv_iconst (v := 1) hx hb dX12_moved_10 (by decide) ?_
    refine lv_icmp_ne (tgt := 21) hx hb dX12_moved_11 (by decide) (fun h => ?_) (fun h => ?_)
    · replace hf := it_t h hf
      refine lv_iload_n hx hb dX12_moved_21 rfl (lv_at hl 1 rfl) ?_
      refine lv_iconst (v := 2) hx hb dX12_moved_22 (by decide) ?_
      refine lv_icmp_ne (tgt := 31) hx hb dX12_moved_23 (by decide) (fun h => ?_) (fun h => ?_)
      · replace hf := it_t h hf
        refine lv_bipush (v := (-8)) hx hb dX12_moved_31 (by decide) ?_
        refine lv_iload_n hx hb dX12_moved_33 rfl (lv_at hl 2 rfl) ?_
        refine lv_imul hx hb dX12_moved_34 ?_
        refine lv_iadd hx hb dX12_moved_35 ?_
        exact zreti E hw hr hlk hf rfl dX12_moved_36
      · replace hf := it_n h hf
        refine lv_iload_n hx hb dX12_moved_26 rfl (lv_at hl 2 rfl) ?_
        refine lv_ineg hx hb dX12_moved_27 ?_
        refine lv_goto (tgt := 35) hx hb dX12_moved_28 (by decide) ?_
        refine lv_iadd hx hb dX12_moved_35 ?_
        exact zreti E hw hr hlk hf rfl dX12_moved_36
    · replace hf := it_n h hf
      refine lv_bipush (v := 8) hx hb dX12_moved_14 (by decide) ?_
      refine lv_iload_n hx hb dX12_moved_16 rfl (lv_at hl 2 rfl) ?_
      refine lv_imul hx hb dX12_moved_17 ?_
      refine lv_goto (tgt := 35) hx hb dX12_moved_18 (by decide) ?_
      refine lv_iadd hx hb dX12_moved_35 ?_
      exact zreti E hw hr hlk hf rfl dX12_moved_36
  · replace hf := it_n h hf
    refine lv_iload_n hx hb dX12_moved_5 rfl (lv_at hl 2 rfl) ?_
    refine lv_goto (tgt := 35) hx hb dX12_moved_6 (by decide) ?_
    refine lv_iadd hx hb dX12_moved_35 ?_
    exact zreti E hw hr hlk hf rfl dX12_moved_36
set_option maxRecDepth 100000 in
set_option maxHeartbeats 4000000 in
theorem c_X12_blows {l : Launch} {D : va_G} {cy : Cy} {ad : Nat → Nat} {A : Nat → Prop} (hA : okAd 17 ad A) (σ : Sg) {σ9 : Sg} (hf : f_X12_blows σ = some σ9) : Met l yX12_blows (.code yX12_blows cX12_blows 5 none :: TT) ({ frames := 3, cells := 0, slots := 0, locals := 64 } : Room) (zPc D cy 17 (celM ad cy) ad A [.ref (ad 0)] σ) (zQv D 17 (celM ad cy) ad A σ9) 0 0 A := by
  refine zofW (by decide) hA (Nat.le_of_ble_eq_true rfl) ?_
  intro p e s m args below meth c ls E hw hr hlk hl
  have E : ZE p s m args c cX12_blows 5 "KiteSummonsModel" D cy 17 ad A := E
  have hx := E.hx
  have hb := E.hb
  have hl : lv_has ls 5 [(0, .ref (ad 0))] := hl
  have hB67 : ∀ (xq1 : Int32) (xq2 : Int32) (tq0 : Int32) (kq19 : Int32 → Sg → Option Sg) (hkq19 : ∀ (xq2 : Int32) (σ : Sg) (H : Heap) (locs : List Loc) (ls : Array Slot), ZS D 17 (celM ad cy) ad A s σ H locs → lv_has ls 5 [(0, .ref (ad 0)), (1, .int xq1), (2, .int xq2)] → kq19 xq2 σ = some σ9 → W p l e ({ frames := 3, cells := 0, slots := 0, locals := 64 } : Room) s m args below meth c H locs 0 0 (MQ below (zQv D 17 (celM ad cy) ad A σ9) args s 0 0 A) (F0 m 19 ls [])) (σ : Sg) (H : Heap) (locs : List Loc) (ls : Array Slot), ZS D 17 (celM ad cy) ad A s σ H locs → lv_has ls 5 [(0, .ref (ad 0)), (1, .int xq1), (2, .int xq2)] → f_X12_blows_b67 kq19 xq1 xq2 tq0 σ = some σ9 → W p l e ({ frames := 3, cells := 0, slots := 0, locals := 64 } : Room) s m args below meth c H locs 0 0 (MQ below (zQv D 17 (celM ad cy) ad A σ9) args s 0 0 A) (F0 m 67 ls [.int tq0]) := by
    intro xq1 xq2 tq0 kq19 hkq19 σ H locs ls hw hl hf
    unfold f_X12_blows_b67 at hf
    refine lv_istore_n (lv' := [(3, .int tq0), (0, .ref (ad 0)), (1, .int xq1), (2, .int xq2)]) hx hb dX12_blows_67 rfl hl (by decide) rfl (fun ls hl => ?_)
    refine lv_aload_n hx hb dX12_blows_68 rfl (lv_at hl 1 rfl) ?_
    refine lv_iload_n hx hb dX12_blows_69 rfl (lv_at hl 3 rfl) ?_
    refine lv_iconst (v := 1) hx hb dX12_blows_70 (by decide) ?_
    obtain ⟨vq8, hc, hf⟩ := bd_e hf
    refine zcali hw (va_runV (As := [.int xq2, .int 1]) (rest := []) E.fix (c_X12_its (l := l) hA xq2 1 σ hc) (zcV E k6_145 k1_14 k6_142 k6_144 kp3_9 mf_X12_its rfl rfl ⟨Nat.le_of_ble_eq_true rfl, Nat.le_of_ble_eq_true rfl⟩) (zPreV E hw (Nat.le_of_ble_eq_true rfl) (ceM_0 ad cy _) rfl _) rfl rfl hl.1 rfl (lv_room (Nat.le_of_ble_eq_true rfl)) dX12_blows_71 ⟨Nat.zero_le _, Nat.zero_le _⟩) (fun H locs hw => ?_)
    refine lv_iload_n hx hb dX12_blows_74 rfl (lv_at hl 2 rfl) ?_
    refine lv_iload_n hx hb dX12_blows_75 rfl (lv_at hl 0 rfl) ?_
    refine zcali hw (va_runS (As := [.int vq8, .int xq1, .int tq0]) (rest := []) E.fix (c_X12_room (l := l) hA vq8 xq1 tq0 σ rfl) (zcS E k7_9 k1_14 k7_7 k7_8 mf_X12_room rfl rfl ⟨Nat.le_of_ble_eq_true rfl, Nat.le_of_ble_eq_true rfl⟩) (zPre E hw _) rfl rfl hl.1 rfl (lv_room (Nat.le_of_ble_eq_true rfl)) dX12_blows_76 ⟨Nat.zero_le _, Nat.zero_le _⟩) (fun H locs hw => ?_)
    refine lv_topi (fun vq9 evq9 => ?_)
    replace hf := lt_i evq9 hf
    refine lv_istore (lv' := [(4, .int vq9), (3, .int tq0), (0, .ref (ad 0)), (1, .int xq1), (2, .int xq2)]) hx hb dX12_blows_79 hl (by decide) rfl (fun ls hl => ?_)
    refine lv_aload_n hx hb dX12_blows_81 rfl (lv_at hl 2 rfl) ?_
    refine zget E hw (Nat.le_of_ble_eq_true rfl) (ceM_0 ad cy _) rfl inX12 0 (by decide) k5_223 (fun _ h => h) rfl dX12_blows_82 ?_
    refine lv_iload_n hx hb dX12_blows_85 rfl (lv_at hl 4 rfl) ?_
    refine lv_iconst (v := 1) hx hb dX12_blows_86 (by decide) ?_
    refine zcali hw (va_runS (As := [.int xq2, .int 1]) (rest := [.ref (ad 1)]) E.fix (c_X12_at (l := l) hA xq2 1 σ rfl) (zcS E k6_129 k1_14 k6_127 k6_128 mf_X12_at rfl rfl ⟨Nat.le_of_ble_eq_true rfl, Nat.le_of_ble_eq_true rfl⟩) (zPre E hw _) rfl rfl hl.1 rfl (lv_room (Nat.le_of_ble_eq_true rfl)) dX12_blows_87 ⟨Nat.zero_le _, Nat.zero_le _⟩) (fun H locs hw => ?_)
    refine lv_aload_n hx hb dX12_blows_90 rfl (lv_at hl 2 rfl) ?_
    refine lv_iload_n hx hb dX12_blows_91 rfl (lv_at hl 4 rfl) ?_
    refine lv_iconst (v := 1) hx hb dX12_blows_92 (by decide) ?_
    obtain ⟨vq10, hc, hf⟩ := bd_e hf
    refine zcali hw (va_runV (As := [.int xq2, .int 1]) (rest := [.int (f_X12_at xq2 1 σ), .ref (ad 1)]) E.fix (c_X12_its (l := l) hA xq2 1 σ hc) (zcV E k6_145 k1_14 k6_142 k6_144 kp3_9 mf_X12_its rfl rfl ⟨Nat.le_of_ble_eq_true rfl, Nat.le_of_ble_eq_true rfl⟩) (zPreV E hw (Nat.le_of_ble_eq_true rfl) (ceM_0 ad cy _) rfl _) rfl rfl hl.1 rfl (lv_room (Nat.le_of_ble_eq_true rfl)) dX12_blows_93 ⟨Nat.zero_le _, Nat.zero_le _⟩) (fun H locs hw => ?_)
    refine lv_iload_n hx hb dX12_blows_96 rfl (lv_at hl 3 rfl) ?_
    refine lv_iload hx hb dX12_blows_97 (lv_at hl 0 rfl) ?_
    refine zcali hw (va_runS (As := [.int vq10, .int xq1, .int vq9]) (rest := [.int (f_X12_at xq2 1 σ), .ref (ad 1)]) E.fix (c_X12_moved (l := l) hA vq10 xq1 vq9 σ rfl) (zcS E k7_12 k1_14 k7_10 k7_11 mf_X12_moved rfl rfl ⟨Nat.le_of_ble_eq_true rfl, Nat.le_of_ble_eq_true rfl⟩) (zPre E hw _) rfl rfl hl.1 rfl (lv_room (Nat.le_of_ble_eq_true rfl)) dX12_blows_99 ⟨Nat.zero_le _, Nat.zero_le _⟩) (fun H locs hw => ?_)
    obtain ⟨σ11, hσ11, hf⟩ := bd_e hf
    refine zastr E hw (Nat.le_of_ble_eq_true rfl) (ceM_1 ad cy) hσ11 dX12_blows_102 (fun H locs hw => ?_)
    refine lv_aload_n hx hb dX12_blows_103 rfl (lv_at hl 2 rfl) ?_
    refine zget E hw (Nat.le_of_ble_eq_true rfl) (ceM_0 ad cy _) rfl inX12 0 (by decide) k5_223 (fun _ h => h) rfl dX12_blows_104 ?_
    refine lv_iload_n hx hb dX12_blows_107 rfl (lv_at hl 4 rfl) ?_
    refine lv_iconst (v := 2) hx hb dX12_blows_108 (by decide) ?_
    refine zcali hw (va_runS (As := [.int xq2, .int 2]) (rest := [.ref (ad 1)]) E.fix (c_X12_at (l := l) hA xq2 2 σ11 rfl) (zcS E k6_129 k1_14 k6_127 k6_128 mf_X12_at rfl rfl ⟨Nat.le_of_ble_eq_true rfl, Nat.le_of_ble_eq_true rfl⟩) (zPre E hw _) rfl rfl hl.1 rfl (lv_room (Nat.le_of_ble_eq_true rfl)) dX12_blows_109 ⟨Nat.zero_le _, Nat.zero_le _⟩) (fun H locs hw => ?_)
    refine lv_dup2_11 hx hb dX12_blows_112 rfl rfl ?_
    obtain ⟨vq12, hvq12, hf⟩ := bd_e hf
    refine zaldr E hw (Nat.le_of_ble_eq_true rfl) (ceM_1 ad cy) hvq12 dX12_blows_113 ?_
    refine lv_iload hx hb dX12_blows_114 (lv_at hl 0 rfl) ?_
    refine lv_isub hx hb dX12_blows_116 ?_
    obtain ⟨σ13, hσ13, hf⟩ := bd_e hf
    refine zastr E hw (Nat.le_of_ble_eq_true rfl) (ceM_1 ad cy) hσ13 dX12_blows_117 (fun H locs hw => ?_)
    refine lv_iinc (v := (xq2 + 1)) (lv' := [(2, .int (xq2 + 1)), (4, .int vq9), (3, .int tq0), (0, .ref (ad 0)), (1, .int xq1)]) hx hb dX12_blows_118 hl (k := 4) rfl (by rfl) (by decide) rfl (fun ls hl => ?_)
    refine lv_goto (tgt := 19) hx hb dX12_blows_121 (by decide) ?_
    exact hkq19 (xq2 + 1) σ13 _ _ _ hw (lv_sub hl [3, 4, 0] rfl) hf
  have hB19 : ∀ (xq1 : Int32) (kq19 : Int32 → Sg → Option Sg) (hkq19 : ∀ (xq2 : Int32) (σ : Sg) (H : Heap) (locs : List Loc) (ls : Array Slot), ZS D 17 (celM ad cy) ad A s σ H locs → lv_has ls 5 [(0, .ref (ad 0)), (1, .int xq1), (2, .int xq2)] → kq19 xq2 σ = some σ9 → W p l e ({ frames := 3, cells := 0, slots := 0, locals := 64 } : Room) s m args below meth c H locs 0 0 (MQ below (zQv D 17 (celM ad cy) ad A σ9) args s 0 0 A) (F0 m 19 ls [])) (xq2 : Int32) (σ : Sg) (H : Heap) (locs : List Loc) (ls : Array Slot), ZS D 17 (celM ad cy) ad A s σ H locs → lv_has ls 5 [(0, .ref (ad 0)), (1, .int xq1), (2, .int xq2)] → f_X12_blows_b19 kq19 xq1 xq2 σ = some σ9 → W p l e ({ frames := 3, cells := 0, slots := 0, locals := 64 } : Room) s m args below meth c H locs 0 0 (MQ below (zQv D 17 (celM ad cy) ad A σ9) args s 0 0 A) (F0 m 19 ls []) := by
    intro xq1 kq19 hkq19 xq2 σ H locs ls hw hl hf
    unfold f_X12_blows_b19 at hf
    refine lv_iload_n hx hb dX12_blows_19 rfl (lv_at hl 2 rfl) ?_
    refine lv_aload_n hx hb dX12_blows_20 rfl (lv_at hl 0 rfl) ?_
    refine zget E hw (Nat.le_of_ble_eq_true rfl) (ceM_0 ad cy _) rfl inX12 0 (by decide) k5_223 (fun _ h => h) rfl dX12_blows_21 ?_
    refine lv_iconst (v := 0) hx hb dX12_blows_24 (by decide) ?_
    refine zaldk E hw (Nat.le_of_ble_eq_true rfl) (ceM_1 ad cy) 0 (by rfl) (Nat.le_of_ble_eq_true rfl) (by decide) dX12_blows_25 ?_
    refine lv_icmp_ge (tgt := 124) hx hb dX12_blows_26 (by decide) (fun h => ?_) (fun h => ?_)
    · replace hf := it_t h hf
      exact zretv E hw hr hlk (rt_1 hf) dX12_blows_124
    · replace hf := it_f h hf
      refine lv_aload_n hx hb dX12_blows_29 rfl (lv_at hl 0 rfl) ?_
      refine lv_iload_n hx hb dX12_blows_30 rfl (lv_at hl 2 rfl) ?_
      refine lv_iconst (v := 4) hx hb dX12_blows_31 (by decide) ?_
      obtain ⟨vq3, hc, hf⟩ := bd_e hf
      refine zcali hw (va_runV (As := [.int xq2, .int 4]) (rest := []) E.fix (c_X12_its (l := l) hA xq2 4 σ hc) (zcV E k6_145 k1_14 k6_142 k6_144 kp3_9 mf_X12_its rfl rfl ⟨Nat.le_of_ble_eq_true rfl, Nat.le_of_ble_eq_true rfl⟩) (zPreV E hw (Nat.le_of_ble_eq_true rfl) (ceM_0 ad cy _) rfl _) rfl rfl hl.1 rfl (lv_room (Nat.le_of_ble_eq_true rfl)) dX12_blows_32 ⟨Nat.zero_le _, Nat.zero_le _⟩) (fun H locs hw => ?_)
      refine lv_iconst (v := 1) hx hb dX12_blows_35 (by decide) ?_
      refine lv_icmp_ne (tgt := 118) hx hb dX12_blows_36 (by decide) (fun h => ?_) (fun h => ?_)
      · replace hf := it_t h hf
        refine lv_iinc (v := (xq2 + 1)) (lv' := [(2, .int (xq2 + 1)), (0, .ref (ad 0)), (1, .int xq1)]) hx hb dX12_blows_118 hl (k := 2) rfl (by rfl) (by decide) rfl (fun ls hl => ?_)
        refine lv_goto (tgt := 19) hx hb dX12_blows_121 (by decide) ?_
        exact hkq19 (xq2 + 1) σ _ _ _ hw (lv_sub hl [1, 2, 0] rfl) hf
      · replace hf := it_n h hf
        refine lv_aload_n hx hb dX12_blows_39 rfl (lv_at hl 0 rfl) ?_
        refine lv_iload_n hx hb dX12_blows_40 rfl (lv_at hl 2 rfl) ?_
        obtain ⟨vq4, hc, hf⟩ := bd_e hf
        refine zcali hw (va_runV (As := [.int xq2]) (rest := []) E.fix (c_X12_drifts (l := l) hA xq2 σ hc) (zcV E k6_141 k1_14 k6_138 k6_140 kp3_8 mf_X12_drifts rfl rfl ⟨Nat.le_of_ble_eq_true rfl, Nat.le_of_ble_eq_true rfl⟩) (zPreV E hw (Nat.le_of_ble_eq_true rfl) (ceM_0 ad cy _) rfl _) rfl rfl hl.1 rfl (lv_room (Nat.le_of_ble_eq_true rfl)) dX12_blows_41 ⟨Nat.zero_le _, Nat.zero_le _⟩) (fun H locs hw => ?_)
        refine lv_aload_n hx hb dX12_blows_44 rfl (lv_at hl 0 rfl) ?_
        refine lv_iload_n hx hb dX12_blows_45 rfl (lv_at hl 2 rfl) ?_
        refine lv_iconst (v := 2) hx hb dX12_blows_46 (by decide) ?_
        obtain ⟨vq5, hc, hf⟩ := bd_e hf
        refine zcali hw (va_runV (As := [.int xq2, .int 2]) (rest := [.int vq4]) E.fix (c_X12_its (l := l) hA xq2 2 σ hc) (zcV E k6_145 k1_14 k6_142 k6_144 kp3_9 mf_X12_its rfl rfl ⟨Nat.le_of_ble_eq_true rfl, Nat.le_of_ble_eq_true rfl⟩) (zPreV E hw (Nat.le_of_ble_eq_true rfl) (ceM_0 ad cy _) rfl _) rfl rfl hl.1 rfl (lv_room (Nat.le_of_ble_eq_true rfl)) dX12_blows_47 ⟨Nat.zero_le _, Nat.zero_le _⟩) (fun H locs hw => ?_)
        refine lv_icmp_ge (tgt := 61) hx hb dX12_blows_50 (by decide) (fun h => ?_) (fun h => ?_)
        · replace hf := it_t h hf
          refine lv_aload_n hx hb dX12_blows_61 rfl (lv_at hl 0 rfl) ?_
          refine lv_iload_n hx hb dX12_blows_62 rfl (lv_at hl 2 rfl) ?_
          refine lv_iconst (v := 2) hx hb dX12_blows_63 (by decide) ?_
          obtain ⟨vq6, hc, hf⟩ := bd_e hf
          refine zcali hw (va_runV (As := [.int xq2, .int 2]) (rest := []) E.fix (c_X12_its (l := l) hA xq2 2 σ hc) (zcV E k6_145 k1_14 k6_142 k6_144 kp3_9 mf_X12_its rfl rfl ⟨Nat.le_of_ble_eq_true rfl, Nat.le_of_ble_eq_true rfl⟩) (zPreV E hw (Nat.le_of_ble_eq_true rfl) (ceM_0 ad cy _) rfl _) rfl rfl hl.1 rfl (lv_room (Nat.le_of_ble_eq_true rfl)) dX12_blows_64 ⟨Nat.zero_le _, Nat.zero_le _⟩) (fun H locs hw => ?_)
          exact hB67 xq1 xq2 vq6 kq19 hkq19 σ _ _ _ hw (lv_sub hl [0, 1, 2] rfl) hf
        · replace hf := it_f h hf
          refine lv_aload_n hx hb dX12_blows_53 rfl (lv_at hl 0 rfl) ?_
          refine lv_iload_n hx hb dX12_blows_54 rfl (lv_at hl 2 rfl) ?_
          obtain ⟨vq7, hc, hf⟩ := bd_e hf
          refine zcali hw (va_runV (As := [.int xq2]) (rest := []) E.fix (c_X12_drifts (l := l) hA xq2 σ hc) (zcV E k6_141 k1_14 k6_138 k6_140 kp3_8 mf_X12_drifts rfl rfl ⟨Nat.le_of_ble_eq_true rfl, Nat.le_of_ble_eq_true rfl⟩) (zPreV E hw (Nat.le_of_ble_eq_true rfl) (ceM_0 ad cy _) rfl _) rfl rfl hl.1 rfl (lv_room (Nat.le_of_ble_eq_true rfl)) dX12_blows_55 ⟨Nat.zero_le _, Nat.zero_le _⟩) (fun H locs hw => ?_)
          refine lv_goto (tgt := 67) hx hb dX12_blows_58 (by decide) ?_
          exact hB67 xq1 xq2 vq7 kq19 hkq19 σ _ _ _ hw (lv_sub hl [0, 1, 2] rfl) hf
  have hL19 : ∀ (xq1 : Int32) (n : Nat) (xq2 : Int32) (σ : Sg) (H : Heap) (locs : List Loc) (ls : Array Slot), ZS D 17 (celM ad cy) ad A s σ H locs → lv_has ls 5 [(0, .ref (ad 0)), (1, .int xq1), (2, .int xq2)] → f_X12_blows_l19 xq1 n xq2 σ = some σ9 → W p l e ({ frames := 3, cells := 0, slots := 0, locals := 64 } : Room) s m args below meth c H locs 0 0 (MQ below (zQv D 17 (celM ad cy) ad A σ9) args s 0 0 A) (F0 m 19 ls []) := by
    intro xq1 n
    induction n with
    | zero =>
      intro xq2 σ H locs ls hw hl hf
      exact nn_e hf
    | succ n ih =>
      intro xq2 σ H locs ls hw hl hf
      exact hB19 xq1 (f_X12_blows_l19 xq1 n) ih xq2 σ H locs ls hw hl hf
  unfold f_X12_blows at hf
  refine lv_aload_n hx hb dX12_blows_0 rfl (lv_at hl 0 rfl) ?_
  refine zget E hw (Nat.le_of_ble_eq_true rfl) (ceM_0 ad cy _) rfl inX12 0 (by decide) k5_223 (fun _ h => h) rfl dX12_blows_1 ?_
  refine lv_bipush (v := 7) hx hb dX12_blows_4 (by decide) ?_
  refine lv_aload_n hx hb dX12_blows_6 rfl (lv_at hl 0 rfl) ?_
  refine zget E hw (Nat.le_of_ble_eq_true rfl) (ceM_0 ad cy _) rfl inX12 0 (by decide) k5_223 (fun _ h => h) rfl dX12_blows_7 ?_
  refine lv_iconst (v := 3) hx hb dX12_blows_10 (by decide) ?_
  refine zaldk E hw (Nat.le_of_ble_eq_true rfl) (ceM_1 ad cy) 3 (by rfl) (Nat.le_of_ble_eq_true rfl) (by decide) dX12_blows_11 ?_
  refine lv_iadd hx hb dX12_blows_12 ?_
  obtain ⟨vq1, hvq1, hf⟩ := bd_e hf
  refine zaldr E hw (Nat.le_of_ble_eq_true rfl) (ceM_1 ad cy) hvq1 dX12_blows_13 ?_
  refine lv_iconst (v := 4) hx hb dX12_blows_14 (by decide) ?_
  refine zirem hx hb dX12_blows_15 (by decide) ?_
  refine lv_topi (fun vq2 evq2 => ?_)
  replace hf := lt_i evq2 hf
  refine lv_istore_n (lv' := [(1, .int vq2), (0, .ref (ad 0))]) hx hb dX12_blows_16 rfl hl (by decide) rfl (fun ls hl => ?_)
  refine lv_iconst (v := 0) hx hb dX12_blows_17 (by decide) ?_
  refine lv_istore_n (lv' := [(2, .int 0), (1, .int vq2), (0, .ref (ad 0))]) hx hb dX12_blows_18 rfl hl (by decide) rfl (fun ls hl => ?_)
  exact hL19 vq2 400 0 σ _ _ _ hw (lv_sub hl [2, 1, 0] rfl) hf
set_option maxRecDepth 100000 in
set_option maxHeartbeats 4000000 in
theorem c_X12_isReached {l : Launch} {D : va_G} {cy : Cy} {ad : Nat → Nat} {A : Nat → Prop} (hA : okAd 17 ad A) (xq1 : Int32) (σ : Sg) {r : Bool} (hf : f_X12_isReached xq1 σ = some r) : Met l yX12_isReached (.code yX12_isReached cX12_isReached 2 (some .boolean) :: TT) ({ frames := 3, cells := 0, slots := 0, locals := 64 } : Room) (zPc D cy 17 (celM ad cy) ad A [.ref (ad 0), .int xq1] σ) (zQi D 17 (celM ad cy) ad A (b2i r) σ) 0 0 A := by
  refine zofW (by decide) hA (Nat.le_of_ble_eq_true rfl) ?_
  intro p e s m args below meth c ls E hw hr hlk hl
  have E : ZE p s m args c cX12_isReached 2 "KiteSummonsModel" D cy 17 ad A := E
  have hx := E.hx
  have hb := E.hb
  have hl : lv_has ls 2 [(0, .ref (ad 0)), (1, .int xq1)] := hl
  unfold f_X12_isReached at hf
  refine lv_aload_n hx hb dX12_isReached_0 rfl (lv_at hl 0 rfl) ?_
  refine lv_iload_n hx hb dX12_isReached_1 rfl (lv_at hl 1 rfl) ?_
  obtain ⟨vq1, hc, hf⟩ := bd_e hf
  refine zcali hw (va_runV (As := [.int xq1]) (rest := []) E.fix (c_X12_farOf (l := l) hA xq1 σ hc) (zcV E k6_175 k1_14 k6_172 k6_174 kp3_15 mf_X12_farOf rfl rfl ⟨Nat.le_of_ble_eq_true rfl, Nat.le_of_ble_eq_true rfl⟩) (zPreV E hw (Nat.le_of_ble_eq_true rfl) (ceM_0 ad cy _) rfl _) rfl rfl hl.1 rfl (lv_room (Nat.le_of_ble_eq_true rfl)) dX12_isReached_2 ⟨Nat.zero_le _, Nat.zero_le _⟩) (fun H locs hw => ?_)
  refine lv_aload_n hx hb dX12_isReached_5 rfl (lv_at hl 0 rfl) ?_
  refine zget E hw (Nat.le_of_ble_eq_true rfl) (ceM_0 ad cy _) rfl inX12 0 (by decide) k5_223 (fun _ h => h) rfl dX12_isReached_6 ?_
  refine lv_bipush (v := 23) hx hb dX12_isReached_9 (by decide) ?_
  refine lv_iconst (v := 2) hx hb dX12_isReached_11 (by decide) ?_
  refine lv_aload_n hx hb dX12_isReached_12 rfl (lv_at hl 0 rfl) ?_
  refine lv_iload_n hx hb dX12_isReached_13 rfl (lv_at hl 1 rfl) ?_
  refine lv_iconst (v := 3) hx hb dX12_isReached_14 (by decide) ?_
  obtain ⟨vq2, hc, hf⟩ := bd_e hf
  refine zcali hw (va_runV (As := [.int xq1, .int 3]) (rest := [.int 2, .int 23, .ref (ad 1), .int vq1]) E.fix (c_X12_its (l := l) hA xq1 3 σ hc) (zcV E k6_145 k1_14 k6_142 k6_144 kp3_9 mf_X12_its rfl rfl ⟨Nat.le_of_ble_eq_true rfl, Nat.le_of_ble_eq_true rfl⟩) (zPreV E hw (Nat.le_of_ble_eq_true rfl) (ceM_0 ad cy _) rfl _) rfl rfl hl.1 rfl (lv_room (Nat.le_of_ble_eq_true rfl)) dX12_isReached_15 ⟨Nat.zero_le _, Nat.zero_le _⟩) (fun H locs hw => ?_)
  refine lv_imul hx hb dX12_isReached_18 ?_
  refine lv_iadd hx hb dX12_isReached_19 ?_
  refine lv_iconst (v := 1) hx hb dX12_isReached_20 (by decide) ?_
  refine lv_iadd hx hb dX12_isReached_21 ?_
  obtain ⟨vq3, hvq3, hf⟩ := bd_e hf
  refine zaldr E hw (Nat.le_of_ble_eq_true rfl) (ceM_1 ad cy) hvq3 dX12_isReached_22 ?_
  refine lv_icmp_gt (tgt := 30) hx hb dX12_isReached_23 (by decide) (fun h => ?_) (fun h => ?_)
  · replace hf := it_t h hf
    refine lv_iconst (v := 0) hx hb dX12_isReached_30 (by decide) ?_
    exact zretz E hw hr hlk (b_e (rt_1 hf) (by rfl)) rfl dX12_isReached_31
  · replace hf := it_f h hf
    refine lv_iconst (v := 1) hx hb dX12_isReached_26 (by decide) ?_
    refine lv_goto (tgt := 31) hx hb dX12_isReached_27 (by decide) ?_
    exact zretz E hw hr hlk (b_e (rt_1 hf) (by rfl)) rfl dX12_isReached_31
set_option maxRecDepth 100000 in
set_option maxHeartbeats 4000000 in
theorem c_X12_chosen {l : Launch} {D : va_G} {cy : Cy} {ad : Nat → Nat} {A : Nat → Prop} (hA : okAd 17 ad A) (σ : Sg) {r : Int32} (hf : f_X12_chosen σ = some r) : Met l yX12_chosen (.code yX12_chosen cX12_chosen 2 (some .int) :: TT) ({ frames := 4, cells := 0, slots := 0, locals := 85 } : Room) (zPc D cy 17 (celM ad cy) ad A [.ref (ad 0)] σ) (zQi D 17 (celM ad cy) ad A r σ) 0 0 A := by
  refine zofW (by decide) hA (Nat.le_of_ble_eq_true rfl) ?_
  intro p e s m args below meth c ls E hw hr hlk hl
  have E : ZE p s m args c cX12_chosen 2 "KiteSummonsModel" D cy 17 ad A := E
  have hx := E.hx
  have hb := E.hb
  have hl : lv_has ls 2 [(0, .ref (ad 0))] := hl
  have hB2 : ∀ (kq2 : Int32 → Option Int32) (hkq2 : ∀ (xq1 : Int32) (H : Heap) (locs : List Loc) (ls : Array Slot), ZS D 17 (celM ad cy) ad A s σ H locs → lv_has ls 2 [(0, .ref (ad 0)), (1, .int xq1)] → kq2 xq1 = some r → W p l e ({ frames := 4, cells := 0, slots := 0, locals := 85 } : Room) s m args below meth c H locs 0 0 (MQ below (zQi D 17 (celM ad cy) ad A r σ) args s 0 0 A) (F0 m 2 ls [])) (xq1 : Int32) (H : Heap) (locs : List Loc) (ls : Array Slot), ZS D 17 (celM ad cy) ad A s σ H locs → lv_has ls 2 [(0, .ref (ad 0)), (1, .int xq1)] → f_X12_chosen_b2 kq2 σ xq1 = some r → W p l e ({ frames := 4, cells := 0, slots := 0, locals := 85 } : Room) s m args below meth c H locs 0 0 (MQ below (zQi D 17 (celM ad cy) ad A r σ) args s 0 0 A) (F0 m 2 ls []) := by
    intro kq2 hkq2 xq1 H locs ls hw hl hf
    unfold f_X12_chosen_b2 at hf
    refine lv_iload_n hx hb dX12_chosen_2 rfl (lv_at hl 1 rfl) ?_
    refine lv_aload_n hx hb dX12_chosen_3 rfl (lv_at hl 0 rfl) ?_
    refine zget E hw (Nat.le_of_ble_eq_true rfl) (ceM_0 ad cy _) rfl inX12 0 (by decide) k5_223 (fun _ h => h) rfl dX12_chosen_4 ?_
    refine lv_iconst (v := 0) hx hb dX12_chosen_7 (by decide) ?_
    refine zaldk E hw (Nat.le_of_ble_eq_true rfl) (ceM_1 ad cy) 0 (by rfl) (Nat.le_of_ble_eq_true rfl) (by decide) dX12_chosen_8 ?_
    refine lv_icmp_ge (tgt := 40) hx hb dX12_chosen_9 (by decide) (fun h => ?_) (fun h => ?_)
    · replace hf := it_t h hf
      refine lv_iconst (v := 0) hx hb dX12_chosen_40 (by decide) ?_
      exact zreti E hw hr hlk (rt_1 hf) rfl dX12_chosen_41
    · replace hf := it_f h hf
      refine lv_aload_n hx hb dX12_chosen_12 rfl (lv_at hl 0 rfl) ?_
      refine lv_iload_n hx hb dX12_chosen_13 rfl (lv_at hl 1 rfl) ?_
      refine lv_iconst (v := 4) hx hb dX12_chosen_14 (by decide) ?_
      obtain ⟨vq1, hc, hf⟩ := bd_e hf
      refine zcali hw (va_runV (As := [.int xq1, .int 4]) (rest := []) E.fix (c_X12_its (l := l) hA xq1 4 σ hc) (zcV E k6_145 k1_14 k6_142 k6_144 kp3_9 mf_X12_its rfl rfl ⟨Nat.le_of_ble_eq_true rfl, Nat.le_of_ble_eq_true rfl⟩) (zPreV E hw (Nat.le_of_ble_eq_true rfl) (ceM_0 ad cy _) rfl _) rfl rfl hl.1 rfl (lv_room (Nat.le_of_ble_eq_true rfl)) dX12_chosen_15 ⟨Nat.zero_le _, Nat.zero_le _⟩) (fun H locs hw => ?_)
      refine lv_iconst (v := 1) hx hb dX12_chosen_18 (by decide) ?_
      refine lv_icmp_ne (tgt := 34) hx hb dX12_chosen_19 (by decide) (fun h => ?_) (fun h => ?_)
      · replace hf := it_t h hf
        refine lv_iinc (v := (xq1 + 1)) (lv' := [(1, .int (xq1 + 1)), (0, .ref (ad 0))]) hx hb dX12_chosen_34 hl (k := 1) rfl (by rfl) (by decide) rfl (fun ls hl => ?_)
        refine lv_goto (tgt := 2) hx hb dX12_chosen_37 (by decide) ?_
        exact hkq2 (xq1 + 1) _ _ _ hw (lv_sub hl [1, 0] rfl) hf
      · replace hf := it_n h hf
        refine lv_aload_n hx hb dX12_chosen_22 rfl (lv_at hl 0 rfl) ?_
        refine lv_iload_n hx hb dX12_chosen_23 rfl (lv_at hl 1 rfl) ?_
        obtain ⟨vq2, hc, hf⟩ := bd_e hf
        refine zcali hw (va_runV (As := [.int xq1]) (rest := []) E.fix (c_X12_isReached (l := l) hA xq1 σ hc) (zcV E k7_20 k1_14 k7_17 k7_19 kp4_6 mf_X12_isReached rfl rfl ⟨Nat.le_of_ble_eq_true rfl, Nat.le_of_ble_eq_true rfl⟩) (zPreV E hw (Nat.le_of_ble_eq_true rfl) (ceM_0 ad cy _) rfl _) rfl rfl hl.1 rfl (lv_room (Nat.le_of_ble_eq_true rfl)) dX12_chosen_24 ⟨Nat.zero_le _, Nat.zero_le _⟩) (fun H locs hw => ?_)
        refine lv_if_eq (tgt := 34) hx hb dX12_chosen_27 (by decide) (fun h => ?_) (fun h => ?_)
        · replace hf := it_f (b2i_0 h) hf
          refine lv_iinc (v := (xq1 + 1)) (lv' := [(1, .int (xq1 + 1)), (0, .ref (ad 0))]) hx hb dX12_chosen_34 hl (k := 1) rfl (by rfl) (by decide) rfl (fun ls hl => ?_)
          refine lv_goto (tgt := 2) hx hb dX12_chosen_37 (by decide) ?_
          exact hkq2 (xq1 + 1) _ _ _ hw (lv_sub hl [1, 0] rfl) hf
        · replace hf := it_t (b2i_n h) hf
          refine lv_iload_n hx hb dX12_chosen_30 rfl (lv_at hl 1 rfl) ?_
          refine lv_iconst (v := 1) hx hb dX12_chosen_31 (by decide) ?_
          refine lv_iadd hx hb dX12_chosen_32 ?_
          exact zreti E hw hr hlk (rt_1 hf) rfl dX12_chosen_33
  have hL2 : ∀ (n : Nat) (xq1 : Int32) (H : Heap) (locs : List Loc) (ls : Array Slot), ZS D 17 (celM ad cy) ad A s σ H locs → lv_has ls 2 [(0, .ref (ad 0)), (1, .int xq1)] → f_X12_chosen_l2 σ n xq1 = some r → W p l e ({ frames := 4, cells := 0, slots := 0, locals := 85 } : Room) s m args below meth c H locs 0 0 (MQ below (zQi D 17 (celM ad cy) ad A r σ) args s 0 0 A) (F0 m 2 ls []) := by
    intro n
    induction n with
    | zero =>
      intro xq1 H locs ls hw hl hf
      exact nn_e hf
    | succ n ih =>
      intro xq1 H locs ls hw hl hf
      exact hB2 (f_X12_chosen_l2 σ n) ih xq1 H locs ls hw hl hf
  unfold f_X12_chosen at hf
  refine lv_iconst (v := 0) hx hb dX12_chosen_0 (by decide) ?_
  refine lv_istore_n (lv' := [(1, .int 0), (0, .ref (ad 0))]) hx hb dX12_chosen_1 rfl hl (by decide) rfl (fun ls hl => ?_)
  exact hL2 400 0 _ _ _ hw (lv_sub hl [1, 0] rfl) hf
set_option maxRecDepth 100000 in
set_option maxHeartbeats 4000000 in
theorem c_X12_isTold {l : Launch} {D : va_G} {cy : Cy} {ad : Nat → Nat} {A : Nat → Prop} (hA : okAd 17 ad A) (xq1 : Int32) (σ : Sg) {r : Int32} {σ9 : Sg} (hf : f_X12_isTold xq1 σ = some (r, σ9)) : Met l yX12_isTold (.code yX12_isTold cX12_isTold 3 (some .int) :: TT) ({ frames := 6, cells := 0, slots := 0, locals := 138 } : Room) (zPc D cy 17 (celM ad cy) ad A [.ref (ad 0), .int xq1] σ) (zQi D 17 (celM ad cy) ad A r σ9) 0 0 A := by
  refine zofW (by decide) hA (Nat.le_of_ble_eq_true rfl) ?_
  intro p e s m args below meth c ls E hw hr hlk hl
  have E : ZE p s m args c cX12_isTold 3 "KiteSummonsModel" D cy 17 ad A := E
  have hx := E.hx
  have hb := E.hb
  have hl : lv_has ls 3 [(0, .ref (ad 0)), (1, .int xq1)] := hl
  have hB38 : ∀ (xq2 : Int32) (σ : Sg) (H : Heap) (locs : List Loc) (ls : Array Slot), ZS D 17 (celM ad cy) ad A s σ H locs → lv_has ls 3 [(2, .int xq2)] → f_X12_isTold_b38 xq2 σ = some (r, σ9) → W p l e ({ frames := 6, cells := 0, slots := 0, locals := 138 } : Room) s m args below meth c H locs 0 0 (MQ below (zQi D 17 (celM ad cy) ad A r σ9) args s 0 0 A) (F0 m 38 ls []) := by
    intro xq2 σ H locs ls hw hl hf
    unfold f_X12_isTold_b38 at hf
    refine lv_iload_n hx hb dX12_isTold_38 rfl (lv_at hl 0 rfl) ?_
    refine lv_iconst (v := 2) hx hb dX12_isTold_39 (by decide) ?_
    refine lv_icmp_ne (tgt := 47) hx hb dX12_isTold_40 (by decide) (fun h => ?_) (fun h => ?_)
    · replace hf := it_t h hf
      refine lv_iconst (v := 0) hx hb dX12_isTold_47 (by decide) ?_
      exact zreti E hw hr hlk (rt_a hf) (rt_b hf) dX12_isTold_48
    · replace hf := it_n h hf
      refine lv_iconst (v := 1) hx hb dX12_isTold_43 (by decide) ?_
      refine lv_goto (tgt := 48) hx hb dX12_isTold_44 (by decide) ?_
      exact zreti E hw hr hlk (rt_a hf) (rt_b hf) dX12_isTold_48
  have hB25 : ∀ (xq1 : Int32) (xq2 : Int32) (tq1 : Int32) (tq2 : Int32) (σ : Sg) (H : Heap) (locs : List Loc) (ls : Array Slot), ZS D 17 (celM ad cy) ad A s σ H locs → lv_has ls 3 [(0, .ref (ad 0)), (1, .int xq1), (2, .int xq2)] → f_X12_isTold_b25 xq1 xq2 tq1 tq2 σ = some (r, σ9) → W p l e ({ frames := 6, cells := 0, slots := 0, locals := 138 } : Room) s m args below meth c H locs 0 0 (MQ below (zQi D 17 (celM ad cy) ad A r σ9) args s 0 0 A) (F0 m 25 ls [.int tq2, .int tq1, .ref (ad 1)]) := by
    intro xq1 xq2 tq1 tq2 σ H locs ls hw hl hf
    unfold f_X12_isTold_b25 at hf
    obtain ⟨σ3, hσ3, hf⟩ := bd_e hf
    refine zastr E hw (Nat.le_of_ble_eq_true rfl) (ceM_1 ad cy) hσ3 dX12_isTold_25 (fun H locs hw => ?_)
    refine lv_iload_n hx hb dX12_isTold_26 rfl (lv_at hl 2 rfl) ?_
    refine lv_if_ne (tgt := 38) hx hb dX12_isTold_27 (by decide) (fun h => ?_) (fun h => ?_)
    · replace hf := it_t h hf
      exact hB38 xq2 σ3 _ _ _ hw (lv_sub hl [2] rfl) hf
    · replace hf := it_n h hf
      refine lv_aload_n hx hb dX12_isTold_30 rfl (lv_at hl 0 rfl) ?_
      refine lv_iload_n hx hb dX12_isTold_31 rfl (lv_at hl 1 rfl) ?_
      obtain ⟨vq4, hc, hf⟩ := bd_e hf
      refine zcali hw (va_runV (As := [.int xq1]) (rest := []) E.fix (c_X12_isReached (l := l) hA xq1 σ3 hc) (zcV E k7_20 k1_14 k7_17 k7_19 kp4_6 mf_X12_isReached rfl rfl ⟨Nat.le_of_ble_eq_true rfl, Nat.le_of_ble_eq_true rfl⟩) (zPreV E hw (Nat.le_of_ble_eq_true rfl) (ceM_0 ad cy _) rfl _) rfl rfl hl.1 rfl (lv_room (Nat.le_of_ble_eq_true rfl)) dX12_isTold_32 ⟨Nat.zero_le _, Nat.zero_le _⟩) (fun H locs hw => ?_)
      refine lv_if_ne (tgt := 49) hx hb dX12_isTold_35 (by decide) (fun h => ?_) (fun h => ?_)
      · replace hf := it_t (b2i_n h) hf
        refine lv_aload_n hx hb dX12_isTold_49 rfl (lv_at hl 0 rfl) ?_
        refine zget E hw (Nat.le_of_ble_eq_true rfl) (ceM_0 ad cy _) rfl inX12 0 (by decide) k5_223 (fun _ h => h) rfl dX12_isTold_50 ?_
        refine lv_iload_n hx hb dX12_isTold_53 rfl (lv_at hl 1 rfl) ?_
        refine lv_iconst (v := 5) hx hb dX12_isTold_54 (by decide) ?_
        refine zcali hw (va_runS (As := [.int xq1, .int 5]) (rest := [.ref (ad 1)]) E.fix (c_X12_at (l := l) hA xq1 5 σ3 rfl) (zcS E k6_129 k1_14 k6_127 k6_128 mf_X12_at rfl rfl ⟨Nat.le_of_ble_eq_true rfl, Nat.le_of_ble_eq_true rfl⟩) (zPre E hw _) rfl rfl hl.1 rfl (lv_room (Nat.le_of_ble_eq_true rfl)) dX12_isTold_55 ⟨Nat.zero_le _, Nat.zero_le _⟩) (fun H locs hw => ?_)
        refine lv_iconst (v := 1) hx hb dX12_isTold_58 (by decide) ?_
        obtain ⟨σ5, hσ5, hf⟩ := bd_e hf
        refine zastr E hw (Nat.le_of_ble_eq_true rfl) (ceM_1 ad cy) hσ5 dX12_isTold_59 (fun H locs hw => ?_)
        refine lv_aload_n hx hb dX12_isTold_60 rfl (lv_at hl 0 rfl) ?_
        refine lv_iload_n hx hb dX12_isTold_61 rfl (lv_at hl 1 rfl) ?_
        obtain ⟨vq6, hc, hf⟩ := bd_e hf
        refine zcali hw (va_runV (As := [.int xq1]) (rest := []) E.fix (c_X12_fee (l := l) hA xq1 σ5 hc) (zcV E k6_156 k1_14 k6_153 k6_155 kp3_11 mf_X12_fee rfl rfl ⟨Nat.le_of_ble_eq_true rfl, Nat.le_of_ble_eq_true rfl⟩) (zPreV E hw (Nat.le_of_ble_eq_true rfl) (ceM_0 ad cy _) rfl _) rfl rfl hl.1 rfl (lv_room (Nat.le_of_ble_eq_true rfl)) dX12_isTold_62 ⟨Nat.zero_le _, Nat.zero_le _⟩) (fun H locs hw => ?_)
        refine lv_aload_n hx hb dX12_isTold_65 rfl (lv_at hl 0 rfl) ?_
        refine lv_iload_n hx hb dX12_isTold_66 rfl (lv_at hl 1 rfl) ?_
        obtain ⟨vq7, hc, hf⟩ := bd_e hf
        refine zcali hw (va_runV (As := [.int xq1]) (rest := [.int vq6]) E.fix (c_X12_farOf (l := l) hA xq1 σ5 hc) (zcV E k6_175 k1_14 k6_172 k6_174 kp3_15 mf_X12_farOf rfl rfl ⟨Nat.le_of_ble_eq_true rfl, Nat.le_of_ble_eq_true rfl⟩) (zPreV E hw (Nat.le_of_ble_eq_true rfl) (ceM_0 ad cy _) rfl _) rfl rfl hl.1 rfl (lv_room (Nat.le_of_ble_eq_true rfl)) dX12_isTold_67 ⟨Nat.zero_le _, Nat.zero_le _⟩) (fun H locs hw => ?_)
        refine lv_bipush (v := 9) hx hb dX12_isTold_70 (by decide) ?_
        refine lv_icmp_ge (tgt := 86) hx hb dX12_isTold_72 (by decide) (fun h => ?_) (fun h => ?_)
        · replace hf := it_t h hf
          refine lv_iconst (v := 0) hx hb dX12_isTold_86 (by decide) ?_
          refine lv_iadd hx hb dX12_isTold_87 ?_
          exact zreti E hw hr hlk (rt_a hf) (rt_b hf) dX12_isTold_88
        · replace hf := it_f h hf
          refine lv_bipush (v := 9) hx hb dX12_isTold_75 (by decide) ?_
          refine lv_aload_n hx hb dX12_isTold_77 rfl (lv_at hl 0 rfl) ?_
          refine lv_iload_n hx hb dX12_isTold_78 rfl (lv_at hl 1 rfl) ?_
          obtain ⟨vq8, hc, hf⟩ := bd_e hf
          refine zcali hw (va_runV (As := [.int xq1]) (rest := [.int 9, .int vq6]) E.fix (c_X12_farOf (l := l) hA xq1 σ5 hc) (zcV E k6_175 k1_14 k6_172 k6_174 kp3_15 mf_X12_farOf rfl rfl ⟨Nat.le_of_ble_eq_true rfl, Nat.le_of_ble_eq_true rfl⟩) (zPreV E hw (Nat.le_of_ble_eq_true rfl) (ceM_0 ad cy _) rfl _) rfl rfl hl.1 rfl (lv_room (Nat.le_of_ble_eq_true rfl)) dX12_isTold_79 ⟨Nat.zero_le _, Nat.zero_le _⟩) (fun H locs hw => ?_)
          refine lv_isub hx hb dX12_isTold_82 ?_
          refine lv_goto (tgt := 87) hx hb dX12_isTold_83 (by decide) ?_
          refine lv_iadd hx hb dX12_isTold_87 ?_
          exact zreti E hw hr hlk (rt_a hf) (rt_b hf) dX12_isTold_88
      · replace hf := it_f (b2i_0 h) hf
        exact hB38 xq2 σ3 _ _ _ hw (lv_sub hl [2] rfl) hf
  unfold f_X12_isTold at hf
  refine lv_aload_n hx hb dX12_isTold_0 rfl (lv_at hl 0 rfl) ?_
  refine lv_iload_n hx hb dX12_isTold_1 rfl (lv_at hl 1 rfl) ?_
  obtain ⟨vq1, σ2, hc, hf⟩ := bd2_e hf
  refine zcali hw (va_runV (As := [.int xq1]) (rest := []) E.fix (c_X12_will (l := l) hA xq1 σ hc) (zcV E k6_160 k1_14 k6_157 k6_159 kp3_12 mf_X12_will rfl rfl ⟨Nat.le_of_ble_eq_true rfl, Nat.le_of_ble_eq_true rfl⟩) (zPreV E hw (Nat.le_of_ble_eq_true rfl) (ceM_0 ad cy _) rfl _) rfl rfl hl.1 rfl (lv_room (Nat.le_of_ble_eq_true rfl)) dX12_isTold_2 ⟨Nat.zero_le _, Nat.zero_le _⟩) (fun H locs hw => ?_)
  refine lv_istore_n (lv' := [(2, .int vq1), (0, .ref (ad 0)), (1, .int xq1)]) hx hb dX12_isTold_5 rfl hl (by decide) rfl (fun ls hl => ?_)
  refine lv_aload_n hx hb dX12_isTold_6 rfl (lv_at hl 1 rfl) ?_
  refine zget E hw (Nat.le_of_ble_eq_true rfl) (ceM_0 ad cy _) rfl inX12 0 (by decide) k5_223 (fun _ h => h) rfl dX12_isTold_7 ?_
  refine lv_iload_n hx hb dX12_isTold_10 rfl (lv_at hl 2 rfl) ?_
  refine lv_iconst (v := 4) hx hb dX12_isTold_11 (by decide) ?_
  refine zcali hw (va_runS (As := [.int xq1, .int 4]) (rest := [.ref (ad 1)]) E.fix (c_X12_at (l := l) hA xq1 4 σ2 rfl) (zcS E k6_129 k1_14 k6_127 k6_128 mf_X12_at rfl rfl ⟨Nat.le_of_ble_eq_true rfl, Nat.le_of_ble_eq_true rfl⟩) (zPre E hw _) rfl rfl hl.1 rfl (lv_room (Nat.le_of_ble_eq_true rfl)) dX12_isTold_12 ⟨Nat.zero_le _, Nat.zero_le _⟩) (fun H locs hw => ?_)
  refine lv_iload_n hx hb dX12_isTold_15 rfl (lv_at hl 0 rfl) ?_
  refine lv_iconst (v := 1) hx hb dX12_isTold_16 (by decide) ?_
  refine lv_icmp_ne (tgt := 24) hx hb dX12_isTold_17 (by decide) (fun h => ?_) (fun h => ?_)
  · replace hf := it_t h hf
    refine lv_iconst (v := 0) hx hb dX12_isTold_24 (by decide) ?_
    exact hB25 xq1 vq1 (f_X12_at xq1 4 σ2) 0 σ2 _ _ _ hw (lv_sub hl [1, 2, 0] rfl) hf
  · replace hf := it_n h hf
    refine lv_iconst (v := 1) hx hb dX12_isTold_20 (by decide) ?_
    refine lv_goto (tgt := 25) hx hb dX12_isTold_21 (by decide) ?_
    exact hB25 xq1 vq1 (f_X12_at xq1 4 σ2) 1 σ2 _ _ _ hw (lv_sub hl [1, 2, 0] rfl) hf
