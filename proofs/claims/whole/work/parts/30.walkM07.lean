set_option maxRecDepth 100000 in
set_option maxHeartbeats 4000000 in
theorem c_X12_act {l : Launch} {D : va_G} {cy : Cy} {ad : Nat → Nat} {A : Nat → Prop} (hA : okAd 17 ad A) (xq1 : Int32) (xq2 : Int32) (xq3 : Int32) (σ : Sg) {r : Int32} {σ9 : Sg} (hf : f_X12_act xq1 xq2 xq3 σ = some (r, σ9)) : Met l yX12_act (.code yX12_act cX12_act 5 (some .int) :: TT) ({ frames := 4, cells := 0, slots := 0, locals := 88 } : Room) (zPc D cy 17 (celM ad cy) ad A [.ref (ad 0), .int xq1, .int xq2, .int xq3] σ) (zQi D 17 (celM ad cy) ad A r σ9) 0 0 A := by
  refine zofW (by decide) hA (Nat.le_of_ble_eq_true rfl) ?_
  intro p e s m args below meth c ls E hw hr hlk hl
  have E : ZE p s m args c cX12_act 5 "KiteSummonsModel" D cy 17 ad A := E
  have hx := E.hx
  have hb := E.hb
  have hl : lv_has ls 5 [(0, .ref (ad 0)), (1, .int xq1), (2, .int xq2), (3, .int xq3)] := hl
  have hB109 : ∀ (tq0 : Int32) (σ : Sg) (H : Heap) (locs : List Loc) (ls : Array Slot), ZS D 17 (celM ad cy) ad A s σ H locs → lv_has ls 5 [(0, .ref (ad 0))] → f_X12_act_b109 tq0 σ = some (r, σ9) → W p l e ({ frames := 4, cells := 0, slots := 0, locals := 88 } : Room) s m args below meth c H locs 0 0 (MQ below (zQi D 17 (celM ad cy) ad A r σ9) args s 0 0 A) (F0 m 109 ls [.int tq0]) := by
    intro tq0 σ H locs ls hw hl hf
    unfold f_X12_act_b109 at hf
    refine lv_istore (lv' := [(4, .int tq0), (0, .ref (ad 0))]) hx hb dX12_act_109 hl (by decide) rfl (fun ls hl => ?_)
    refine lv_aload_n hx hb dX12_act_111 rfl (lv_at hl 1 rfl) ?_
    refine zget E hw (Nat.le_of_ble_eq_true rfl) (ceM_0 ad cy _) rfl inX12 39 (by decide) k6_22 (fun _ h => h) rfl dX12_act_112 ?_
    refine lv_if_eq (tgt := 123) hx hb dX12_act_115 (by decide) (fun h => ?_) (fun h => ?_)
    · replace hf := it_t h hf
      refine lv_iload hx hb dX12_act_123 (lv_at hl 0 rfl) ?_
      exact zreti E hw hr hlk (rt_a hf) (rt_b hf) dX12_act_125
    · replace hf := it_f h hf
      refine lv_bipush (v := (-15)) hx hb dX12_act_118 (by decide) ?_
      refine lv_goto (tgt := 125) hx hb dX12_act_120 (by decide) ?_
      exact zreti E hw hr hlk (rt_a hf) (rt_b hf) dX12_act_125
  unfold f_X12_act at hf
  refine lv_aload_n hx hb dX12_act_0 rfl (lv_at hl 0 rfl) ?_
  refine lv_iconst (v := 0) hx hb dX12_act_1 (by decide) ?_
  refine zputs E hw (Nat.le_of_ble_eq_true rfl) (ceM_0 ad cy _) rfl inX12 tyX12 tyX12_ok nmX12 35 (by decide) k6_18 (fun _ h => h) rfl rfl rfl (Nat.le_of_ble_eq_true rfl) (j := 35) (Eq.trans (ceM_0 ad cy _) (by rfl)) dX12_act_2 (fun σ1 eσ1 H locs hw => ?_)
  replace hf := lt_i eσ1 hf
  refine lv_aload_n hx hb dX12_act_5 rfl (lv_at hl 0 rfl) ?_
  refine lv_iconst (v := 0) hx hb dX12_act_6 (by decide) ?_
  refine zputs E hw (Nat.le_of_ble_eq_true rfl) (ceM_0 ad cy _) rfl inX12 tyX12 tyX12_ok nmX12 39 (by decide) k6_22 (fun _ h => h) rfl rfl rfl (Nat.le_of_ble_eq_true rfl) (j := 39) (Eq.trans (ceM_0 ad cy _) (by rfl)) dX12_act_7 (fun σ2 eσ2 H locs hw => ?_)
  replace hf := lt_i eσ2 hf
  refine lv_aload_n hx hb dX12_act_10 rfl (lv_at hl 0 rfl) ?_
  refine lv_aload_n hx hb dX12_act_11 rfl (lv_at hl 0 rfl) ?_
  refine lv_iload_n hx hb dX12_act_12 rfl (lv_at hl 1 rfl) ?_
  obtain ⟨vq3, hc, hf⟩ := bd_e hf
  refine zcali hw (va_runV (As := [.int xq1]) (rest := [.ref (ad 0)]) E.fix (c_X12_onShelf (l := l) hA xq1 σ2 hc) (zcV E k8_126 k1_14 k8_123 k8_125 kp6_14 mf_X12_onShelf rfl rfl ⟨Nat.le_of_ble_eq_true rfl, Nat.le_of_ble_eq_true rfl⟩) (zPreV E hw (Nat.le_of_ble_eq_true rfl) (ceM_0 ad cy _) rfl _) rfl rfl hl.1 rfl (lv_room (Nat.le_of_ble_eq_true rfl)) dX12_act_13 ⟨Nat.zero_le _, Nat.zero_le _⟩) (fun H locs hw => ?_)
  refine zputs E hw (Nat.le_of_ble_eq_true rfl) (ceM_0 ad cy _) rfl inX12 tyX12 tyX12_ok nmX12 36 (by decide) k6_19 (fun _ h => h) rfl rfl rfl (Nat.le_of_ble_eq_true rfl) (j := 36) (Eq.trans (ceM_0 ad cy _) (by rfl)) dX12_act_16 (fun σ4 eσ4 H locs hw => ?_)
  replace hf := lt_i eσ4 hf
  refine lv_aload_n hx hb dX12_act_19 rfl (lv_at hl 0 rfl) ?_
  refine zget E hw (Nat.le_of_ble_eq_true rfl) (ceM_0 ad cy _) rfl inX12 36 (by decide) k6_19 (fun _ h => h) rfl dX12_act_20 ?_
  refine lv_if_lt (tgt := 38) hx hb dX12_act_23 (by decide) (fun h => ?_) (fun h => ?_)
  · replace hf := it_t h hf
    refine lv_iconst (v := 0) hx hb dX12_act_38 (by decide) ?_
    exact zreti E hw hr hlk (rt_a hf) (rt_b hf) dX12_act_39
  · replace hf := it_f h hf
    refine lv_iload_n hx hb dX12_act_26 rfl (lv_at hl 2 rfl) ?_
    refine lv_i2l hx hb dX12_act_27 rfl ?_
    refine lv_lconst (v := 0) hx hb dX12_act_28 (by decide) ?_
    refine lv_ldc2 (v := 3) hx hb E.hown (E.ht _ k7_116) dX12_act_29 ?_
    refine zcali hw (va_runS (As := [.long xq2.toInt64, .long (0 : Int64), .long (3 : Int64)]) (rest := []) E.fix (c_X12_in (l := l) hA xq2.toInt64 (0 : Int64) (3 : Int64) σ4 rfl) (zcS E k6_114 k1_14 k6_112 k6_113 mf_X12_in rfl rfl ⟨Nat.le_of_ble_eq_true rfl, Nat.le_of_ble_eq_true rfl⟩) (zPre E hw _) rfl rfl hl.1 rfl (lv_room (Nat.le_of_ble_eq_true rfl)) dX12_act_32 ⟨Nat.zero_le _, Nat.zero_le _⟩) (fun H locs hw => ?_)
    refine lv_if_ne (tgt := 40) hx hb dX12_act_35 (by decide) (fun h => ?_) (fun h => ?_)
    · replace hf := it_t (b2i_n h) hf
      refine lv_aload_n hx hb dX12_act_40 rfl (lv_at hl 0 rfl) ?_
      refine lv_aload_n hx hb dX12_act_41 rfl (lv_at hl 0 rfl) ?_
      refine lv_aload_n hx hb dX12_act_42 rfl (lv_at hl 0 rfl) ?_
      refine zget E hw (Nat.le_of_ble_eq_true rfl) (ceM_0 ad cy _) rfl inX12 36 (by decide) k6_19 (fun _ h => h) rfl dX12_act_43 ?_
      refine lv_iconst (v := 3) hx hb dX12_act_46 (by decide) ?_
      obtain ⟨vq5, hc, hf⟩ := bd_e hf
      refine zcali hw (va_runV (As := [.int (σ4 0 36), .int 3]) (rest := [.ref (ad 0)]) E.fix (c_X12_its (l := l) hA (σ4 0 36) 3 σ4 hc) (zcV E k6_145 k1_14 k6_142 k6_144 kp3_9 mf_X12_its rfl rfl ⟨Nat.le_of_ble_eq_true rfl, Nat.le_of_ble_eq_true rfl⟩) (zPreV E hw (Nat.le_of_ble_eq_true rfl) (ceM_0 ad cy _) rfl _) rfl rfl hl.1 rfl (lv_room (Nat.le_of_ble_eq_true rfl)) dX12_act_47 ⟨Nat.zero_le _, Nat.zero_le _⟩) (fun H locs hw => ?_)
      refine zputs E hw (Nat.le_of_ble_eq_true rfl) (ceM_0 ad cy _) rfl inX12 tyX12 tyX12_ok nmX12 37 (by decide) k6_20 (fun _ h => h) rfl rfl rfl (Nat.le_of_ble_eq_true rfl) (j := 37) (Eq.trans (ceM_0 ad cy _) (by rfl)) dX12_act_50 (fun σ6 eσ6 H locs hw => ?_)
      replace hf := lt_i eσ6 hf
      refine lv_aload_n hx hb dX12_act_53 rfl (lv_at hl 0 rfl) ?_
      refine lv_aload_n hx hb dX12_act_54 rfl (lv_at hl 0 rfl) ?_
      refine lv_aload_n hx hb dX12_act_55 rfl (lv_at hl 0 rfl) ?_
      refine zget E hw (Nat.le_of_ble_eq_true rfl) (ceM_0 ad cy _) rfl inX12 36 (by decide) k6_19 (fun _ h => h) rfl dX12_act_56 ?_
      refine lv_iconst (v := 0) hx hb dX12_act_59 (by decide) ?_
      obtain ⟨vq7, hc, hf⟩ := bd_e hf
      refine zcali hw (va_runV (As := [.int (σ6 0 36), .int 0]) (rest := [.ref (ad 0)]) E.fix (c_X12_its (l := l) hA (σ6 0 36) 0 σ6 hc) (zcV E k6_145 k1_14 k6_142 k6_144 kp3_9 mf_X12_its rfl rfl ⟨Nat.le_of_ble_eq_true rfl, Nat.le_of_ble_eq_true rfl⟩) (zPreV E hw (Nat.le_of_ble_eq_true rfl) (ceM_0 ad cy _) rfl _) rfl rfl hl.1 rfl (lv_room (Nat.le_of_ble_eq_true rfl)) dX12_act_60 ⟨Nat.zero_le _, Nat.zero_le _⟩) (fun H locs hw => ?_)
      refine zputs E hw (Nat.le_of_ble_eq_true rfl) (ceM_0 ad cy _) rfl inX12 tyX12 tyX12_ok nmX12 38 (by decide) k6_21 (fun _ h => h) rfl rfl rfl (Nat.le_of_ble_eq_true rfl) (j := 38) (Eq.trans (ceM_0 ad cy _) (by rfl)) dX12_act_63 (fun σ8 eσ8 H locs hw => ?_)
      replace hf := lt_i eσ8 hf
      refine lv_iload_n hx hb dX12_act_66 rfl (lv_at hl 2 rfl) ?_
      refine lv_if_ne (tgt := 78) hx hb dX12_act_67 (by decide) (fun h => ?_) (fun h => ?_)
      · replace hf := it_t h hf
        refine lv_iload_n hx hb dX12_act_78 rfl (lv_at hl 2 rfl) ?_
        refine lv_iconst (v := 1) hx hb dX12_act_79 (by decide) ?_
        refine lv_icmp_ne (tgt := 91) hx hb dX12_act_80 (by decide) (fun h => ?_) (fun h => ?_)
        · replace hf := it_t h hf
          refine lv_iload_n hx hb dX12_act_91 rfl (lv_at hl 2 rfl) ?_
          refine lv_iconst (v := 2) hx hb dX12_act_92 (by decide) ?_
          refine lv_icmp_ne (tgt := 104) hx hb dX12_act_93 (by decide) (fun h => ?_) (fun h => ?_)
          · replace hf := it_t h hf
            refine lv_aload_n hx hb dX12_act_104 rfl (lv_at hl 0 rfl) ?_
            refine lv_iload_n hx hb dX12_act_105 rfl (lv_at hl 3 rfl) ?_
            obtain ⟨vq9, σ10, hc, hf⟩ := bd2_e hf
            refine zcali hw (va_runV (As := [.int xq3]) (rest := []) E.fix (c_X12_calls (l := l) hA xq3 σ8 hc) (zcV E k8_154 k1_14 k8_151 k8_153 kp7_4 mf_X12_calls rfl rfl ⟨Nat.le_of_ble_eq_true rfl, Nat.le_of_ble_eq_true rfl⟩) (zPreV E hw (Nat.le_of_ble_eq_true rfl) (ceM_0 ad cy _) rfl _) rfl rfl hl.1 rfl (lv_room (Nat.le_of_ble_eq_true rfl)) dX12_act_106 ⟨Nat.zero_le _, Nat.zero_le _⟩) (fun H locs hw => ?_)
            exact hB109 vq9 σ10 _ _ _ hw (lv_sub hl [0] rfl) hf
          · replace hf := it_n h hf
            refine lv_aload_n hx hb dX12_act_96 rfl (lv_at hl 0 rfl) ?_
            refine lv_iload_n hx hb dX12_act_97 rfl (lv_at hl 3 rfl) ?_
            obtain ⟨vq11, σ12, hc, hf⟩ := bd2_e hf
            refine zcali hw (va_runV (As := [.int xq3]) (rest := []) E.fix (c_X12_parts (l := l) hA xq3 σ8 hc) (zcV E k8_146 k1_14 k8_143 k8_145 kp7_2 mf_X12_parts rfl rfl ⟨Nat.le_of_ble_eq_true rfl, Nat.le_of_ble_eq_true rfl⟩) (zPreV E hw (Nat.le_of_ble_eq_true rfl) (ceM_0 ad cy _) rfl _) rfl rfl hl.1 rfl (lv_room (Nat.le_of_ble_eq_true rfl)) dX12_act_98 ⟨Nat.zero_le _, Nat.zero_le _⟩) (fun H locs hw => ?_)
            refine lv_goto (tgt := 109) hx hb dX12_act_101 (by decide) ?_
            exact hB109 vq11 σ12 _ _ _ hw (lv_sub hl [0] rfl) hf
        · replace hf := it_n h hf
          refine lv_aload_n hx hb dX12_act_83 rfl (lv_at hl 0 rfl) ?_
          refine lv_iload_n hx hb dX12_act_84 rfl (lv_at hl 3 rfl) ?_
          obtain ⟨vq13, σ14, hc, hf⟩ := bd2_e hf
          refine zcali hw (va_runV (As := [.int xq3]) (rest := []) E.fix (c_X12_reads (l := l) hA xq3 σ8 hc) (zcV E k8_142 k1_14 k8_139 k8_141 kp7_1 mf_X12_reads rfl rfl ⟨Nat.le_of_ble_eq_true rfl, Nat.le_of_ble_eq_true rfl⟩) (zPreV E hw (Nat.le_of_ble_eq_true rfl) (ceM_0 ad cy _) rfl _) rfl rfl hl.1 rfl (lv_room (Nat.le_of_ble_eq_true rfl)) dX12_act_85 ⟨Nat.zero_le _, Nat.zero_le _⟩) (fun H locs hw => ?_)
          refine lv_goto (tgt := 109) hx hb dX12_act_88 (by decide) ?_
          exact hB109 vq13 σ14 _ _ _ hw (lv_sub hl [0] rfl) hf
      · replace hf := it_n h hf
        refine lv_aload_n hx hb dX12_act_70 rfl (lv_at hl 0 rfl) ?_
        refine lv_iload_n hx hb dX12_act_71 rfl (lv_at hl 3 rfl) ?_
        obtain ⟨vq15, σ16, hc, hf⟩ := bd2_e hf
        refine zcali hw (va_runV (As := [.int xq3]) (rest := []) E.fix (c_X12_flies (l := l) hA xq3 σ8 hc) (zcV E k8_134 k1_14 k8_131 k8_133 kp6_15 mf_X12_flies rfl rfl ⟨Nat.le_of_ble_eq_true rfl, Nat.le_of_ble_eq_true rfl⟩) (zPreV E hw (Nat.le_of_ble_eq_true rfl) (ceM_0 ad cy _) rfl _) rfl rfl hl.1 rfl (lv_room (Nat.le_of_ble_eq_true rfl)) dX12_act_72 ⟨Nat.zero_le _, Nat.zero_le _⟩) (fun H locs hw => ?_)
        refine lv_goto (tgt := 109) hx hb dX12_act_75 (by decide) ?_
        exact hB109 vq15 σ16 _ _ _ hw (lv_sub hl [0] rfl) hf
    · replace hf := it_f (b2i_0 h) hf
      refine lv_iconst (v := 0) hx hb dX12_act_38 (by decide) ?_
      exact zreti E hw hr hlk (rt_a hf) (rt_b hf) dX12_act_39
set_option maxRecDepth 100000 in
set_option maxHeartbeats 4000000 in
theorem c_X12_traced {l : Launch} {D : va_G} {cy : Cy} {ad : Nat → Nat} {A : Nat → Prop} (hA : okAd 17 ad A) (σ : Sg) {r : Int32} (hf : f_X12_traced σ = r) : Met l yX12_traced (.code yX12_traced cX12_traced 1 (some .int) :: TT) ({ frames := 0, cells := 0, slots := 0, locals := 0 } : Room) (zPc D cy 17 (celM ad cy) ad A [.ref (ad 0)] σ) (zQi D 17 (celM ad cy) ad A r σ) 0 0 A := by
  refine zofW (by decide) hA (Nat.le_of_ble_eq_true rfl) ?_
  intro p e s m args below meth c ls E hw hr hlk hl
  have E : ZE p s m args c cX12_traced 1 "KiteSummonsModel" D cy 17 ad A := E
  have hx := E.hx
  have hb := E.hb
  have hl : lv_has ls 1 [(0, .ref (ad 0))] := hl
  unfold f_X12_traced at hf
  refine lv_aload_n hx hb dX12_traced_0 rfl (lv_at hl 0 rfl) ?_
  refine zget E hw (Nat.le_of_ble_eq_true rfl) (ceM_0 ad cy _) rfl inX12 35 (by decide) k6_18 (fun _ h => h) rfl dX12_traced_1 ?_
  refine lv_bipush (v := 30) hx hb dX12_traced_4 (by decide) ?_
  refine lv_icmp_ge (tgt := 16) hx hb dX12_traced_6 (by decide) (fun h => ?_) (fun h => ?_)
  · replace hf := it_t h hf
    refine lv_bipush (v := 30) hx hb dX12_traced_16 (by decide) ?_
    exact zreti E hw hr hlk hf rfl dX12_traced_18
  · replace hf := it_f h hf
    refine lv_aload_n hx hb dX12_traced_9 rfl (lv_at hl 0 rfl) ?_
    refine zget E hw (Nat.le_of_ble_eq_true rfl) (ceM_0 ad cy _) rfl inX12 35 (by decide) k6_18 (fun _ h => h) rfl dX12_traced_10 ?_
    refine lv_goto (tgt := 18) hx hb dX12_traced_13 (by decide) ?_
    exact zreti E hw hr hlk hf rfl dX12_traced_18
set_option maxRecDepth 100000 in
set_option maxHeartbeats 4000000 in
theorem c_X12_trace {l : Launch} {D : va_G} {cy : Cy} {ad : Nat → Nat} {A : Nat → Prop} (hA : okAd 17 ad A) (xq1 : Int32) (σ : Sg) {r : Int32} (hf : f_X12_trace xq1 σ = some r) : Met l yX12_trace (.code yX12_trace cX12_trace 2 (some .int) :: TT) ({ frames := 1, cells := 0, slots := 0, locals := 25 } : Room) (zPc D cy 17 (celM ad cy) ad A [.ref (ad 0), .int xq1] σ) (zQi D 17 (celM ad cy) ad A r σ) 0 0 A := by
  refine zofW (by decide) hA (Nat.le_of_ble_eq_true rfl) ?_
  intro p e s m args below meth c ls E hw hr hlk hl
  have E : ZE p s m args c cX12_trace 2 "KiteSummonsModel" D cy 17 ad A := E
  have hx := E.hx
  have hb := E.hb
  have hl : lv_has ls 2 [(0, .ref (ad 0)), (1, .int xq1)] := hl
  unfold f_X12_trace at hf
  refine lv_iload_n hx hb dX12_trace_0 rfl (lv_at hl 1 rfl) ?_
  refine lv_i2l hx hb dX12_trace_1 rfl ?_
  refine lv_lconst (v := 0) hx hb dX12_trace_2 (by decide) ?_
  refine lv_aload_n hx hb dX12_trace_3 rfl (lv_at hl 0 rfl) ?_
  refine zcali hw (va_runV (As := []) (rest := [.long (0 : Int64), .long xq1.toInt64]) E.fix (c_X12_traced (l := l) hA σ rfl) (zcV E k8_162 k1_14 k8_159 k8_161 kp7_5 mf_X12_traced rfl rfl ⟨Nat.le_of_ble_eq_true rfl, Nat.le_of_ble_eq_true rfl⟩) (zPreV E hw (Nat.le_of_ble_eq_true rfl) (ceM_0 ad cy _) rfl _) rfl rfl hl.1 rfl (lv_room (Nat.le_of_ble_eq_true rfl)) dX12_trace_4 ⟨Nat.zero_le _, Nat.zero_le _⟩) (fun H locs hw => ?_)
  refine lv_iconst (v := 1) hx hb dX12_trace_7 (by decide) ?_
  refine lv_isub hx hb dX12_trace_8 ?_
  refine lv_i2l hx hb dX12_trace_9 rfl ?_
  refine zcali hw (va_runS (As := [.long xq1.toInt64, .long (0 : Int64), .long (((f_X12_traced σ) - 1).toInt64)]) (rest := []) E.fix (c_X12_in (l := l) hA xq1.toInt64 (0 : Int64) (((f_X12_traced σ) - 1).toInt64) σ rfl) (zcS E k6_114 k1_14 k6_112 k6_113 mf_X12_in rfl rfl ⟨Nat.le_of_ble_eq_true rfl, Nat.le_of_ble_eq_true rfl⟩) (zPre E hw _) rfl rfl hl.1 rfl (lv_room (Nat.le_of_ble_eq_true rfl)) dX12_trace_10 ⟨Nat.zero_le _, Nat.zero_le _⟩) (fun H locs hw => ?_)
  refine lv_if_eq (tgt := 25) hx hb dX12_trace_13 (by decide) (fun h => ?_) (fun h => ?_)
  · replace hf := it_f (b2i_0 h) hf
    refine lv_bipush (v := (-3)) hx hb dX12_trace_25 (by decide) ?_
    exact zreti E hw hr hlk (rt_1 hf) rfl dX12_trace_27
  · replace hf := it_t (b2i_n h) hf
    refine lv_aload_n hx hb dX12_trace_16 rfl (lv_at hl 0 rfl) ?_
    refine zget E hw (Nat.le_of_ble_eq_true rfl) (ceM_0 ad cy _) rfl inX12 34 (by decide) k6_17 (fun _ h => h) rfl dX12_trace_17 ?_
    refine lv_iload_n hx hb dX12_trace_20 rfl (lv_at hl 1 rfl) ?_
    obtain ⟨vq1, hvq1, hf⟩ := bd_e hf
    refine zaldr E hw (Nat.le_of_ble_eq_true rfl) (ceM_16 ad cy) hvq1 dX12_trace_21 ?_
    refine lv_goto (tgt := 27) hx hb dX12_trace_22 (by decide) ?_
    exact zreti E hw hr hlk (rt_1 hf) rfl dX12_trace_27
set_option maxRecDepth 100000 in
set_option maxHeartbeats 4000000 in
theorem c_X12_ones {l : Launch} {D : va_G} {cy : Cy} {ad : Nat → Nat} {A : Nat → Prop} (hA : okAd 17 ad A) (xq0 : Int32) (σ : Sg) {r : Int32} (hf : f_X12_ones xq0 σ = some r) : Met l yX12_ones (.code yX12_ones cX12_ones 3 (some .int) :: TT) ({ frames := 0, cells := 0, slots := 0, locals := 0 } : Room) (zPc D cy 17 (celM ad cy) ad A [.int xq0] σ) (zQi D 17 (celM ad cy) ad A r σ) 0 0 A := by
  refine zofW (by decide) hA (Nat.le_of_ble_eq_true rfl) ?_
  intro p e s m args below meth c ls E hw hr hlk hl
  have E : ZE p s m args c cX12_ones 3 "KiteSummonsModel" D cy 17 ad A := E
  have hx := E.hx
  have hb := E.hb
  have hl : lv_has ls 3 [(0, .int xq0)] := hl
  have hB4 : ∀ (kq4 : Int32 → Int32 → Option Int32) (hkq4 : ∀ (xq1 : Int32) (xq2 : Int32) (H : Heap) (locs : List Loc) (ls : Array Slot), ZS D 17 (celM ad cy) ad A s σ H locs → lv_has ls 3 [(1, .int xq1), (2, .int xq2)] → kq4 xq1 xq2 = some r → W p l e ({ frames := 0, cells := 0, slots := 0, locals := 0 } : Room) s m args below meth c H locs 0 0 (MQ below (zQi D 17 (celM ad cy) ad A r σ) args s 0 0 A) (F0 m 4 ls [])) (xq1 : Int32) (xq2 : Int32) (H : Heap) (locs : List Loc) (ls : Array Slot), ZS D 17 (celM ad cy) ad A s σ H locs → lv_has ls 3 [(1, .int xq1), (2, .int xq2)] → f_X12_ones_b4 kq4 σ xq1 xq2 = some r → W p l e ({ frames := 0, cells := 0, slots := 0, locals := 0 } : Room) s m args below meth c H locs 0 0 (MQ below (zQi D 17 (celM ad cy) ad A r σ) args s 0 0 A) (F0 m 4 ls []) := by
    intro kq4 hkq4 xq1 xq2 H locs ls hw hl hf
    unfold f_X12_ones_b4 at hf
    refine lv_iload_n hx hb dX12_ones_4 rfl (lv_at hl 1 rfl) ?_
    refine lv_if_eq (tgt := 20) hx hb dX12_ones_5 (by decide) (fun h => ?_) (fun h => ?_)
    · replace hf := it_t h hf
      refine lv_iload_n hx hb dX12_ones_20 rfl (lv_at hl 0 rfl) ?_
      exact zreti E hw hr hlk (rt_1 hf) rfl dX12_ones_21
    · replace hf := it_f h hf
      refine lv_iinc (v := (xq1 + 1)) (lv' := [(1, .int (xq1 + 1)), (2, .int xq2)]) hx hb dX12_ones_8 hl (k := 0) rfl (by rfl) (by decide) rfl (fun ls hl => ?_)
      refine lv_iload_n hx hb dX12_ones_11 rfl (lv_at hl 1 rfl) ?_
      refine lv_iload_n hx hb dX12_ones_12 rfl (lv_at hl 1 rfl) ?_
      refine lv_iconst (v := 1) hx hb dX12_ones_13 (by decide) ?_
      refine lv_isub hx hb dX12_ones_14 ?_
      refine lv_iand hx hb dX12_ones_15 ?_
      refine lv_topi (fun vq1 evq1 => ?_)
      replace hf := lt_i evq1 hf
      refine lv_istore_n (lv' := [(2, .int vq1), (1, .int (xq1 + 1))]) hx hb dX12_ones_16 rfl hl (by decide) rfl (fun ls hl => ?_)
      refine lv_goto (tgt := 4) hx hb dX12_ones_17 (by decide) ?_
      exact hkq4 (xq1 + 1) vq1 _ _ _ hw (lv_sub hl [1, 0] rfl) hf
  have hL4 : ∀ (n : Nat) (xq1 : Int32) (xq2 : Int32) (H : Heap) (locs : List Loc) (ls : Array Slot), ZS D 17 (celM ad cy) ad A s σ H locs → lv_has ls 3 [(1, .int xq1), (2, .int xq2)] → f_X12_ones_l4 σ n xq1 xq2 = some r → W p l e ({ frames := 0, cells := 0, slots := 0, locals := 0 } : Room) s m args below meth c H locs 0 0 (MQ below (zQi D 17 (celM ad cy) ad A r σ) args s 0 0 A) (F0 m 4 ls []) := by
    intro n
    induction n with
    | zero =>
      intro xq1 xq2 H locs ls hw hl hf
      exact nn_e hf
    | succ n ih =>
      intro xq1 xq2 H locs ls hw hl hf
      exact hB4 (f_X12_ones_l4 σ n) ih xq1 xq2 H locs ls hw hl hf
  unfold f_X12_ones at hf
  refine lv_iconst (v := 0) hx hb dX12_ones_0 (by decide) ?_
  refine lv_istore_n (lv' := [(1, .int 0), (0, .int xq0)]) hx hb dX12_ones_1 rfl hl (by decide) rfl (fun ls hl => ?_)
  refine lv_iload_n hx hb dX12_ones_2 rfl (lv_at hl 1 rfl) ?_
  refine lv_istore_n (lv' := [(2, .int xq0), (1, .int 0), (0, .int xq0)]) hx hb dX12_ones_3 rfl hl (by decide) rfl (fun ls hl => ?_)
  exact hL4 400 0 xq0 _ _ _ hw (lv_sub hl [1, 0] rfl) hf
set_option maxRecDepth 100000 in
set_option maxHeartbeats 4000000 in
theorem c_X12_many {l : Launch} {D : va_G} {cy : Cy} {ad : Nat → Nat} {A : Nat → Prop} (hA : okAd 17 ad A) (xq1 : Int32) (σ : Sg) {r : Int32} (hf : f_X12_many xq1 σ = some r) : Met l yX12_many (.code yX12_many cX12_many 2 (some .int) :: TT) ({ frames := 3, cells := 0, slots := 0, locals := 66 } : Room) (zPc D cy 17 (celM ad cy) ad A [.ref (ad 0), .int xq1] σ) (zQi D 17 (celM ad cy) ad A r σ) 0 0 A := by
  refine zofW (by decide) hA (Nat.le_of_ble_eq_true rfl) ?_
  intro p e s m args below meth c ls E hw hr hlk hl
  have E : ZE p s m args c cX12_many 2 "KiteSummonsModel" D cy 17 ad A := E
  have hx := E.hx
  have hb := E.hb
  have hl : lv_has ls 2 [(0, .ref (ad 0)), (1, .int xq1)] := hl
  unfold f_X12_many at hf
  refine lv_iload_n hx hb dX12_many_0 rfl (lv_at hl 1 rfl) ?_
  by_cases hc1_0 : xq1 = 0
  · replace hf := it_t hc1_0 hf
    refine lv_tableIn (tgt := 44) (off := 43) hx hb dX12_many_1 (by rw [hc1_0]; decide) (by rw [hc1_0]; decide) (by rw [hc1_0]; rfl) (by decide) ?_
    refine lv_aload_n hx hb dX12_many_44 rfl (lv_at hl 0 rfl) ?_
    refine zget E hw (Nat.le_of_ble_eq_true rfl) (ceM_0 ad cy _) rfl inX12 0 (by decide) k5_223 (fun _ h => h) rfl dX12_many_45 ?_
    refine lv_iconst (v := 0) hx hb dX12_many_48 (by decide) ?_
    refine zaldk E hw (Nat.le_of_ble_eq_true rfl) (ceM_1 ad cy) 0 (by rfl) (Nat.le_of_ble_eq_true rfl) (by decide) dX12_many_49 ?_
    exact zreti E hw hr hlk (rt_1 hf) rfl dX12_many_50
  · replace hf := it_f hc1_0 hf
    by_cases hc1_1 : xq1 = 1
    · replace hf := it_t hc1_1 hf
      refine lv_tableIn (tgt := 51) (off := 50) hx hb dX12_many_1 (by rw [hc1_1]; decide) (by rw [hc1_1]; decide) (by rw [hc1_1]; rfl) (by decide) ?_
      refine lv_aload_n hx hb dX12_many_51 rfl (lv_at hl 0 rfl) ?_
      refine zget E hw (Nat.le_of_ble_eq_true rfl) (ceM_0 ad cy _) rfl inX12 0 (by decide) k5_223 (fun _ h => h) rfl dX12_many_52 ?_
      refine lv_iconst (v := 1) hx hb dX12_many_55 (by decide) ?_
      refine zaldk E hw (Nat.le_of_ble_eq_true rfl) (ceM_1 ad cy) 1 (by rfl) (Nat.le_of_ble_eq_true rfl) (by decide) dX12_many_56 ?_
      exact zreti E hw hr hlk (rt_1 hf) rfl dX12_many_57
    · replace hf := it_f hc1_1 hf
      by_cases hc1_2 : xq1 = 2
      · replace hf := it_t hc1_2 hf
        refine lv_tableIn (tgt := 58) (off := 57) hx hb dX12_many_1 (by rw [hc1_2]; decide) (by rw [hc1_2]; decide) (by rw [hc1_2]; rfl) (by decide) ?_
        refine lv_aload_n hx hb dX12_many_58 rfl (lv_at hl 0 rfl) ?_
        refine lv_iconst (v := 5) hx hb dX12_many_59 (by decide) ?_
        obtain ⟨vq1, hc, hf⟩ := bd_e hf
        refine zcali hw (va_runV (As := [.int 5]) (rest := []) E.fix (c_X12_those (l := l) hA 5 σ hc) (zcV E k6_234 k1_14 k6_231 k6_233 kp4_2 mf_X12_those rfl rfl ⟨Nat.le_of_ble_eq_true rfl, Nat.le_of_ble_eq_true rfl⟩) (zPreV E hw (Nat.le_of_ble_eq_true rfl) (ceM_0 ad cy _) rfl _) rfl rfl hl.1 rfl (lv_room (Nat.le_of_ble_eq_true rfl)) dX12_many_60 ⟨Nat.zero_le _, Nat.zero_le _⟩) (fun H locs hw => ?_)
        obtain ⟨vq2, hc, hf⟩ := bd_e hf
        refine zcali hw (va_runS (As := [.int vq1]) (rest := []) E.fix (c_X12_ones (l := l) hA vq1 σ hc) (zcS E k8_169 k1_14 k8_167 k8_168 mf_X12_ones rfl rfl ⟨Nat.le_of_ble_eq_true rfl, Nat.le_of_ble_eq_true rfl⟩) (zPre E hw _) rfl rfl hl.1 rfl (lv_room (Nat.le_of_ble_eq_true rfl)) dX12_many_63 ⟨Nat.zero_le _, Nat.zero_le _⟩) (fun H locs hw => ?_)
        exact zreti E hw hr hlk (rt_1 hf) rfl dX12_many_66
      · replace hf := it_f hc1_2 hf
        by_cases hc1_3 : xq1 = 3
        · replace hf := it_t hc1_3 hf
          refine lv_tableIn (tgt := 67) (off := 66) hx hb dX12_many_1 (by rw [hc1_3]; decide) (by rw [hc1_3]; decide) (by rw [hc1_3]; rfl) (by decide) ?_
          refine lv_aload_n hx hb dX12_many_67 rfl (lv_at hl 0 rfl) ?_
          refine zget E hw (Nat.le_of_ble_eq_true rfl) (ceM_0 ad cy _) rfl inX12 0 (by decide) k5_223 (fun _ h => h) rfl dX12_many_68 ?_
          refine lv_iconst (v := 5) hx hb dX12_many_71 (by decide) ?_
          refine zaldk E hw (Nat.le_of_ble_eq_true rfl) (ceM_1 ad cy) 5 (by rfl) (Nat.le_of_ble_eq_true rfl) (by decide) dX12_many_72 ?_
          exact zreti E hw hr hlk (rt_1 hf) rfl dX12_many_73
        · replace hf := it_f hc1_3 hf
          by_cases hc1_4 : xq1 = 4
          · replace hf := it_t hc1_4 hf
            refine lv_tableIn (tgt := 74) (off := 73) hx hb dX12_many_1 (by rw [hc1_4]; decide) (by rw [hc1_4]; decide) (by rw [hc1_4]; rfl) (by decide) ?_
            refine lv_aload_n hx hb dX12_many_74 rfl (lv_at hl 0 rfl) ?_
            refine zget E hw (Nat.le_of_ble_eq_true rfl) (ceM_0 ad cy _) rfl inX12 19 (by decide) k6_2 (fun _ h => h) rfl dX12_many_75 ?_
            exact zreti E hw hr hlk (rt_1 hf) rfl dX12_many_78
          · replace hf := it_f hc1_4 hf
            by_cases hc1_5 : xq1 = 5
            · replace hf := it_t hc1_5 hf
              refine lv_tableIn (tgt := 79) (off := 78) hx hb dX12_many_1 (by rw [hc1_5]; decide) (by rw [hc1_5]; decide) (by rw [hc1_5]; rfl) (by decide) ?_
              refine lv_aload_n hx hb dX12_many_79 rfl (lv_at hl 0 rfl) ?_
              refine zget E hw (Nat.le_of_ble_eq_true rfl) (ceM_0 ad cy _) rfl inX12 21 (by decide) k6_4 (fun _ h => h) rfl dX12_many_80 ?_
              exact zreti E hw hr hlk (rt_1 hf) rfl dX12_many_83
            · replace hf := it_f hc1_5 hf
              by_cases hc1_6 : xq1 = 6
              · replace hf := it_t hc1_6 hf
                refine lv_tableIn (tgt := 84) (off := 83) hx hb dX12_many_1 (by rw [hc1_6]; decide) (by rw [hc1_6]; decide) (by rw [hc1_6]; rfl) (by decide) ?_
                refine lv_aload_n hx hb dX12_many_84 rfl (lv_at hl 0 rfl) ?_
                refine zcali hw (va_runV (As := []) (rest := []) E.fix (c_X12_traced (l := l) hA σ rfl) (zcV E k8_162 k1_14 k8_159 k8_161 kp7_5 mf_X12_traced rfl rfl ⟨Nat.le_of_ble_eq_true rfl, Nat.le_of_ble_eq_true rfl⟩) (zPreV E hw (Nat.le_of_ble_eq_true rfl) (ceM_0 ad cy _) rfl _) rfl rfl hl.1 rfl (lv_room (Nat.le_of_ble_eq_true rfl)) dX12_many_85 ⟨Nat.zero_le _, Nat.zero_le _⟩) (fun H locs hw => ?_)
                exact zreti E hw hr hlk (rt_1 hf) rfl dX12_many_88
              · replace hf := it_f hc1_6 hf
                refine lv_tableOut (tgt := 89) hx hb dX12_many_1 (by have := lv_neT hc1_0 (a := 0) rfl; have := lv_neT hc1_1 (a := 1) rfl; have := lv_neT hc1_2 (a := 2) rfl; have := lv_neT hc1_3 (a := 3) rfl; have := lv_neT hc1_4 (a := 4) rfl; have := lv_neT hc1_5 (a := 5) rfl; have := lv_neT hc1_6 (a := 6) rfl; omega) (by decide) ?_
                refine lv_iconst (v := (-1)) hx hb dX12_many_89 (by decide) ?_
                exact zreti E hw hr hlk (rt_1 hf) rfl dX12_many_90
set_option maxRecDepth 100000 in
set_option maxHeartbeats 4000000 in
theorem c_X12_keep {l : Launch} {D : va_G} {cy : Cy} {ad : Nat → Nat} {A : Nat → Prop} (hA : okAd 17 ad A) (σ : Sg) {r : Int32} {σ9 : Sg} (hf : f_X12_keep σ = some (r, σ9)) : Met l yX12_keep (.code yX12_keep cX12_keep 2 (some .int) :: TT) ({ frames := 0, cells := 0, slots := 0, locals := 0 } : Room) (zPc D cy 17 (celM ad cy) ad A [.ref (ad 0)] σ) (zQi D 17 (celM ad cy) ad A r σ9) 0 0 A := by
  refine zofW (by decide) hA (Nat.le_of_ble_eq_true rfl) ?_
  intro p e s m args below meth c ls E hw hr hlk hl
  have E : ZE p s m args c cX12_keep 2 "KiteSummonsModel" D cy 17 ad A := E
  have hx := E.hx
  have hb := E.hb
  have hl : lv_has ls 2 [(0, .ref (ad 0))] := hl
  have hB2 : ∀ (kq2 : Int32 → Sg → Option (Int32 × Sg)) (hkq2 : ∀ (xq1 : Int32) (σ : Sg) (H : Heap) (locs : List Loc) (ls : Array Slot), ZS D 17 (celM ad cy) ad A s σ H locs → lv_has ls 2 [(0, .ref (ad 0)), (1, .int xq1)] → kq2 xq1 σ = some (r, σ9) → W p l e ({ frames := 0, cells := 0, slots := 0, locals := 0 } : Room) s m args below meth c H locs 0 0 (MQ below (zQi D 17 (celM ad cy) ad A r σ9) args s 0 0 A) (F0 m 2 ls [])) (xq1 : Int32) (σ : Sg) (H : Heap) (locs : List Loc) (ls : Array Slot), ZS D 17 (celM ad cy) ad A s σ H locs → lv_has ls 2 [(0, .ref (ad 0)), (1, .int xq1)] → f_X12_keep_b2 kq2 xq1 σ = some (r, σ9) → W p l e ({ frames := 0, cells := 0, slots := 0, locals := 0 } : Room) s m args below meth c H locs 0 0 (MQ below (zQi D 17 (celM ad cy) ad A r σ9) args s 0 0 A) (F0 m 2 ls []) := by
    intro kq2 hkq2 xq1 σ H locs ls hw hl hf
    unfold f_X12_keep_b2 at hf
    refine lv_iload_n hx hb dX12_keep_2 rfl (lv_at hl 1 rfl) ?_
    refine lv_sipush (v := 319) hx hb dX12_keep_3 (by decide) ?_
    refine lv_icmp_ge (tgt := 27) hx hb dX12_keep_6 (by decide) (fun h => ?_) (fun h => ?_)
    · replace hf := it_t h hf
      refine lv_aload_n hx hb dX12_keep_27 rfl (lv_at hl 0 rfl) ?_
      refine lv_iconst (v := 1) hx hb dX12_keep_28 (by decide) ?_
      refine zputs E hw (Nat.le_of_ble_eq_true rfl) (ceM_0 ad cy _) rfl inX12 tyX12 tyX12_ok nmX12 3 (by decide) k5_226 (fun _ h => h) rfl rfl rfl (Nat.le_of_ble_eq_true rfl) (j := 3) (Eq.trans (ceM_0 ad cy _) (by rfl)) dX12_keep_29 (fun σ1 eσ1 H locs hw => ?_)
      replace hf := lt_i eσ1 hf
      refine lv_iconst (v := 1) hx hb dX12_keep_32 (by decide) ?_
      exact zreti E hw hr hlk (rt_a hf) (rt_b hf) dX12_keep_33
    · replace hf := it_f h hf
      refine lv_aload_n hx hb dX12_keep_9 rfl (lv_at hl 0 rfl) ?_
      refine zget E hw (Nat.le_of_ble_eq_true rfl) (ceM_0 ad cy _) rfl inX12 1 (by decide) k5_224 (fun _ h => h) rfl dX12_keep_10 ?_
      refine lv_iload_n hx hb dX12_keep_13 rfl (lv_at hl 1 rfl) ?_
      refine lv_aload_n hx hb dX12_keep_14 rfl (lv_at hl 0 rfl) ?_
      refine zget E hw (Nat.le_of_ble_eq_true rfl) (ceM_0 ad cy _) rfl inX12 0 (by decide) k5_223 (fun _ h => h) rfl dX12_keep_15 ?_
      refine lv_iload_n hx hb dX12_keep_18 rfl (lv_at hl 1 rfl) ?_
      obtain ⟨vq2, hvq2, hf⟩ := bd_e hf
      refine zaldr E hw (Nat.le_of_ble_eq_true rfl) (ceM_1 ad cy) hvq2 dX12_keep_19 ?_
      obtain ⟨σ3, hσ3, hf⟩ := bd_e hf
      refine zastr E hw (Nat.le_of_ble_eq_true rfl) (ceM_2 ad cy) hσ3 dX12_keep_20 (fun H locs hw => ?_)
      refine lv_iinc (v := (xq1 + 1)) (lv' := [(1, .int (xq1 + 1)), (0, .ref (ad 0))]) hx hb dX12_keep_21 hl (k := 1) rfl (by rfl) (by decide) rfl (fun ls hl => ?_)
      refine lv_goto (tgt := 2) hx hb dX12_keep_24 (by decide) ?_
      exact hkq2 (xq1 + 1) σ3 _ _ _ hw (lv_sub hl [1, 0] rfl) hf
  have hL2 : ∀ (n : Nat) (xq1 : Int32) (σ : Sg) (H : Heap) (locs : List Loc) (ls : Array Slot), ZS D 17 (celM ad cy) ad A s σ H locs → lv_has ls 2 [(0, .ref (ad 0)), (1, .int xq1)] → f_X12_keep_l2 n xq1 σ = some (r, σ9) → W p l e ({ frames := 0, cells := 0, slots := 0, locals := 0 } : Room) s m args below meth c H locs 0 0 (MQ below (zQi D 17 (celM ad cy) ad A r σ9) args s 0 0 A) (F0 m 2 ls []) := by
    intro n
    induction n with
    | zero =>
      intro xq1 σ H locs ls hw hl hf
      exact nn_e hf
    | succ n ih =>
      intro xq1 σ H locs ls hw hl hf
      exact hB2 (f_X12_keep_l2 n) ih xq1 σ H locs ls hw hl hf
  unfold f_X12_keep at hf
  refine lv_iconst (v := 0) hx hb dX12_keep_0 (by decide) ?_
  refine lv_istore_n (lv' := [(1, .int 0), (0, .ref (ad 0))]) hx hb dX12_keep_1 rfl hl (by decide) rfl (fun ls hl => ?_)
  exact hL2 400 0 σ _ _ _ hw (lv_sub hl [1, 0] rfl) hf
set_option maxRecDepth 100000 in
set_option maxHeartbeats 4000000 in
theorem c_X12_again {l : Launch} {D : va_G} {cy : Cy} {ad : Nat → Nat} {A : Nat → Prop} (hA : okAd 17 ad A) (σ : Sg) {r : Int32} {σ9 : Sg} (hf : f_X12_again σ = some (r, σ9)) : Met l yX12_again (.code yX12_again cX12_again 2 (some .int) :: TT) ({ frames := 0, cells := 0, slots := 0, locals := 0 } : Room) (zPc D cy 17 (celM ad cy) ad A [.ref (ad 0)] σ) (zQi D 17 (celM ad cy) ad A r σ9) 0 0 A := by
  refine zofW (by decide) hA (Nat.le_of_ble_eq_true rfl) ?_
  intro p e s m args below meth c ls E hw hr hlk hl
  have E : ZE p s m args c cX12_again 2 "KiteSummonsModel" D cy 17 ad A := E
  have hx := E.hx
  have hb := E.hb
  have hl : lv_has ls 2 [(0, .ref (ad 0))] := hl
  have hB12 : ∀ (kq12 : Int32 → Sg → Option (Int32 × Sg)) (hkq12 : ∀ (xq1 : Int32) (σ : Sg) (H : Heap) (locs : List Loc) (ls : Array Slot), ZS D 17 (celM ad cy) ad A s σ H locs → lv_has ls 2 [(0, .ref (ad 0)), (1, .int xq1)] → kq12 xq1 σ = some (r, σ9) → W p l e ({ frames := 0, cells := 0, slots := 0, locals := 0 } : Room) s m args below meth c H locs 0 0 (MQ below (zQi D 17 (celM ad cy) ad A r σ9) args s 0 0 A) (F0 m 12 ls [])) (xq1 : Int32) (σ : Sg) (H : Heap) (locs : List Loc) (ls : Array Slot), ZS D 17 (celM ad cy) ad A s σ H locs → lv_has ls 2 [(0, .ref (ad 0)), (1, .int xq1)] → f_X12_again_b12 kq12 xq1 σ = some (r, σ9) → W p l e ({ frames := 0, cells := 0, slots := 0, locals := 0 } : Room) s m args below meth c H locs 0 0 (MQ below (zQi D 17 (celM ad cy) ad A r σ9) args s 0 0 A) (F0 m 12 ls []) := by
    intro kq12 hkq12 xq1 σ H locs ls hw hl hf
    unfold f_X12_again_b12 at hf
    refine lv_iload_n hx hb dX12_again_12 rfl (lv_at hl 1 rfl) ?_
    refine lv_sipush (v := 319) hx hb dX12_again_13 (by decide) ?_
    refine lv_icmp_ge (tgt := 37) hx hb dX12_again_16 (by decide) (fun h => ?_) (fun h => ?_)
    · replace hf := it_t h hf
      refine lv_aload_n hx hb dX12_again_37 rfl (lv_at hl 0 rfl) ?_
      refine zget E hw (Nat.le_of_ble_eq_true rfl) (ceM_0 ad cy _) rfl inX12 0 (by decide) k5_223 (fun _ h => h) rfl dX12_again_38 ?_
      refine lv_iconst (v := 0) hx hb dX12_again_41 (by decide) ?_
      refine zaldk E hw (Nat.le_of_ble_eq_true rfl) (ceM_1 ad cy) 0 (by rfl) (Nat.le_of_ble_eq_true rfl) (by decide) dX12_again_42 ?_
      exact zreti E hw hr hlk (rt_a hf) (rt_b hf) dX12_again_43
    · replace hf := it_f h hf
      refine lv_aload_n hx hb dX12_again_19 rfl (lv_at hl 0 rfl) ?_
      refine zget E hw (Nat.le_of_ble_eq_true rfl) (ceM_0 ad cy _) rfl inX12 0 (by decide) k5_223 (fun _ h => h) rfl dX12_again_20 ?_
      refine lv_iload_n hx hb dX12_again_23 rfl (lv_at hl 1 rfl) ?_
      refine lv_aload_n hx hb dX12_again_24 rfl (lv_at hl 0 rfl) ?_
      refine zget E hw (Nat.le_of_ble_eq_true rfl) (ceM_0 ad cy _) rfl inX12 1 (by decide) k5_224 (fun _ h => h) rfl dX12_again_25 ?_
      refine lv_iload_n hx hb dX12_again_28 rfl (lv_at hl 1 rfl) ?_
      obtain ⟨vq1, hvq1, hf⟩ := bd_e hf
      refine zaldr E hw (Nat.le_of_ble_eq_true rfl) (ceM_2 ad cy) hvq1 dX12_again_29 ?_
      obtain ⟨σ2, hσ2, hf⟩ := bd_e hf
      refine zastr E hw (Nat.le_of_ble_eq_true rfl) (ceM_1 ad cy) hσ2 dX12_again_30 (fun H locs hw => ?_)
      refine lv_iinc (v := (xq1 + 1)) (lv' := [(1, .int (xq1 + 1)), (0, .ref (ad 0))]) hx hb dX12_again_31 hl (k := 1) rfl (by rfl) (by decide) rfl (fun ls hl => ?_)
      refine lv_goto (tgt := 12) hx hb dX12_again_34 (by decide) ?_
      exact hkq12 (xq1 + 1) σ2 _ _ _ hw (lv_sub hl [1, 0] rfl) hf
  have hL12 : ∀ (n : Nat) (xq1 : Int32) (σ : Sg) (H : Heap) (locs : List Loc) (ls : Array Slot), ZS D 17 (celM ad cy) ad A s σ H locs → lv_has ls 2 [(0, .ref (ad 0)), (1, .int xq1)] → f_X12_again_l12 n xq1 σ = some (r, σ9) → W p l e ({ frames := 0, cells := 0, slots := 0, locals := 0 } : Room) s m args below meth c H locs 0 0 (MQ below (zQi D 17 (celM ad cy) ad A r σ9) args s 0 0 A) (F0 m 12 ls []) := by
    intro n
    induction n with
    | zero =>
      intro xq1 σ H locs ls hw hl hf
      exact nn_e hf
    | succ n ih =>
      intro xq1 σ H locs ls hw hl hf
      exact hB12 (f_X12_again_l12 n) ih xq1 σ H locs ls hw hl hf
  unfold f_X12_again at hf
  refine lv_aload_n hx hb dX12_again_0 rfl (lv_at hl 0 rfl) ?_
  refine zget E hw (Nat.le_of_ble_eq_true rfl) (ceM_0 ad cy _) rfl inX12 3 (by decide) k5_226 (fun _ h => h) rfl dX12_again_1 ?_
  refine lv_if_ne (tgt := 10) hx hb dX12_again_4 (by decide) (fun h => ?_) (fun h => ?_)
  · replace hf := it_t h hf
    refine lv_iconst (v := 0) hx hb dX12_again_10 (by decide) ?_
    refine lv_istore_n (lv' := [(1, .int 0), (0, .ref (ad 0))]) hx hb dX12_again_11 rfl hl (by decide) rfl (fun ls hl => ?_)
    exact hL12 400 0 σ _ _ _ hw (lv_sub hl [1, 0] rfl) hf
  · replace hf := it_n h hf
    refine lv_bipush (v := (-3)) hx hb dX12_again_7 (by decide) ?_
    exact zreti E hw hr hlk (rt_a hf) (rt_b hf) dX12_again_9
