set_option maxRecDepth 100000 in
set_option maxHeartbeats 4000000 in
theorem c_X12_write {l : Launch} {D : va_G} {cy : Cy} {ad : Nat → Nat} {A : Nat → Prop} (hA : okAd 17 ad A) (xq1 : Int32) (xq2 : Int32) (xq3 : Int32) (σ : Sg) {r : Int32} {σ9 : Sg} (hf : f_X12_write xq1 xq2 xq3 σ = some (r, σ9)) : Met l yX12_write (.code yX12_write cX12_write 4 (some .int) :: TT) ({ frames := 2, cells := 0, slots := 0, locals := 45 } : Room) (zPc D cy 17 (celM ad cy) ad A [.ref (ad 0), .int xq1, .int xq2, .int xq3] σ) (zQi D 17 (celM ad cy) ad A r σ9) 0 0 A := by
  refine zofW (by decide) hA (Nat.le_of_ble_eq_true rfl) ?_
  intro p e s m args below meth c ls E hw hr hlk hl
  have E : ZE p s m args c cX12_write 4 "KiteSummonsModel" D cy 17 ad A := E
  have hx := E.hx
  have hb := E.hb
  have hl : lv_has ls 4 [(0, .ref (ad 0)), (1, .int xq1), (2, .int xq2), (3, .int xq3)] := hl
  unfold f_X12_write at hf
  refine lv_iload_n hx hb dX12_write_0 rfl (lv_at hl 1 rfl) ?_
  refine zcali hw (va_runS (As := [.int xq1]) (rest := []) E.fix (c_X12_isOne (l := l) hA xq1 σ rfl) (zcS E k8_80 k1_14 k8_78 k8_79 mf_X12_isOne rfl rfl ⟨Nat.le_of_ble_eq_true rfl, Nat.le_of_ble_eq_true rfl⟩) (zPre E hw _) rfl rfl hl.1 rfl (lv_room (Nat.le_of_ble_eq_true rfl)) dX12_write_1 ⟨Nat.zero_le _, Nat.zero_le _⟩) (fun H locs hw => ?_)
  refine lv_if_ne (tgt := 9) hx hb dX12_write_4 (by decide) (fun h => ?_) (fun h => ?_)
  · replace hf := it_t (b2i_n h) hf
    refine lv_aload_n hx hb dX12_write_9 rfl (lv_at hl 0 rfl) ?_
    refine zget E hw (Nat.le_of_ble_eq_true rfl) (ceM_0 ad cy _) rfl inX12 28 (by decide) k6_11 (fun _ h => h) rfl dX12_write_10 ?_
    refine lv_iload_n hx hb dX12_write_13 rfl (lv_at hl 1 rfl) ?_
    obtain ⟨vq1, hvq1, hf⟩ := bd_e hf
    refine zaldr E hw (Nat.le_of_ble_eq_true rfl) (ceM_10 ad cy) hvq1 dX12_write_14 ?_
    refine lv_if_ge (tgt := 21) hx hb dX12_write_15 (by decide) (fun h => ?_) (fun h => ?_)
    · replace hf := it_t h hf
      refine lv_iload_n hx hb dX12_write_21 rfl (lv_at hl 2 rfl) ?_
      refine lv_i2l hx hb dX12_write_22 rfl ?_
      refine lv_lconst (v := 0) hx hb dX12_write_23 (by decide) ?_
      refine lv_aload_n hx hb dX12_write_24 rfl (lv_at hl 0 rfl) ?_
      refine zget E hw (Nat.le_of_ble_eq_true rfl) (ceM_0 ad cy _) rfl inX12 29 (by decide) k6_12 (fun _ h => h) rfl dX12_write_25 ?_
      refine lv_iload_n hx hb dX12_write_28 rfl (lv_at hl 1 rfl) ?_
      obtain ⟨vq2, hvq2, hf⟩ := bd_e hf
      refine zaldr E hw (Nat.le_of_ble_eq_true rfl) (ceM_11 ad cy) hvq2 dX12_write_29 ?_
      refine lv_iconst (v := 1) hx hb dX12_write_30 (by decide) ?_
      refine lv_isub hx hb dX12_write_31 ?_
      refine lv_i2l hx hb dX12_write_32 rfl ?_
      refine zcali hw (va_runS (As := [.long xq2.toInt64, .long (0 : Int64), .long ((vq2 - 1).toInt64)]) (rest := []) E.fix (c_X12_in (l := l) hA xq2.toInt64 (0 : Int64) ((vq2 - 1).toInt64) σ rfl) (zcS E k6_114 k1_14 k6_112 k6_113 mf_X12_in rfl rfl ⟨Nat.le_of_ble_eq_true rfl, Nat.le_of_ble_eq_true rfl⟩) (zPre E hw _) rfl rfl hl.1 rfl (lv_room (Nat.le_of_ble_eq_true rfl)) dX12_write_33 ⟨Nat.zero_le _, Nat.zero_le _⟩) (fun H locs hw => ?_)
      refine lv_if_ne (tgt := 42) hx hb dX12_write_36 (by decide) (fun h => ?_) (fun h => ?_)
      · replace hf := it_t (b2i_n h) hf
        refine lv_aload_n hx hb dX12_write_42 rfl (lv_at hl 0 rfl) ?_
        refine zget E hw (Nat.le_of_ble_eq_true rfl) (ceM_0 ad cy _) rfl inX12 30 (by decide) k6_13 (fun _ h => h) rfl dX12_write_43 ?_
        refine lv_bipush (v := 40) hx hb dX12_write_46 (by decide) ?_
        refine lv_iload_n hx hb dX12_write_48 rfl (lv_at hl 1 rfl) ?_
        refine lv_imul hx hb dX12_write_49 ?_
        refine lv_iload_n hx hb dX12_write_50 rfl (lv_at hl 2 rfl) ?_
        refine lv_iadd hx hb dX12_write_51 ?_
        refine lv_aload_n hx hb dX12_write_52 rfl (lv_at hl 0 rfl) ?_
        refine zget E hw (Nat.le_of_ble_eq_true rfl) (ceM_0 ad cy _) rfl inX12 28 (by decide) k6_11 (fun _ h => h) rfl dX12_write_53 ?_
        refine lv_iload_n hx hb dX12_write_56 rfl (lv_at hl 1 rfl) ?_
        obtain ⟨vq3, hvq3, hf⟩ := bd_e hf
        refine zaldr E hw (Nat.le_of_ble_eq_true rfl) (ceM_10 ad cy) hvq3 dX12_write_57 ?_
        refine lv_iload_n hx hb dX12_write_58 rfl (lv_at hl 3 rfl) ?_
        refine zcali hw (va_runS (As := [.int vq3, .int xq3]) (rest := [.int ((40 * xq1) + xq2), .ref (ad 12)]) E.fix (c_X12_narrowed (l := l) hA vq3 xq3 σ rfl) (zcS E k8_88 k1_14 k8_86 k8_87 mf_X12_narrowed rfl rfl ⟨Nat.le_of_ble_eq_true rfl, Nat.le_of_ble_eq_true rfl⟩) (zPre E hw _) rfl rfl hl.1 rfl (lv_room (Nat.le_of_ble_eq_true rfl)) dX12_write_59 ⟨Nat.zero_le _, Nat.zero_le _⟩) (fun H locs hw => ?_)
        obtain ⟨σ4, hσ4, hf⟩ := bd_e hf
        refine zastr E hw (Nat.le_of_ble_eq_true rfl) (ceM_12 ad cy) hσ4 dX12_write_62 (fun H locs hw => ?_)
        refine lv_iconst (v := 1) hx hb dX12_write_63 (by decide) ?_
        exact zreti E hw hr hlk (rt_a hf) (rt_b hf) dX12_write_64
      · replace hf := it_f (b2i_0 h) hf
        refine lv_bipush (v := (-12)) hx hb dX12_write_39 (by decide) ?_
        exact zreti E hw hr hlk (rt_a hf) (rt_b hf) dX12_write_41
    · replace hf := it_f h hf
      refine lv_bipush (v := (-11)) hx hb dX12_write_18 (by decide) ?_
      exact zreti E hw hr hlk (rt_a hf) (rt_b hf) dX12_write_20
  · replace hf := it_f (b2i_0 h) hf
    refine lv_iconst (v := (-1)) hx hb dX12_write_7 (by decide) ?_
    exact zreti E hw hr hlk (rt_a hf) (rt_b hf) dX12_write_8
set_option maxRecDepth 100000 in
set_option maxHeartbeats 4000000 in
theorem c_X12_whyNot {l : Launch} {D : va_G} {cy : Cy} {ad : Nat → Nat} {A : Nat → Prop} (hA : okAd 17 ad A) (xq1 : Int32) (xq2 : Int32) (σ : Sg) {r : Int32} (hf : f_X12_whyNot xq1 xq2 σ = some r) : Met l yX12_whyNot (.code yX12_whyNot cX12_whyNot 3 (some .int) :: TT) ({ frames := 0, cells := 0, slots := 0, locals := 0 } : Room) (zPc D cy 17 (celM ad cy) ad A [.ref (ad 0), .int xq1, .int xq2] σ) (zQi D 17 (celM ad cy) ad A r σ) 0 0 A := by
  refine zofW (by decide) hA (Nat.le_of_ble_eq_true rfl) ?_
  intro p e s m args below meth c ls E hw hr hlk hl
  have E : ZE p s m args c cX12_whyNot 3 "KiteSummonsModel" D cy 17 ad A := E
  have hx := E.hx
  have hb := E.hb
  have hl : lv_has ls 3 [(0, .ref (ad 0)), (1, .int xq1), (2, .int xq2)] := hl
  unfold f_X12_whyNot at hf
  refine lv_aload_n hx hb dX12_whyNot_0 rfl (lv_at hl 0 rfl) ?_
  refine zget E hw (Nat.le_of_ble_eq_true rfl) (ceM_0 ad cy _) rfl inX12 28 (by decide) k6_11 (fun _ h => h) rfl dX12_whyNot_1 ?_
  refine lv_iload_n hx hb dX12_whyNot_4 rfl (lv_at hl 1 rfl) ?_
  obtain ⟨vq1, hvq1, hf⟩ := bd_e hf
  refine zaldr E hw (Nat.le_of_ble_eq_true rfl) (ceM_10 ad cy) hvq1 dX12_whyNot_5 ?_
  refine lv_if_ge (tgt := 14) hx hb dX12_whyNot_6 (by decide) (fun h => ?_) (fun h => ?_)
  · replace hf := it_t h hf
    refine lv_aload_n hx hb dX12_whyNot_14 rfl (lv_at hl 0 rfl) ?_
    refine zget E hw (Nat.le_of_ble_eq_true rfl) (ceM_0 ad cy _) rfl inX12 28 (by decide) k6_11 (fun _ h => h) rfl dX12_whyNot_15 ?_
    refine lv_iload_n hx hb dX12_whyNot_18 rfl (lv_at hl 1 rfl) ?_
    obtain ⟨vq2, hvq2, hf⟩ := bd_e hf
    refine zaldr E hw (Nat.le_of_ble_eq_true rfl) (ceM_10 ad cy) hvq2 dX12_whyNot_19 ?_
    refine lv_iload_n hx hb dX12_whyNot_20 rfl (lv_at hl 2 rfl) ?_
    refine lv_icmp_eq (tgt := 29) hx hb dX12_whyNot_21 (by decide) (fun h => ?_) (fun h => ?_)
    · replace hf := it_t h hf
      refine lv_iconst (v := 0) hx hb dX12_whyNot_29 (by decide) ?_
      exact zreti E hw hr hlk (rt_1 hf) rfl dX12_whyNot_30
    · replace hf := it_f h hf
      refine lv_bipush (v := (-13)) hx hb dX12_whyNot_24 (by decide) ?_
      refine lv_goto (tgt := 30) hx hb dX12_whyNot_26 (by decide) ?_
      exact zreti E hw hr hlk (rt_1 hf) rfl dX12_whyNot_30
  · replace hf := it_f h hf
    refine lv_bipush (v := (-11)) hx hb dX12_whyNot_9 (by decide) ?_
    refine lv_goto (tgt := 30) hx hb dX12_whyNot_11 (by decide) ?_
    exact zreti E hw hr hlk (rt_1 hf) rfl dX12_whyNot_30
set_option maxRecDepth 100000 in
set_option maxHeartbeats 4000000 in
theorem c_X12_item {l : Launch} {D : va_G} {cy : Cy} {ad : Nat → Nat} {A : Nat → Prop} (hA : okAd 17 ad A) (xq1 : Int32) (xq2 : Int32) (xq3 : Int32) (σ : Sg) {r : Int32} (hf : f_X12_item xq1 xq2 xq3 σ = some r) : Met l yX12_item (.code yX12_item cX12_item 5 (some .int) :: TT) ({ frames := 2, cells := 0, slots := 0, locals := 45 } : Room) (zPc D cy 17 (celM ad cy) ad A [.ref (ad 0), .int xq1, .int xq2, .int xq3] σ) (zQi D 17 (celM ad cy) ad A r σ) 0 0 A := by
  refine zofW (by decide) hA (Nat.le_of_ble_eq_true rfl) ?_
  intro p e s m args below meth c ls E hw hr hlk hl
  have E : ZE p s m args c cX12_item 5 "KiteSummonsModel" D cy 17 ad A := E
  have hx := E.hx
  have hb := E.hb
  have hl : lv_has ls 5 [(0, .ref (ad 0)), (1, .int xq1), (2, .int xq2), (3, .int xq3)] := hl
  unfold f_X12_item at hf
  refine lv_iload_n hx hb dX12_item_0 rfl (lv_at hl 1 rfl) ?_
  refine zcali hw (va_runS (As := [.int xq1]) (rest := []) E.fix (c_X12_isOne (l := l) hA xq1 σ rfl) (zcS E k8_80 k1_14 k8_78 k8_79 mf_X12_isOne rfl rfl ⟨Nat.le_of_ble_eq_true rfl, Nat.le_of_ble_eq_true rfl⟩) (zPre E hw _) rfl rfl hl.1 rfl (lv_room (Nat.le_of_ble_eq_true rfl)) dX12_item_1 ⟨Nat.zero_le _, Nat.zero_le _⟩) (fun H locs hw => ?_)
  refine lv_if_eq (tgt := 19) hx hb dX12_item_4 (by decide) (fun h => ?_) (fun h => ?_)
  · replace hf := it_f (b2i_0 h) hf
    refine lv_iconst (v := (-1)) hx hb dX12_item_19 (by decide) ?_
    exact zreti E hw hr hlk (rt_1 hf) rfl dX12_item_20
  · replace hf := it_t (b2i_n h) hf
    refine lv_iload_n hx hb dX12_item_7 rfl (lv_at hl 2 rfl) ?_
    refine lv_i2l hx hb dX12_item_8 rfl ?_
    refine lv_lconst (v := 0) hx hb dX12_item_9 (by decide) ?_
    refine lv_ldc2 (v := 4) hx hb E.hown (E.ht _ k6_126) dX12_item_10 ?_
    refine zcali hw (va_runS (As := [.long xq2.toInt64, .long (0 : Int64), .long (4 : Int64)]) (rest := []) E.fix (c_X12_in (l := l) hA xq2.toInt64 (0 : Int64) (4 : Int64) σ rfl) (zcS E k6_114 k1_14 k6_112 k6_113 mf_X12_in rfl rfl ⟨Nat.le_of_ble_eq_true rfl, Nat.le_of_ble_eq_true rfl⟩) (zPre E hw _) rfl rfl hl.1 rfl (lv_room (Nat.le_of_ble_eq_true rfl)) dX12_item_13 ⟨Nat.zero_le _, Nat.zero_le _⟩) (fun H locs hw => ?_)
    refine lv_if_ne (tgt := 21) hx hb dX12_item_16 (by decide) (fun h => ?_) (fun h => ?_)
    · replace hf := it_t (b2i_n h) hf
      refine lv_aload_n hx hb dX12_item_21 rfl (lv_at hl 0 rfl) ?_
      refine lv_iload_n hx hb dX12_item_22 rfl (lv_at hl 1 rfl) ?_
      refine lv_iload_n hx hb dX12_item_23 rfl (lv_at hl 2 rfl) ?_
      obtain ⟨vq1, hc, hf⟩ := bd_e hf
      refine zcali hw (va_runV (As := [.int xq1, .int xq2]) (rest := []) E.fix (c_X12_whyNot (l := l) hA xq1 xq2 σ hc) (zcV E k8_96 k1_14 k8_93 k8_95 kp6_11 mf_X12_whyNot rfl rfl ⟨Nat.le_of_ble_eq_true rfl, Nat.le_of_ble_eq_true rfl⟩) (zPreV E hw (Nat.le_of_ble_eq_true rfl) (ceM_0 ad cy _) rfl _) rfl rfl hl.1 rfl (lv_room (Nat.le_of_ble_eq_true rfl)) dX12_item_24 ⟨Nat.zero_le _, Nat.zero_le _⟩) (fun H locs hw => ?_)
      refine lv_istore (lv' := [(4, .int vq1), (0, .ref (ad 0)), (1, .int xq1), (2, .int xq2), (3, .int xq3)]) hx hb dX12_item_27 hl (by decide) rfl (fun ls hl => ?_)
      refine lv_iload hx hb dX12_item_29 (lv_at hl 0 rfl) ?_
      refine lv_if_eq (tgt := 39) hx hb dX12_item_31 (by decide) (fun h => ?_) (fun h => ?_)
      · replace hf := it_t h hf
        refine lv_iload_n hx hb dX12_item_39 rfl (lv_at hl 4 rfl) ?_
        refine lv_i2l hx hb dX12_item_40 rfl ?_
        refine lv_lconst (v := 0) hx hb dX12_item_41 (by decide) ?_
        refine lv_aload_n hx hb dX12_item_42 rfl (lv_at hl 1 rfl) ?_
        refine zget E hw (Nat.le_of_ble_eq_true rfl) (ceM_0 ad cy _) rfl inX12 29 (by decide) k6_12 (fun _ h => h) rfl dX12_item_43 ?_
        refine lv_iload_n hx hb dX12_item_46 rfl (lv_at hl 2 rfl) ?_
        obtain ⟨vq2, hvq2, hf⟩ := bd_e hf
        refine zaldr E hw (Nat.le_of_ble_eq_true rfl) (ceM_11 ad cy) hvq2 dX12_item_47 ?_
        refine lv_iconst (v := 1) hx hb dX12_item_48 (by decide) ?_
        refine lv_isub hx hb dX12_item_49 ?_
        refine lv_i2l hx hb dX12_item_50 rfl ?_
        refine zcali hw (va_runS (As := [.long xq3.toInt64, .long (0 : Int64), .long ((vq2 - 1).toInt64)]) (rest := []) E.fix (c_X12_in (l := l) hA xq3.toInt64 (0 : Int64) ((vq2 - 1).toInt64) σ rfl) (zcS E k6_114 k1_14 k6_112 k6_113 mf_X12_in rfl rfl ⟨Nat.le_of_ble_eq_true rfl, Nat.le_of_ble_eq_true rfl⟩) (zPre E hw _) rfl rfl hl.1 rfl (lv_room (Nat.le_of_ble_eq_true rfl)) dX12_item_51 ⟨Nat.zero_le _, Nat.zero_le _⟩) (fun H locs hw => ?_)
        refine lv_if_eq (tgt := 71) hx hb dX12_item_54 (by decide) (fun h => ?_) (fun h => ?_)
        · replace hf := it_f (b2i_0 h) hf
          refine lv_bipush (v := (-12)) hx hb dX12_item_71 (by decide) ?_
          exact zreti E hw hr hlk (rt_1 hf) rfl dX12_item_73
        · replace hf := it_t (b2i_n h) hf
          refine lv_aload_n hx hb dX12_item_57 rfl (lv_at hl 1 rfl) ?_
          refine zget E hw (Nat.le_of_ble_eq_true rfl) (ceM_0 ad cy _) rfl inX12 30 (by decide) k6_13 (fun _ h => h) rfl dX12_item_58 ?_
          refine lv_bipush (v := 40) hx hb dX12_item_61 (by decide) ?_
          refine lv_iload_n hx hb dX12_item_63 rfl (lv_at hl 2 rfl) ?_
          refine lv_imul hx hb dX12_item_64 ?_
          refine lv_iload_n hx hb dX12_item_65 rfl (lv_at hl 4 rfl) ?_
          refine lv_iadd hx hb dX12_item_66 ?_
          obtain ⟨vq3, hvq3, hf⟩ := bd_e hf
          refine zaldr E hw (Nat.le_of_ble_eq_true rfl) (ceM_12 ad cy) hvq3 dX12_item_67 ?_
          refine lv_goto (tgt := 73) hx hb dX12_item_68 (by decide) ?_
          exact zreti E hw hr hlk (rt_1 hf) rfl dX12_item_73
      · replace hf := it_f h hf
        refine lv_iload hx hb dX12_item_34 (lv_at hl 0 rfl) ?_
        refine lv_goto (tgt := 73) hx hb dX12_item_36 (by decide) ?_
        exact zreti E hw hr hlk (rt_1 hf) rfl dX12_item_73
    · replace hf := it_f (b2i_0 h) hf
      refine lv_iconst (v := (-1)) hx hb dX12_item_19 (by decide) ?_
      exact zreti E hw hr hlk (rt_1 hf) rfl dX12_item_20
set_option maxRecDepth 100000 in
set_option maxHeartbeats 4000000 in
theorem c_X12_isSpan {l : Launch} {D : va_G} {cy : Cy} {ad : Nat → Nat} {A : Nat → Prop} (hA : okAd 17 ad A) (xq1 : Int32) (xq2 : Int32) (σ : Sg) {r : Bool} (hf : f_X12_isSpan xq1 xq2 σ = r) : Met l yX12_isSpan (.code yX12_isSpan cX12_isSpan 3 (some .boolean) :: TT) ({ frames := 2, cells := 0, slots := 0, locals := 45 } : Room) (zPc D cy 17 (celM ad cy) ad A [.ref (ad 0), .int xq1, .int xq2] σ) (zQi D 17 (celM ad cy) ad A (b2i r) σ) 0 0 A := by
  refine zofW (by decide) hA (Nat.le_of_ble_eq_true rfl) ?_
  intro p e s m args below meth c ls E hw hr hlk hl
  have E : ZE p s m args c cX12_isSpan 3 "KiteSummonsModel" D cy 17 ad A := E
  have hx := E.hx
  have hb := E.hb
  have hl : lv_has ls 3 [(0, .ref (ad 0)), (1, .int xq1), (2, .int xq2)] := hl
  unfold f_X12_isSpan at hf
  refine lv_iload_n hx hb dX12_isSpan_0 rfl (lv_at hl 1 rfl) ?_
  refine zcali hw (va_runS (As := [.int xq1]) (rest := []) E.fix (c_X12_isOne (l := l) hA xq1 σ rfl) (zcS E k8_80 k1_14 k8_78 k8_79 mf_X12_isOne rfl rfl ⟨Nat.le_of_ble_eq_true rfl, Nat.le_of_ble_eq_true rfl⟩) (zPre E hw _) rfl rfl hl.1 rfl (lv_room (Nat.le_of_ble_eq_true rfl)) dX12_isSpan_1 ⟨Nat.zero_le _, Nat.zero_le _⟩) (fun H locs hw => ?_)
  refine lv_if_eq (tgt := 23) hx hb dX12_isSpan_4 (by decide) (fun h => ?_) (fun h => ?_)
  · replace hf := it_f (b2i_0 h) hf
    refine lv_iconst (v := 0) hx hb dX12_isSpan_23 (by decide) ?_
    exact zretz E hw hr hlk (b_e hf (by rfl)) rfl dX12_isSpan_24
  · replace hf := it_t (b2i_n h) hf
    refine lv_iload_n hx hb dX12_isSpan_7 rfl (lv_at hl 2 rfl) ?_
    refine lv_i2l hx hb dX12_isSpan_8 rfl ?_
    refine lv_lconst (v := 0) hx hb dX12_isSpan_9 (by decide) ?_
    refine lv_ldc2 (v := 20) hx hb E.hown (E.ht _ k8_105) dX12_isSpan_10 ?_
    refine zcali hw (va_runS (As := [.long xq2.toInt64, .long (0 : Int64), .long (20 : Int64)]) (rest := []) E.fix (c_X12_in (l := l) hA xq2.toInt64 (0 : Int64) (20 : Int64) σ rfl) (zcS E k6_114 k1_14 k6_112 k6_113 mf_X12_in rfl rfl ⟨Nat.le_of_ble_eq_true rfl, Nat.le_of_ble_eq_true rfl⟩) (zPre E hw _) rfl rfl hl.1 rfl (lv_room (Nat.le_of_ble_eq_true rfl)) dX12_isSpan_13 ⟨Nat.zero_le _, Nat.zero_le _⟩) (fun H locs hw => ?_)
    refine lv_if_eq (tgt := 23) hx hb dX12_isSpan_16 (by decide) (fun h => ?_) (fun h => ?_)
    · replace hf := it_f (b2i_0 h) hf
      refine lv_iconst (v := 0) hx hb dX12_isSpan_23 (by decide) ?_
      exact zretz E hw hr hlk (b_e hf (by rfl)) rfl dX12_isSpan_24
    · replace hf := it_t (b2i_n h) hf
      refine lv_iconst (v := 1) hx hb dX12_isSpan_19 (by decide) ?_
      refine lv_goto (tgt := 24) hx hb dX12_isSpan_20 (by decide) ?_
      exact zretz E hw hr hlk (b_e hf (by rfl)) rfl dX12_isSpan_24
set_option maxRecDepth 100000 in
set_option maxHeartbeats 4000000 in
theorem c_X12_isItem {l : Launch} {D : va_G} {cy : Cy} {ad : Nat → Nat} {A : Nat → Prop} (hA : okAd 17 ad A) (xq1 : Int32) (xq2 : Int64) (σ : Sg) {r : Bool} (hf : f_X12_isItem xq1 xq2 σ = some r) : Met l yX12_isItem (.code yX12_isItem cX12_isItem 4 (some .boolean) :: TT) ({ frames := 1, cells := 0, slots := 0, locals := 25 } : Room) (zPc D cy 17 (celM ad cy) ad A [.ref (ad 0), .int xq1, .long xq2] σ) (zQi D 17 (celM ad cy) ad A (b2i r) σ) 0 0 A := by
  refine zofW (by decide) hA (Nat.le_of_ble_eq_true rfl) ?_
  intro p e s m args below meth c ls E hw hr hlk hl
  have E : ZE p s m args c cX12_isItem 4 "KiteSummonsModel" D cy 17 ad A := E
  have hx := E.hx
  have hb := E.hb
  have hl : lv_has ls 4 [(0, .ref (ad 0)), (1, .int xq1), (2, .long xq2)] := hl
  unfold f_X12_isItem at hf
  refine lv_lload_n hx hb dX12_isItem_0 rfl (lv_at hl 2 rfl) ?_
  refine lv_lconst (v := 0) hx hb dX12_isItem_1 (by decide) ?_
  refine lv_aload_n hx hb dX12_isItem_2 rfl (lv_at hl 0 rfl) ?_
  refine zget E hw (Nat.le_of_ble_eq_true rfl) (ceM_0 ad cy _) rfl inX12 29 (by decide) k6_12 (fun _ h => h) rfl dX12_isItem_3 ?_
  refine lv_iload_n hx hb dX12_isItem_6 rfl (lv_at hl 1 rfl) ?_
  obtain ⟨vq1, hvq1, hf⟩ := bd_e hf
  refine zaldr E hw (Nat.le_of_ble_eq_true rfl) (ceM_11 ad cy) hvq1 dX12_isItem_7 ?_
  refine lv_iconst (v := 1) hx hb dX12_isItem_8 (by decide) ?_
  refine lv_isub hx hb dX12_isItem_9 ?_
  refine lv_i2l hx hb dX12_isItem_10 rfl ?_
  refine zcali hw (va_runS (As := [.long xq2, .long (0 : Int64), .long ((vq1 - 1).toInt64)]) (rest := []) E.fix (c_X12_in (l := l) hA xq2 (0 : Int64) ((vq1 - 1).toInt64) σ rfl) (zcS E k6_114 k1_14 k6_112 k6_113 mf_X12_in rfl rfl ⟨Nat.le_of_ble_eq_true rfl, Nat.le_of_ble_eq_true rfl⟩) (zPre E hw _) rfl rfl hl.1 rfl (lv_room (Nat.le_of_ble_eq_true rfl)) dX12_isItem_11 ⟨Nat.zero_le _, Nat.zero_le _⟩) (fun H locs hw => ?_)
  exact zretz E hw hr hlk (b_e (rt_1 hf) (by rfl)) rfl dX12_isItem_14
set_option maxRecDepth 100000 in
set_option maxHeartbeats 4000000 in
theorem c_X12_goAll {l : Launch} {D : va_G} {cy : Cy} {ad : Nat → Nat} {A : Nat → Prop} (hA : okAd 17 ad A) (xq1 : Int32) (xq2 : Int32) (xq3 : Int32) (σ : Sg) {r : Int32} {σ9 : Sg} (hf : f_X12_goAll xq1 xq2 xq3 σ = some (r, σ9)) : Met l yX12_goAll (.code yX12_goAll cX12_goAll 8 (some .int) :: TT) ({ frames := 8, cells := 0, slots := 0, locals := 183 } : Room) (zPc D cy 17 (celM ad cy) ad A [.ref (ad 0), .int xq1, .int xq2, .int xq3] σ) (zQi D 17 (celM ad cy) ad A r σ9) 0 0 A := by
  refine zofW (by decide) hA (Nat.le_of_ble_eq_true rfl) ?_
  intro p e s m args below meth c ls E hw hr hlk hl
  have E : ZE p s m args c cX12_goAll 8 "KiteSummonsModel" D cy 17 ad A := E
  have hx := E.hx
  have hb := E.hb
  have hl : lv_has ls 8 [(0, .ref (ad 0)), (1, .int xq1), (2, .int xq2), (3, .int xq3)] := hl
  have hB33 : ∀ (xq1 : Int32) (xq2 : Int32) (xq3 : Int32) (kq33 : Int32 → Int32 → Sg → Option (Int32 × Sg)) (hkq33 : ∀ (xq5 : Int32) (xq6 : Int32) (σ : Sg) (H : Heap) (locs : List Loc) (ls : Array Slot), ZS D 17 (celM ad cy) ad A s σ H locs → lv_has ls 8 [(0, .ref (ad 0)), (1, .int xq1), (2, .int xq2), (3, .int xq3), (5, .int xq5), (6, .int xq6)] → kq33 xq5 xq6 σ = some (r, σ9) → W p l e ({ frames := 8, cells := 0, slots := 0, locals := 183 } : Room) s m args below meth c H locs 0 0 (MQ below (zQi D 17 (celM ad cy) ad A r σ9) args s 0 0 A) (F0 m 33 ls [])) (xq5 : Int32) (xq6 : Int32) (σ : Sg) (H : Heap) (locs : List Loc) (ls : Array Slot), ZS D 17 (celM ad cy) ad A s σ H locs → lv_has ls 8 [(0, .ref (ad 0)), (1, .int xq1), (2, .int xq2), (3, .int xq3), (5, .int xq5), (6, .int xq6)] → f_X12_goAll_b33 kq33 xq1 xq2 xq3 xq5 xq6 σ = some (r, σ9) → W p l e ({ frames := 8, cells := 0, slots := 0, locals := 183 } : Room) s m args below meth c H locs 0 0 (MQ below (zQi D 17 (celM ad cy) ad A r σ9) args s 0 0 A) (F0 m 33 ls []) := by
    intro xq1 xq2 xq3 kq33 hkq33 xq5 xq6 σ H locs ls hw hl hf
    unfold f_X12_goAll_b33 at hf
    refine lv_iload hx hb dX12_goAll_33 (lv_at hl 5 rfl) ?_
    refine lv_iload_n hx hb dX12_goAll_35 rfl (lv_at hl 3 rfl) ?_
    refine lv_icmp_ge (tgt := 102) hx hb dX12_goAll_36 (by decide) (fun h => ?_) (fun h => ?_)
    · replace hf := it_t h hf
      refine lv_iload hx hb dX12_goAll_102 (lv_at hl 4 rfl) ?_
      exact zreti E hw hr hlk (rt_a hf) (rt_b hf) dX12_goAll_104
    · replace hf := it_f h hf
      refine lv_aload_n hx hb dX12_goAll_39 rfl (lv_at hl 0 rfl) ?_
      refine lv_iload_n hx hb dX12_goAll_40 rfl (lv_at hl 1 rfl) ?_
      refine lv_iload_n hx hb dX12_goAll_41 rfl (lv_at hl 2 rfl) ?_
      refine lv_i2l hx hb dX12_goAll_42 rfl ?_
      refine lv_iload hx hb dX12_goAll_43 (lv_at hl 5 rfl) ?_
      refine lv_i2l hx hb dX12_goAll_45 rfl ?_
      refine lv_ladd hx hb dX12_goAll_46 ?_
      obtain ⟨vq2, hc, hf⟩ := bd_e hf
      refine zcali hw (va_runV (As := [.int xq1, .long (xq2.toInt64 + xq6.toInt64)]) (rest := []) E.fix (c_X12_isItem (l := l) hA xq1 (xq2.toInt64 + xq6.toInt64) σ hc) (zcV E k8_109 k1_14 k8_106 k8_108 kp6_13 mf_X12_isItem rfl rfl ⟨Nat.le_of_ble_eq_true rfl, Nat.le_of_ble_eq_true rfl⟩) (zPreV E hw (Nat.le_of_ble_eq_true rfl) (ceM_0 ad cy _) rfl _) rfl rfl hl.1 rfl (lv_room (Nat.le_of_ble_eq_true rfl)) dX12_goAll_47 ⟨Nat.zero_le _, Nat.zero_le _⟩) (fun H locs hw => ?_)
      refine lv_if_ne (tgt := 56) hx hb dX12_goAll_50 (by decide) (fun h => ?_) (fun h => ?_)
      · replace hf := it_t (b2i_n h) hf
        refine lv_aload_n hx hb dX12_goAll_56 rfl (lv_at hl 0 rfl) ?_
        refine zget E hw (Nat.le_of_ble_eq_true rfl) (ceM_0 ad cy _) rfl inX12 30 (by decide) k6_13 (fun _ h => h) rfl dX12_goAll_57 ?_
        refine lv_bipush (v := 40) hx hb dX12_goAll_60 (by decide) ?_
        refine lv_iload_n hx hb dX12_goAll_62 rfl (lv_at hl 1 rfl) ?_
        refine lv_imul hx hb dX12_goAll_63 ?_
        refine lv_iload_n hx hb dX12_goAll_64 rfl (lv_at hl 2 rfl) ?_
        refine lv_iadd hx hb dX12_goAll_65 ?_
        refine lv_iload hx hb dX12_goAll_66 (lv_at hl 5 rfl) ?_
        refine lv_iadd hx hb dX12_goAll_68 ?_
        obtain ⟨vq3, hvq3, hf⟩ := bd_e hf
        refine zaldr E hw (Nat.le_of_ble_eq_true rfl) (ceM_12 ad cy) hvq3 dX12_goAll_69 ?_
        refine lv_istore (lv' := [(7, .int vq3), (0, .ref (ad 0)), (1, .int xq1), (2, .int xq2), (3, .int xq3), (5, .int xq5), (6, .int xq6)]) hx hb dX12_goAll_70 hl (by decide) rfl (fun ls hl => ?_)
        refine lv_iload hx hb dX12_goAll_72 (lv_at hl 5 rfl) ?_
        refine lv_aload_n hx hb dX12_goAll_74 rfl (lv_at hl 1 rfl) ?_
        refine lv_iload hx hb dX12_goAll_75 (lv_at hl 0 rfl) ?_
        refine zcali hw (va_runV (As := [.int vq3]) (rest := [.int xq5]) E.fix (c_X12_isAct (l := l) hA vq3 σ rfl) (zcV E k7_217 k1_14 k7_214 k7_216 kp5_12 mf_X12_isAct rfl rfl ⟨Nat.le_of_ble_eq_true rfl, Nat.le_of_ble_eq_true rfl⟩) (zPreV E hw (Nat.le_of_ble_eq_true rfl) (ceM_0 ad cy _) rfl _) rfl rfl hl.1 rfl (lv_room (Nat.le_of_ble_eq_true rfl)) dX12_goAll_77 ⟨Nat.zero_le _, Nat.zero_le _⟩) (fun H locs hw => ?_)
        refine lv_if_eq (tgt := 92) hx hb dX12_goAll_80 (by decide) (fun h => ?_) (fun h => ?_)
        · replace hf := it_f (b2i_0 h) hf
          refine lv_iconst (v := 0) hx hb dX12_goAll_92 (by decide) ?_
          refine lv_iadd hx hb dX12_goAll_93 ?_
          refine lv_topi (fun vq4 evq4 => ?_)
          replace hf := lt_i evq4 hf
          refine lv_istore (lv' := [(5, .int vq4), (7, .int vq3), (0, .ref (ad 0)), (1, .int xq1), (2, .int xq2), (3, .int xq3), (6, .int xq6)]) hx hb dX12_goAll_94 hl (by decide) rfl (fun ls hl => ?_)
          refine lv_iinc (v := (xq6 + 1)) (lv' := [(6, .int (xq6 + 1)), (5, .int vq4), (7, .int vq3), (0, .ref (ad 0)), (1, .int xq1), (2, .int xq2), (3, .int xq3)]) hx hb dX12_goAll_96 hl (k := 6) rfl (by rfl) (by decide) rfl (fun ls hl => ?_)
          refine lv_goto (tgt := 33) hx hb dX12_goAll_99 (by decide) ?_
          exact hkq33 vq4 (xq6 + 1) σ _ _ _ hw (lv_sub hl [3, 4, 5, 6, 1, 0] rfl) hf
        · replace hf := it_t (b2i_n h) hf
          refine lv_aload_n hx hb dX12_goAll_83 rfl (lv_at hl 1 rfl) ?_
          refine lv_iload hx hb dX12_goAll_84 (lv_at hl 0 rfl) ?_
          obtain ⟨vq5, σ6, hc, hf⟩ := bd2_e hf
          refine zcali hw (va_runV (As := [.int vq3]) (rest := [.int xq5]) E.fix (c_X12_goes (l := l) hA vq3 σ hc) (zcV E k7_2 k1_14 k6_239 k7_1 kp4_3 mf_X12_goes rfl rfl ⟨Nat.le_of_ble_eq_true rfl, Nat.le_of_ble_eq_true rfl⟩) (zPreV E hw (Nat.le_of_ble_eq_true rfl) (ceM_0 ad cy _) rfl _) rfl rfl hl.1 rfl (lv_room (Nat.le_of_ble_eq_true rfl)) dX12_goAll_86 ⟨Nat.zero_le _, Nat.zero_le _⟩) (fun H locs hw => ?_)
          refine lv_goto (tgt := 93) hx hb dX12_goAll_89 (by decide) ?_
          refine lv_iadd hx hb dX12_goAll_93 ?_
          refine lv_topi (fun vq7 evq7 => ?_)
          replace hf := lt_i evq7 hf
          refine lv_istore (lv' := [(5, .int vq7), (7, .int vq3), (0, .ref (ad 0)), (1, .int xq1), (2, .int xq2), (3, .int xq3), (6, .int xq6)]) hx hb dX12_goAll_94 hl (by decide) rfl (fun ls hl => ?_)
          refine lv_iinc (v := (xq6 + 1)) (lv' := [(6, .int (xq6 + 1)), (5, .int vq7), (7, .int vq3), (0, .ref (ad 0)), (1, .int xq1), (2, .int xq2), (3, .int xq3)]) hx hb dX12_goAll_96 hl (k := 6) rfl (by rfl) (by decide) rfl (fun ls hl => ?_)
          refine lv_goto (tgt := 33) hx hb dX12_goAll_99 (by decide) ?_
          exact hkq33 vq7 (xq6 + 1) σ6 _ _ _ hw (lv_sub hl [3, 4, 5, 6, 1, 0] rfl) hf
      · replace hf := it_f (b2i_0 h) hf
        refine lv_bipush (v := (-12)) hx hb dX12_goAll_53 (by decide) ?_
        exact zreti E hw hr hlk (rt_a hf) (rt_b hf) dX12_goAll_55
  have hL33 : ∀ (xq1 : Int32) (xq2 : Int32) (xq3 : Int32) (n : Nat) (xq5 : Int32) (xq6 : Int32) (σ : Sg) (H : Heap) (locs : List Loc) (ls : Array Slot), ZS D 17 (celM ad cy) ad A s σ H locs → lv_has ls 8 [(0, .ref (ad 0)), (1, .int xq1), (2, .int xq2), (3, .int xq3), (5, .int xq5), (6, .int xq6)] → f_X12_goAll_l33 xq1 xq2 xq3 n xq5 xq6 σ = some (r, σ9) → W p l e ({ frames := 8, cells := 0, slots := 0, locals := 183 } : Room) s m args below meth c H locs 0 0 (MQ below (zQi D 17 (celM ad cy) ad A r σ9) args s 0 0 A) (F0 m 33 ls []) := by
    intro xq1 xq2 xq3 n
    induction n with
    | zero =>
      intro xq5 xq6 σ H locs ls hw hl hf
      exact nn_e hf
    | succ n ih =>
      intro xq5 xq6 σ H locs ls hw hl hf
      exact hB33 xq1 xq2 xq3 (f_X12_goAll_l33 xq1 xq2 xq3 n) ih xq5 xq6 σ H locs ls hw hl hf
  unfold f_X12_goAll at hf
  refine lv_aload_n hx hb dX12_goAll_0 rfl (lv_at hl 0 rfl) ?_
  refine lv_iload_n hx hb dX12_goAll_1 rfl (lv_at hl 1 rfl) ?_
  refine lv_iload_n hx hb dX12_goAll_2 rfl (lv_at hl 3 rfl) ?_
  refine zcali hw (va_runV (As := [.int xq1, .int xq3]) (rest := []) E.fix (c_X12_isSpan (l := l) hA xq1 xq3 σ rfl) (zcV E k8_104 k1_14 k8_101 k8_103 kp6_12 mf_X12_isSpan rfl rfl ⟨Nat.le_of_ble_eq_true rfl, Nat.le_of_ble_eq_true rfl⟩) (zPreV E hw (Nat.le_of_ble_eq_true rfl) (ceM_0 ad cy _) rfl _) rfl rfl hl.1 rfl (lv_room (Nat.le_of_ble_eq_true rfl)) dX12_goAll_3 ⟨Nat.zero_le _, Nat.zero_le _⟩) (fun H locs hw => ?_)
  refine lv_if_ne (tgt := 11) hx hb dX12_goAll_6 (by decide) (fun h => ?_) (fun h => ?_)
  · replace hf := it_t (b2i_n h) hf
    refine lv_aload_n hx hb dX12_goAll_11 rfl (lv_at hl 0 rfl) ?_
    refine lv_iload_n hx hb dX12_goAll_12 rfl (lv_at hl 1 rfl) ?_
    refine lv_iconst (v := 0) hx hb dX12_goAll_13 (by decide) ?_
    obtain ⟨vq1, hc, hf⟩ := bd_e hf
    refine zcali hw (va_runV (As := [.int xq1, .int 0]) (rest := []) E.fix (c_X12_whyNot (l := l) hA xq1 0 σ hc) (zcV E k8_96 k1_14 k8_93 k8_95 kp6_11 mf_X12_whyNot rfl rfl ⟨Nat.le_of_ble_eq_true rfl, Nat.le_of_ble_eq_true rfl⟩) (zPreV E hw (Nat.le_of_ble_eq_true rfl) (ceM_0 ad cy _) rfl _) rfl rfl hl.1 rfl (lv_room (Nat.le_of_ble_eq_true rfl)) dX12_goAll_14 ⟨Nat.zero_le _, Nat.zero_le _⟩) (fun H locs hw => ?_)
    refine lv_istore (lv' := [(4, .int vq1), (0, .ref (ad 0)), (1, .int xq1), (2, .int xq2), (3, .int xq3)]) hx hb dX12_goAll_17 hl (by decide) rfl (fun ls hl => ?_)
    refine lv_iload hx hb dX12_goAll_19 (lv_at hl 0 rfl) ?_
    refine lv_if_eq (tgt := 27) hx hb dX12_goAll_21 (by decide) (fun h => ?_) (fun h => ?_)
    · replace hf := it_t h hf
      refine lv_iconst (v := 0) hx hb dX12_goAll_27 (by decide) ?_
      refine lv_istore (lv' := [(5, .int 0), (4, .int vq1), (0, .ref (ad 0)), (1, .int xq1), (2, .int xq2), (3, .int xq3)]) hx hb dX12_goAll_28 hl (by decide) rfl (fun ls hl => ?_)
      refine lv_iconst (v := 0) hx hb dX12_goAll_30 (by decide) ?_
      refine lv_istore (lv' := [(6, .int 0), (5, .int 0), (4, .int vq1), (0, .ref (ad 0)), (1, .int xq1), (2, .int xq2), (3, .int xq3)]) hx hb dX12_goAll_31 hl (by decide) rfl (fun ls hl => ?_)
      exact hL33 xq1 xq2 xq3 400 0 0 σ _ _ _ hw (lv_sub hl [3, 4, 5, 6, 1, 0] rfl) hf
    · replace hf := it_f h hf
      refine lv_iload hx hb dX12_goAll_24 (lv_at hl 0 rfl) ?_
      exact zreti E hw hr hlk (rt_a hf) (rt_b hf) dX12_goAll_26
  · replace hf := it_f (b2i_0 h) hf
    refine lv_iconst (v := (-1)) hx hb dX12_goAll_9 (by decide) ?_
    exact zreti E hw hr hlk (rt_a hf) (rt_b hf) dX12_goAll_10
set_option maxRecDepth 100000 in
set_option maxHeartbeats 4000000 in
theorem c_X12_wouldBe {l : Launch} {D : va_G} {cy : Cy} {ad : Nat → Nat} {A : Nat → Prop} (hA : okAd 17 ad A) (xq1 : Int32) (xq2 : Int32) (xq3 : Int32) (σ : Sg) {r : Int32} {σ9 : Sg} (hf : f_X12_wouldBe xq1 xq2 xq3 σ = some (r, σ9)) : Met l yX12_wouldBe (.code yX12_wouldBe cX12_wouldBe 8 (some .int) :: TT) ({ frames := 8, cells := 0, slots := 0, locals := 183 } : Room) (zPc D cy 17 (celM ad cy) ad A [.ref (ad 0), .int xq1, .int xq2, .int xq3] σ) (zQi D 17 (celM ad cy) ad A r σ9) 0 0 A := by
  refine zofW (by decide) hA (Nat.le_of_ble_eq_true rfl) ?_
  intro p e s m args below meth c ls E hw hr hlk hl
  have E : ZE p s m args c cX12_wouldBe 8 "KiteSummonsModel" D cy 17 ad A := E
  have hx := E.hx
  have hb := E.hb
  have hl : lv_has ls 8 [(0, .ref (ad 0)), (1, .int xq1), (2, .int xq2), (3, .int xq3)] := hl
  have hB98 : ∀ (xq1 : Int32) (xq2 : Int32) (xq3 : Int32) (xq5 : Int32) (xq6 : Int32) (tq0 : Int32) (kq37 : Int32 → Int32 → Int32 → Sg → Option (Int32 × Sg)) (hkq37 : ∀ (xq4 : Int32) (xq5 : Int32) (xq6 : Int32) (σ : Sg) (H : Heap) (locs : List Loc) (ls : Array Slot), ZS D 17 (celM ad cy) ad A s σ H locs → lv_has ls 8 [(0, .ref (ad 0)), (1, .int xq1), (2, .int xq2), (3, .int xq3), (4, .int xq4), (5, .int xq5), (6, .int xq6)] → kq37 xq4 xq5 xq6 σ = some (r, σ9) → W p l e ({ frames := 8, cells := 0, slots := 0, locals := 183 } : Room) s m args below meth c H locs 0 0 (MQ below (zQi D 17 (celM ad cy) ad A r σ9) args s 0 0 A) (F0 m 37 ls [])) (σ : Sg) (H : Heap) (locs : List Loc) (ls : Array Slot), ZS D 17 (celM ad cy) ad A s σ H locs → lv_has ls 8 [(0, .ref (ad 0)), (1, .int xq1), (2, .int xq2), (3, .int xq3), (5, .int xq5), (6, .int xq6)] → f_X12_wouldBe_b98 kq37 xq1 xq2 xq3 xq5 xq6 tq0 σ = some (r, σ9) → W p l e ({ frames := 8, cells := 0, slots := 0, locals := 183 } : Room) s m args below meth c H locs 0 0 (MQ below (zQi D 17 (celM ad cy) ad A r σ9) args s 0 0 A) (F0 m 98 ls [.int tq0]) := by
    intro xq1 xq2 xq3 xq5 xq6 tq0 kq37 hkq37 σ H locs ls hw hl hf
    unfold f_X12_wouldBe_b98 at hf
    refine lv_istore (lv' := [(4, .int tq0), (0, .ref (ad 0)), (1, .int xq1), (2, .int xq2), (3, .int xq3), (5, .int xq5), (6, .int xq6)]) hx hb dX12_wouldBe_98 hl (by decide) rfl (fun ls hl => ?_)
    refine lv_iload hx hb dX12_wouldBe_100 (lv_at hl 5 rfl) ?_
    refine lv_iload hx hb dX12_wouldBe_102 (lv_at hl 0 rfl) ?_
    refine lv_if_ne (tgt := 128) hx hb dX12_wouldBe_104 (by decide) (fun h => ?_) (fun h => ?_)
    · replace hf := it_t h hf
      refine lv_iconst (v := 0) hx hb dX12_wouldBe_128 (by decide) ?_
      refine lv_iadd hx hb dX12_wouldBe_129 ?_
      refine lv_topi (fun vq6 evq6 => ?_)
      replace hf := lt_i evq6 hf
      refine lv_istore (lv' := [(5, .int vq6), (4, .int tq0), (0, .ref (ad 0)), (1, .int xq1), (2, .int xq2), (3, .int xq3), (6, .int xq6)]) hx hb dX12_wouldBe_130 hl (by decide) rfl (fun ls hl => ?_)
      refine lv_iinc (v := (xq6 + 1)) (lv' := [(6, .int (xq6 + 1)), (5, .int vq6), (4, .int tq0), (0, .ref (ad 0)), (1, .int xq1), (2, .int xq2), (3, .int xq3)]) hx hb dX12_wouldBe_132 hl (k := 6) rfl (by rfl) (by decide) rfl (fun ls hl => ?_)
      refine lv_goto (tgt := 37) hx hb dX12_wouldBe_135 (by decide) ?_
      exact hkq37 tq0 vq6 (xq6 + 1) σ _ _ _ hw (lv_sub hl [3, 4, 5, 6, 2, 1, 0] rfl) hf
    · replace hf := it_n h hf
      refine lv_aload_n hx hb dX12_wouldBe_107 rfl (lv_at hl 1 rfl) ?_
      refine lv_aload_n hx hb dX12_wouldBe_108 rfl (lv_at hl 1 rfl) ?_
      refine zget E hw (Nat.le_of_ble_eq_true rfl) (ceM_0 ad cy _) rfl inX12 30 (by decide) k6_13 (fun _ h => h) rfl dX12_wouldBe_109 ?_
      refine lv_bipush (v := 40) hx hb dX12_wouldBe_112 (by decide) ?_
      refine lv_iload_n hx hb dX12_wouldBe_114 rfl (lv_at hl 2 rfl) ?_
      refine lv_imul hx hb dX12_wouldBe_115 ?_
      refine lv_iload_n hx hb dX12_wouldBe_116 rfl (lv_at hl 3 rfl) ?_
      refine lv_iadd hx hb dX12_wouldBe_117 ?_
      refine lv_iload hx hb dX12_wouldBe_118 (lv_at hl 6 rfl) ?_
      refine lv_iadd hx hb dX12_wouldBe_120 ?_
      obtain ⟨vq7, hvq7, hf⟩ := bd_e hf
      refine zaldr E hw (Nat.le_of_ble_eq_true rfl) (ceM_12 ad cy) hvq7 dX12_wouldBe_121 ?_
      obtain ⟨vq8, σ9, hc, hf⟩ := bd2_e hf
      refine zcali hw (va_runV (As := [.int vq7]) (rest := [.int xq5]) E.fix (c_X12_goes (l := l) hA vq7 σ hc) (zcV E k7_2 k1_14 k6_239 k7_1 kp4_3 mf_X12_goes rfl rfl ⟨Nat.le_of_ble_eq_true rfl, Nat.le_of_ble_eq_true rfl⟩) (zPreV E hw (Nat.le_of_ble_eq_true rfl) (ceM_0 ad cy _) rfl _) rfl rfl hl.1 rfl (lv_room (Nat.le_of_ble_eq_true rfl)) dX12_wouldBe_122 ⟨Nat.zero_le _, Nat.zero_le _⟩) (fun H locs hw => ?_)
      refine lv_goto (tgt := 129) hx hb dX12_wouldBe_125 (by decide) ?_
      refine lv_iadd hx hb dX12_wouldBe_129 ?_
      refine lv_topi (fun vq10 evq10 => ?_)
      replace hf := lt_i evq10 hf
      refine lv_istore (lv' := [(5, .int vq10), (4, .int tq0), (0, .ref (ad 0)), (1, .int xq1), (2, .int xq2), (3, .int xq3), (6, .int xq6)]) hx hb dX12_wouldBe_130 hl (by decide) rfl (fun ls hl => ?_)
      refine lv_iinc (v := (xq6 + 1)) (lv' := [(6, .int (xq6 + 1)), (5, .int vq10), (4, .int tq0), (0, .ref (ad 0)), (1, .int xq1), (2, .int xq2), (3, .int xq3)]) hx hb dX12_wouldBe_132 hl (k := 6) rfl (by rfl) (by decide) rfl (fun ls hl => ?_)
      refine lv_goto (tgt := 37) hx hb dX12_wouldBe_135 (by decide) ?_
      exact hkq37 tq0 vq10 (xq6 + 1) σ9 _ _ _ hw (lv_sub hl [3, 4, 5, 6, 2, 1, 0] rfl) hf
  have hB138 : ∀ (xq4 : Int32) (xq5 : Int32) (σ : Sg) (H : Heap) (locs : List Loc) (ls : Array Slot), ZS D 17 (celM ad cy) ad A s σ H locs → lv_has ls 8 [(0, .ref (ad 0)), (4, .int xq4), (5, .int xq5)] → f_X12_wouldBe_b138 xq4 xq5 σ = some (r, σ9) → W p l e ({ frames := 8, cells := 0, slots := 0, locals := 183 } : Room) s m args below meth c H locs 0 0 (MQ below (zQi D 17 (celM ad cy) ad A r σ9) args s 0 0 A) (F0 m 138 ls []) := by
    intro xq4 xq5 σ H locs ls hw hl hf
    unfold f_X12_wouldBe_b138 at hf
    refine lv_aload_n hx hb dX12_wouldBe_138 rfl (lv_at hl 0 rfl) ?_
    obtain ⟨σ5, hc, hf⟩ := bd_e hf
    refine zcalv hw (va_runV (As := []) (rest := []) E.fix (c_X12_putsBack (l := l) hA σ hc) (zcV E k7_44 k1_14 k7_41 k7_43 kp4_11 mf_X12_putsBack rfl rfl ⟨Nat.le_of_ble_eq_true rfl, Nat.le_of_ble_eq_true rfl⟩) (zPreV E hw (Nat.le_of_ble_eq_true rfl) (ceM_0 ad cy _) rfl _) rfl rfl hl.1 rfl (lv_room (Nat.le_of_ble_eq_true rfl)) dX12_wouldBe_139 ⟨Nat.zero_le _, Nat.zero_le _⟩) (fun H locs hw => ?_)
    refine lv_iload hx hb dX12_wouldBe_142 (lv_at hl 1 rfl) ?_
    refine lv_if_eq (tgt := 152) hx hb dX12_wouldBe_144 (by decide) (fun h => ?_) (fun h => ?_)
    · replace hf := it_t h hf
      refine lv_iload hx hb dX12_wouldBe_152 (lv_at hl 2 rfl) ?_
      exact zreti E hw hr hlk (rt_a hf) (rt_b hf) dX12_wouldBe_154
    · replace hf := it_f h hf
      refine lv_iload hx hb dX12_wouldBe_147 (lv_at hl 1 rfl) ?_
      refine lv_goto (tgt := 154) hx hb dX12_wouldBe_149 (by decide) ?_
      exact zreti E hw hr hlk (rt_a hf) (rt_b hf) dX12_wouldBe_154
  have hB37 : ∀ (xq1 : Int32) (xq2 : Int32) (xq3 : Int32) (kq37 : Int32 → Int32 → Int32 → Sg → Option (Int32 × Sg)) (hkq37 : ∀ (xq4 : Int32) (xq5 : Int32) (xq6 : Int32) (σ : Sg) (H : Heap) (locs : List Loc) (ls : Array Slot), ZS D 17 (celM ad cy) ad A s σ H locs → lv_has ls 8 [(0, .ref (ad 0)), (1, .int xq1), (2, .int xq2), (3, .int xq3), (4, .int xq4), (5, .int xq5), (6, .int xq6)] → kq37 xq4 xq5 xq6 σ = some (r, σ9) → W p l e ({ frames := 8, cells := 0, slots := 0, locals := 183 } : Room) s m args below meth c H locs 0 0 (MQ below (zQi D 17 (celM ad cy) ad A r σ9) args s 0 0 A) (F0 m 37 ls [])) (xq4 : Int32) (xq5 : Int32) (xq6 : Int32) (σ : Sg) (H : Heap) (locs : List Loc) (ls : Array Slot), ZS D 17 (celM ad cy) ad A s σ H locs → lv_has ls 8 [(0, .ref (ad 0)), (1, .int xq1), (2, .int xq2), (3, .int xq3), (4, .int xq4), (5, .int xq5), (6, .int xq6)] → f_X12_wouldBe_b37 kq37 xq1 xq2 xq3 xq4 xq5 xq6 σ = some (r, σ9) → W p l e ({ frames := 8, cells := 0, slots := 0, locals := 183 } : Room) s m args below meth c H locs 0 0 (MQ below (zQi D 17 (celM ad cy) ad A r σ9) args s 0 0 A) (F0 m 37 ls []) := by
    intro xq1 xq2 xq3 kq37 hkq37 xq4 xq5 xq6 σ H locs ls hw hl hf
    unfold f_X12_wouldBe_b37 at hf
    refine lv_iload hx hb dX12_wouldBe_37 (lv_at hl 6 rfl) ?_
    refine lv_iload_n hx hb dX12_wouldBe_39 rfl (lv_at hl 3 rfl) ?_
    refine lv_icmp_ge (tgt := 138) hx hb dX12_wouldBe_40 (by decide) (fun h => ?_) (fun h => ?_)
    · replace hf := it_t h hf
      exact hB138 xq4 xq5 σ _ _ _ hw (lv_sub hl [0, 4, 5] rfl) hf
    · replace hf := it_f h hf
      refine lv_iload hx hb dX12_wouldBe_43 (lv_at hl 4 rfl) ?_
      refine lv_if_ne (tgt := 138) hx hb dX12_wouldBe_45 (by decide) (fun h => ?_) (fun h => ?_)
      · replace hf := it_t h hf
        exact hB138 xq4 xq5 σ _ _ _ hw (lv_sub hl [0, 4, 5] rfl) hf
      · replace hf := it_n h hf
        refine lv_aload_n hx hb dX12_wouldBe_48 rfl (lv_at hl 0 rfl) ?_
        refine lv_iload_n hx hb dX12_wouldBe_49 rfl (lv_at hl 1 rfl) ?_
        refine lv_iload_n hx hb dX12_wouldBe_50 rfl (lv_at hl 2 rfl) ?_
        refine lv_i2l hx hb dX12_wouldBe_51 rfl ?_
        refine lv_iload hx hb dX12_wouldBe_52 (lv_at hl 6 rfl) ?_
        refine lv_i2l hx hb dX12_wouldBe_54 rfl ?_
        refine lv_ladd hx hb dX12_wouldBe_55 ?_
        obtain ⟨vq3, hc, hf⟩ := bd_e hf
        refine zcali hw (va_runV (As := [.int xq1, .long (xq2.toInt64 + xq6.toInt64)]) (rest := []) E.fix (c_X12_isItem (l := l) hA xq1 (xq2.toInt64 + xq6.toInt64) σ hc) (zcV E k8_109 k1_14 k8_106 k8_108 kp6_13 mf_X12_isItem rfl rfl ⟨Nat.le_of_ble_eq_true rfl, Nat.le_of_ble_eq_true rfl⟩) (zPreV E hw (Nat.le_of_ble_eq_true rfl) (ceM_0 ad cy _) rfl _) rfl rfl hl.1 rfl (lv_room (Nat.le_of_ble_eq_true rfl)) dX12_wouldBe_56 ⟨Nat.zero_le _, Nat.zero_le _⟩) (fun H locs hw => ?_)
        refine lv_istore (lv' := [(7, .int (b2i vq3)), (0, .ref (ad 0)), (1, .int xq1), (2, .int xq2), (3, .int xq3), (4, .int xq4), (5, .int xq5), (6, .int xq6)]) hx hb dX12_wouldBe_59 hl (by decide) rfl (fun ls hl => ?_)
        refine lv_iload hx hb dX12_wouldBe_61 (lv_at hl 0 rfl) ?_
        refine lv_if_ne (tgt := 71) hx hb dX12_wouldBe_63 (by decide) (fun h => ?_) (fun h => ?_)
        · replace hf := it_t (b2i_n h) hf
          refine lv_aload_n hx hb dX12_wouldBe_71 rfl (lv_at hl 1 rfl) ?_
          refine lv_aload_n hx hb dX12_wouldBe_72 rfl (lv_at hl 1 rfl) ?_
          refine zget E hw (Nat.le_of_ble_eq_true rfl) (ceM_0 ad cy _) rfl inX12 30 (by decide) k6_13 (fun _ h => h) rfl dX12_wouldBe_73 ?_
          refine lv_bipush (v := 40) hx hb dX12_wouldBe_76 (by decide) ?_
          refine lv_iload_n hx hb dX12_wouldBe_78 rfl (lv_at hl 2 rfl) ?_
          refine lv_imul hx hb dX12_wouldBe_79 ?_
          refine lv_iload_n hx hb dX12_wouldBe_80 rfl (lv_at hl 3 rfl) ?_
          refine lv_iadd hx hb dX12_wouldBe_81 ?_
          refine lv_iload hx hb dX12_wouldBe_82 (lv_at hl 7 rfl) ?_
          refine lv_iadd hx hb dX12_wouldBe_84 ?_
          obtain ⟨vq4, hvq4, hf⟩ := bd_e hf
          refine zaldr E hw (Nat.le_of_ble_eq_true rfl) (ceM_12 ad cy) hvq4 dX12_wouldBe_85 ?_
          refine zcali hw (va_runV (As := [.int vq4]) (rest := []) E.fix (c_X12_isAct (l := l) hA vq4 σ rfl) (zcV E k7_217 k1_14 k7_214 k7_216 kp5_12 mf_X12_isAct rfl rfl ⟨Nat.le_of_ble_eq_true rfl, Nat.le_of_ble_eq_true rfl⟩) (zPreV E hw (Nat.le_of_ble_eq_true rfl) (ceM_0 ad cy _) rfl _) rfl rfl hl.1 rfl (lv_room (Nat.le_of_ble_eq_true rfl)) dX12_wouldBe_86 ⟨Nat.zero_le _, Nat.zero_le _⟩) (fun H locs hw => ?_)
          refine lv_if_ne (tgt := 97) hx hb dX12_wouldBe_89 (by decide) (fun h => ?_) (fun h => ?_)
          · replace hf := it_t (b2i_n h) hf
            refine lv_iconst (v := 0) hx hb dX12_wouldBe_97 (by decide) ?_
            exact hB98 xq1 xq2 xq3 xq5 xq6 0 kq37 hkq37 σ _ _ _ hw (lv_sub hl [1, 2, 3, 4, 6, 7] rfl) hf
          · replace hf := it_f (b2i_0 h) hf
            refine lv_bipush (v := (-4)) hx hb dX12_wouldBe_92 (by decide) ?_
            refine lv_goto (tgt := 98) hx hb dX12_wouldBe_94 (by decide) ?_
            exact hB98 xq1 xq2 xq3 xq5 xq6 (-4) kq37 hkq37 σ _ _ _ hw (lv_sub hl [1, 2, 3, 4, 6, 7] rfl) hf
        · replace hf := it_f (b2i_0 h) hf
          refine lv_bipush (v := (-12)) hx hb dX12_wouldBe_66 (by decide) ?_
          refine lv_goto (tgt := 98) hx hb dX12_wouldBe_68 (by decide) ?_
          exact hB98 xq1 xq2 xq3 xq5 xq6 (-12) kq37 hkq37 σ _ _ _ hw (lv_sub hl [1, 2, 3, 4, 6, 7] rfl) hf
  have hL37 : ∀ (xq1 : Int32) (xq2 : Int32) (xq3 : Int32) (n : Nat) (xq4 : Int32) (xq5 : Int32) (xq6 : Int32) (σ : Sg) (H : Heap) (locs : List Loc) (ls : Array Slot), ZS D 17 (celM ad cy) ad A s σ H locs → lv_has ls 8 [(0, .ref (ad 0)), (1, .int xq1), (2, .int xq2), (3, .int xq3), (4, .int xq4), (5, .int xq5), (6, .int xq6)] → f_X12_wouldBe_l37 xq1 xq2 xq3 n xq4 xq5 xq6 σ = some (r, σ9) → W p l e ({ frames := 8, cells := 0, slots := 0, locals := 183 } : Room) s m args below meth c H locs 0 0 (MQ below (zQi D 17 (celM ad cy) ad A r σ9) args s 0 0 A) (F0 m 37 ls []) := by
    intro xq1 xq2 xq3 n
    induction n with
    | zero =>
      intro xq4 xq5 xq6 σ H locs ls hw hl hf
      exact nn_e hf
    | succ n ih =>
      intro xq4 xq5 xq6 σ H locs ls hw hl hf
      exact hB37 xq1 xq2 xq3 (f_X12_wouldBe_l37 xq1 xq2 xq3 n) ih xq4 xq5 xq6 σ H locs ls hw hl hf
  unfold f_X12_wouldBe at hf
  refine lv_aload_n hx hb dX12_wouldBe_0 rfl (lv_at hl 0 rfl) ?_
  refine lv_iload_n hx hb dX12_wouldBe_1 rfl (lv_at hl 1 rfl) ?_
  refine lv_iload_n hx hb dX12_wouldBe_2 rfl (lv_at hl 3 rfl) ?_
  refine zcali hw (va_runV (As := [.int xq1, .int xq3]) (rest := []) E.fix (c_X12_isSpan (l := l) hA xq1 xq3 σ rfl) (zcV E k8_104 k1_14 k8_101 k8_103 kp6_12 mf_X12_isSpan rfl rfl ⟨Nat.le_of_ble_eq_true rfl, Nat.le_of_ble_eq_true rfl⟩) (zPreV E hw (Nat.le_of_ble_eq_true rfl) (ceM_0 ad cy _) rfl _) rfl rfl hl.1 rfl (lv_room (Nat.le_of_ble_eq_true rfl)) dX12_wouldBe_3 ⟨Nat.zero_le _, Nat.zero_le _⟩) (fun H locs hw => ?_)
  refine lv_if_ne (tgt := 11) hx hb dX12_wouldBe_6 (by decide) (fun h => ?_) (fun h => ?_)
  · replace hf := it_t (b2i_n h) hf
    refine lv_aload_n hx hb dX12_wouldBe_11 rfl (lv_at hl 0 rfl) ?_
    refine lv_iload_n hx hb dX12_wouldBe_12 rfl (lv_at hl 1 rfl) ?_
    refine lv_iconst (v := 0) hx hb dX12_wouldBe_13 (by decide) ?_
    obtain ⟨vq1, hc, hf⟩ := bd_e hf
    refine zcali hw (va_runV (As := [.int xq1, .int 0]) (rest := []) E.fix (c_X12_whyNot (l := l) hA xq1 0 σ hc) (zcV E k8_96 k1_14 k8_93 k8_95 kp6_11 mf_X12_whyNot rfl rfl ⟨Nat.le_of_ble_eq_true rfl, Nat.le_of_ble_eq_true rfl⟩) (zPreV E hw (Nat.le_of_ble_eq_true rfl) (ceM_0 ad cy _) rfl _) rfl rfl hl.1 rfl (lv_room (Nat.le_of_ble_eq_true rfl)) dX12_wouldBe_14 ⟨Nat.zero_le _, Nat.zero_le _⟩) (fun H locs hw => ?_)
    refine lv_istore (lv' := [(4, .int vq1), (0, .ref (ad 0)), (1, .int xq1), (2, .int xq2), (3, .int xq3)]) hx hb dX12_wouldBe_17 hl (by decide) rfl (fun ls hl => ?_)
    refine lv_iload hx hb dX12_wouldBe_19 (lv_at hl 0 rfl) ?_
    refine lv_if_eq (tgt := 27) hx hb dX12_wouldBe_21 (by decide) (fun h => ?_) (fun h => ?_)
    · replace hf := it_t h hf
      refine lv_aload_n hx hb dX12_wouldBe_27 rfl (lv_at hl 1 rfl) ?_
      obtain ⟨σ2, hc, hf⟩ := bd_e hf
      refine zcalv hw (va_runV (As := []) (rest := []) E.fix (c_X12_puts (l := l) hA σ hc) (zcV E k7_36 k1_14 k7_33 k7_35 kp4_9 mf_X12_puts rfl rfl ⟨Nat.le_of_ble_eq_true rfl, Nat.le_of_ble_eq_true rfl⟩) (zPreV E hw (Nat.le_of_ble_eq_true rfl) (ceM_0 ad cy _) rfl _) rfl rfl hl.1 rfl (lv_room (Nat.le_of_ble_eq_true rfl)) dX12_wouldBe_28 ⟨Nat.zero_le _, Nat.zero_le _⟩) (fun H locs hw => ?_)
      refine lv_iconst (v := 0) hx hb dX12_wouldBe_31 (by decide) ?_
      refine lv_istore (lv' := [(5, .int 0), (4, .int vq1), (0, .ref (ad 0)), (1, .int xq1), (2, .int xq2), (3, .int xq3)]) hx hb dX12_wouldBe_32 hl (by decide) rfl (fun ls hl => ?_)
      refine lv_iconst (v := 0) hx hb dX12_wouldBe_34 (by decide) ?_
      refine lv_istore (lv' := [(6, .int 0), (5, .int 0), (4, .int vq1), (0, .ref (ad 0)), (1, .int xq1), (2, .int xq2), (3, .int xq3)]) hx hb dX12_wouldBe_35 hl (by decide) rfl (fun ls hl => ?_)
      exact hL37 xq1 xq2 xq3 400 vq1 0 0 σ2 _ _ _ hw (lv_sub hl [3, 4, 5, 6, 2, 1, 0] rfl) hf
    · replace hf := it_f h hf
      refine lv_iload hx hb dX12_wouldBe_24 (lv_at hl 0 rfl) ?_
      exact zreti E hw hr hlk (rt_a hf) (rt_b hf) dX12_wouldBe_26
  · replace hf := it_f (b2i_0 h) hf
    refine lv_iconst (v := (-1)) hx hb dX12_wouldBe_9 (by decide) ?_
    exact zreti E hw hr hlk (rt_a hf) (rt_b hf) dX12_wouldBe_10
set_option maxRecDepth 100000 in
set_option maxHeartbeats 4000000 in
theorem c_X12_shelf {l : Launch} {D : va_G} {cy : Cy} {ad : Nat → Nat} {A : Nat → Prop} (hA : okAd 17 ad A) (xq1 : Int32) (xq2 : Int32) (xq3 : Int32) (σ : Sg) {r : Int32} {σ9 : Sg} (hf : f_X12_shelf xq1 xq2 xq3 σ = some (r, σ9)) : Met l yX12_shelf (.code yX12_shelf cX12_shelf 4 (some .int) :: TT) ({ frames := 2, cells := 0, slots := 0, locals := 46 } : Room) (zPc D cy 17 (celM ad cy) ad A [.ref (ad 0), .int xq1, .int xq2, .int xq3] σ) (zQi D 17 (celM ad cy) ad A r σ9) 0 0 A := by
  refine zofW (by decide) hA (Nat.le_of_ble_eq_true rfl) ?_
  intro p e s m args below meth c ls E hw hr hlk hl
  have E : ZE p s m args c cX12_shelf 4 "KiteSummonsModel" D cy 17 ad A := E
  have hx := E.hx
  have hb := E.hb
  have hl : lv_has ls 4 [(0, .ref (ad 0)), (1, .int xq1), (2, .int xq2), (3, .int xq3)] := hl
  have hB106 : ∀ (xq1 : Int32) (xq2 : Int32) (xq3 : Int32) (tq1 : Int32) (tq2 : Int32) (σ : Sg) (H : Heap) (locs : List Loc) (ls : Array Slot), ZS D 17 (celM ad cy) ad A s σ H locs → lv_has ls 4 [(0, .ref (ad 0)), (1, .int xq1), (2, .int xq2), (3, .int xq3)] → f_X12_shelf_b106 xq1 xq2 xq3 tq1 tq2 σ = some (r, σ9) → W p l e ({ frames := 2, cells := 0, slots := 0, locals := 46 } : Room) s m args below meth c H locs 0 0 (MQ below (zQi D 17 (celM ad cy) ad A r σ9) args s 0 0 A) (F0 m 106 ls [.int tq2, .int tq1, .ref (ad 14)]) := by
    intro xq1 xq2 xq3 tq1 tq2 σ H locs ls hw hl hf
    unfold f_X12_shelf_b106 at hf
    obtain ⟨σ4, hσ4, hf⟩ := bd_e hf
    refine zastr E hw (Nat.le_of_ble_eq_true rfl) (ceM_14 ad cy) hσ4 dX12_shelf_106 (fun H locs hw => ?_)
    refine lv_aload_n hx hb dX12_shelf_107 rfl (lv_at hl 0 rfl) ?_
    refine zget E hw (Nat.le_of_ble_eq_true rfl) (ceM_0 ad cy _) rfl inX12 33 (by decide) k6_16 (fun _ h => h) rfl dX12_shelf_108 ?_
    refine lv_iload_n hx hb dX12_shelf_111 rfl (lv_at hl 1 rfl) ?_
    refine lv_iload_n hx hb dX12_shelf_112 rfl (lv_at hl 2 rfl) ?_
    refine lv_iconst (v := 1) hx hb dX12_shelf_113 (by decide) ?_
    refine lv_icmp_ne (tgt := 126) hx hb dX12_shelf_114 (by decide) (fun h => ?_) (fun h => ?_)
    · replace hf := it_t h hf
      refine lv_iconst (v := 0) hx hb dX12_shelf_126 (by decide) ?_
      obtain ⟨σ5, hσ5, hf⟩ := bd_e hf
      refine zastr E hw (Nat.le_of_ble_eq_true rfl) (ceM_15 ad cy) hσ5 dX12_shelf_127 (fun H locs hw => ?_)
      refine lv_iconst (v := 1) hx hb dX12_shelf_128 (by decide) ?_
      exact zreti E hw hr hlk (rt_a hf) (rt_b hf) dX12_shelf_129
    · replace hf := it_n h hf
      refine lv_aload_n hx hb dX12_shelf_117 rfl (lv_at hl 0 rfl) ?_
      refine zget E hw (Nat.le_of_ble_eq_true rfl) (ceM_0 ad cy _) rfl inX12 28 (by decide) k6_11 (fun _ h => h) rfl dX12_shelf_118 ?_
      refine lv_iload_n hx hb dX12_shelf_121 rfl (lv_at hl 3 rfl) ?_
      obtain ⟨vq6, hvq6, hf⟩ := bd_e hf
      refine zaldr E hw (Nat.le_of_ble_eq_true rfl) (ceM_10 ad cy) hvq6 dX12_shelf_122 ?_
      refine lv_goto (tgt := 127) hx hb dX12_shelf_123 (by decide) ?_
      obtain ⟨σ7, hσ7, hf⟩ := bd_e hf
      refine zastr E hw (Nat.le_of_ble_eq_true rfl) (ceM_15 ad cy) hσ7 dX12_shelf_127 (fun H locs hw => ?_)
      refine lv_iconst (v := 1) hx hb dX12_shelf_128 (by decide) ?_
      exact zreti E hw hr hlk (rt_a hf) (rt_b hf) dX12_shelf_129
  have hB77 : ∀ (xq1 : Int32) (xq2 : Int32) (xq3 : Int32) (tq1 : Int32) (tq2 : Int32) (σ : Sg) (H : Heap) (locs : List Loc) (ls : Array Slot), ZS D 17 (celM ad cy) ad A s σ H locs → lv_has ls 4 [(0, .ref (ad 0)), (1, .int xq1), (2, .int xq2), (3, .int xq3)] → f_X12_shelf_b77 xq1 xq2 xq3 tq1 tq2 σ = some (r, σ9) → W p l e ({ frames := 2, cells := 0, slots := 0, locals := 46 } : Room) s m args below meth c H locs 0 0 (MQ below (zQi D 17 (celM ad cy) ad A r σ9) args s 0 0 A) (F0 m 77 ls [.int tq2, .int tq1, .ref (ad 13)]) := by
    intro xq1 xq2 xq3 tq1 tq2 σ H locs ls hw hl hf
    unfold f_X12_shelf_b77 at hf
    obtain ⟨σ2, hσ2, hf⟩ := bd_e hf
    refine zastr E hw (Nat.le_of_ble_eq_true rfl) (ceM_13 ad cy) hσ2 dX12_shelf_77 (fun H locs hw => ?_)
    refine lv_aload_n hx hb dX12_shelf_78 rfl (lv_at hl 0 rfl) ?_
    refine zget E hw (Nat.le_of_ble_eq_true rfl) (ceM_0 ad cy _) rfl inX12 32 (by decide) k6_15 (fun _ h => h) rfl dX12_shelf_79 ?_
    refine lv_iload_n hx hb dX12_shelf_82 rfl (lv_at hl 1 rfl) ?_
    refine lv_iload_n hx hb dX12_shelf_83 rfl (lv_at hl 2 rfl) ?_
    refine lv_if_ne (tgt := 91) hx hb dX12_shelf_84 (by decide) (fun h => ?_) (fun h => ?_)
    · replace hf := it_t h hf
      refine lv_iload_n hx hb dX12_shelf_91 rfl (lv_at hl 2 rfl) ?_
      refine lv_iconst (v := 1) hx hb dX12_shelf_92 (by decide) ?_
      refine lv_icmp_ne (tgt := 105) hx hb dX12_shelf_93 (by decide) (fun h => ?_) (fun h => ?_)
      · replace hf := it_t h hf
        refine lv_iconst (v := 0) hx hb dX12_shelf_105 (by decide) ?_
        exact hB106 xq1 xq2 xq3 xq1 0 σ2 _ _ _ hw (lv_sub hl [0, 1, 2, 3] rfl) hf
      · replace hf := it_n h hf
        refine lv_aload_n hx hb dX12_shelf_96 rfl (lv_at hl 0 rfl) ?_
        refine zget E hw (Nat.le_of_ble_eq_true rfl) (ceM_0 ad cy _) rfl inX12 29 (by decide) k6_12 (fun _ h => h) rfl dX12_shelf_97 ?_
        refine lv_iload_n hx hb dX12_shelf_100 rfl (lv_at hl 3 rfl) ?_
        obtain ⟨vq3, hvq3, hf⟩ := bd_e hf
        refine zaldr E hw (Nat.le_of_ble_eq_true rfl) (ceM_11 ad cy) hvq3 dX12_shelf_101 ?_
        refine lv_goto (tgt := 106) hx hb dX12_shelf_102 (by decide) ?_
        exact hB106 xq1 xq2 xq3 xq1 vq3 σ2 _ _ _ hw (lv_sub hl [0, 1, 2, 3] rfl) hf
    · replace hf := it_n h hf
      refine lv_iload_n hx hb dX12_shelf_87 rfl (lv_at hl 3 rfl) ?_
      refine lv_goto (tgt := 106) hx hb dX12_shelf_88 (by decide) ?_
      exact hB106 xq1 xq2 xq3 xq1 xq3 σ2 _ _ _ hw (lv_sub hl [0, 1, 2, 3] rfl) hf
  have hB45 : ∀ (xq1 : Int32) (xq2 : Int32) (xq3 : Int32) (σ : Sg) (H : Heap) (locs : List Loc) (ls : Array Slot), ZS D 17 (celM ad cy) ad A s σ H locs → lv_has ls 4 [(0, .ref (ad 0)), (1, .int xq1), (2, .int xq2), (3, .int xq3)] → f_X12_shelf_b45 xq1 xq2 xq3 σ = some (r, σ9) → W p l e ({ frames := 2, cells := 0, slots := 0, locals := 46 } : Room) s m args below meth c H locs 0 0 (MQ below (zQi D 17 (celM ad cy) ad A r σ9) args s 0 0 A) (F0 m 45 ls []) := by
    intro xq1 xq2 xq3 σ H locs ls hw hl hf
    unfold f_X12_shelf_b45 at hf
    refine lv_aload_n hx hb dX12_shelf_45 rfl (lv_at hl 0 rfl) ?_
    refine zget E hw (Nat.le_of_ble_eq_true rfl) (ceM_0 ad cy _) rfl inX12 31 (by decide) k6_14 (fun _ h => h) rfl dX12_shelf_46 ?_
    refine lv_iload_n hx hb dX12_shelf_49 rfl (lv_at hl 1 rfl) ?_
    refine lv_iload_n hx hb dX12_shelf_50 rfl (lv_at hl 2 rfl) ?_
    refine lv_if_ne (tgt := 58) hx hb dX12_shelf_51 (by decide) (fun h => ?_) (fun h => ?_)
    · replace hf := it_t h hf
      refine lv_iload_n hx hb dX12_shelf_58 rfl (lv_at hl 2 rfl) ?_
      refine lv_iconst (v := 1) hx hb dX12_shelf_59 (by decide) ?_
      refine lv_icmp_ne (tgt := 76) hx hb dX12_shelf_60 (by decide) (fun h => ?_) (fun h => ?_)
      · replace hf := it_t h hf
        refine lv_iconst (v := 0) hx hb dX12_shelf_76 (by decide) ?_
        exact hB77 xq1 xq2 xq3 xq1 0 σ _ _ _ hw (lv_sub hl [0, 1, 2, 3] rfl) hf
      · replace hf := it_n h hf
        refine lv_aload_n hx hb dX12_shelf_63 rfl (lv_at hl 0 rfl) ?_
        refine zget E hw (Nat.le_of_ble_eq_true rfl) (ceM_0 ad cy _) rfl inX12 28 (by decide) k6_11 (fun _ h => h) rfl dX12_shelf_64 ?_
        refine lv_iload_n hx hb dX12_shelf_67 rfl (lv_at hl 3 rfl) ?_
        obtain ⟨vq1, hvq1, hf⟩ := bd_e hf
        refine zaldr E hw (Nat.le_of_ble_eq_true rfl) (ceM_10 ad cy) hvq1 dX12_shelf_68 ?_
        refine lv_if_lt (tgt := 76) hx hb dX12_shelf_69 (by decide) (fun h => ?_) (fun h => ?_)
        · replace hf := it_t h hf
          refine lv_iconst (v := 0) hx hb dX12_shelf_76 (by decide) ?_
          exact hB77 xq1 xq2 xq3 xq1 0 σ _ _ _ hw (lv_sub hl [0, 1, 2, 3] rfl) hf
        · replace hf := it_f h hf
          refine lv_iconst (v := 2) hx hb dX12_shelf_72 (by decide) ?_
          refine lv_goto (tgt := 77) hx hb dX12_shelf_73 (by decide) ?_
          exact hB77 xq1 xq2 xq3 xq1 2 σ _ _ _ hw (lv_sub hl [0, 1, 2, 3] rfl) hf
    · replace hf := it_n h hf
      refine lv_iconst (v := 1) hx hb dX12_shelf_54 (by decide) ?_
      refine lv_goto (tgt := 77) hx hb dX12_shelf_55 (by decide) ?_
      exact hB77 xq1 xq2 xq3 xq1 1 σ _ _ _ hw (lv_sub hl [0, 1, 2, 3] rfl) hf
  have hB31 : ∀ (xq1 : Int32) (xq2 : Int32) (xq3 : Int32) (σ : Sg) (H : Heap) (locs : List Loc) (ls : Array Slot), ZS D 17 (celM ad cy) ad A s σ H locs → lv_has ls 4 [(0, .ref (ad 0)), (1, .int xq1), (2, .int xq2), (3, .int xq3)] → f_X12_shelf_b31 xq1 xq2 xq3 σ = some (r, σ9) → W p l e ({ frames := 2, cells := 0, slots := 0, locals := 46 } : Room) s m args below meth c H locs 0 0 (MQ below (zQi D 17 (celM ad cy) ad A r σ9) args s 0 0 A) (F0 m 31 ls []) := by
    intro xq1 xq2 xq3 σ H locs ls hw hl hf
    unfold f_X12_shelf_b31 at hf
    refine lv_iload_n hx hb dX12_shelf_31 rfl (lv_at hl 2 rfl) ?_
    refine lv_iconst (v := 1) hx hb dX12_shelf_32 (by decide) ?_
    refine lv_icmp_ne (tgt := 45) hx hb dX12_shelf_33 (by decide) (fun h => ?_) (fun h => ?_)
    · replace hf := it_t h hf
      exact hB45 xq1 xq2 xq3 σ _ _ _ hw (lv_sub hl [0, 1, 2, 3] rfl) hf
    · replace hf := it_n h hf
      refine lv_iload_n hx hb dX12_shelf_36 rfl (lv_at hl 3 rfl) ?_
      refine zcali hw (va_runS (As := [.int xq3]) (rest := []) E.fix (c_X12_isOne (l := l) hA xq3 σ rfl) (zcS E k8_80 k1_14 k8_78 k8_79 mf_X12_isOne rfl rfl ⟨Nat.le_of_ble_eq_true rfl, Nat.le_of_ble_eq_true rfl⟩) (zPre E hw _) rfl rfl hl.1 rfl (lv_room (Nat.le_of_ble_eq_true rfl)) dX12_shelf_37 ⟨Nat.zero_le _, Nat.zero_le _⟩) (fun H locs hw => ?_)
      refine lv_if_ne (tgt := 45) hx hb dX12_shelf_40 (by decide) (fun h => ?_) (fun h => ?_)
      · replace hf := it_t (b2i_n h) hf
        exact hB45 xq1 xq2 xq3 σ _ _ _ hw (lv_sub hl [0, 1, 2, 3] rfl) hf
      · replace hf := it_f (b2i_0 h) hf
        refine lv_iconst (v := (-1)) hx hb dX12_shelf_43 (by decide) ?_
        exact zreti E hw hr hlk (rt_a hf) (rt_b hf) dX12_shelf_44
  unfold f_X12_shelf at hf
  refine lv_iload_n hx hb dX12_shelf_0 rfl (lv_at hl 1 rfl) ?_
  refine zcali hw (va_runS (As := [.int xq1]) (rest := []) E.fix (c_X12_isOne (l := l) hA xq1 σ rfl) (zcS E k8_80 k1_14 k8_78 k8_79 mf_X12_isOne rfl rfl ⟨Nat.le_of_ble_eq_true rfl, Nat.le_of_ble_eq_true rfl⟩) (zPre E hw _) rfl rfl hl.1 rfl (lv_room (Nat.le_of_ble_eq_true rfl)) dX12_shelf_1 ⟨Nat.zero_le _, Nat.zero_le _⟩) (fun H locs hw => ?_)
  refine lv_if_eq (tgt := 43) hx hb dX12_shelf_4 (by decide) (fun h => ?_) (fun h => ?_)
  · replace hf := it_f (b2i_0 h) hf
    refine lv_iconst (v := (-1)) hx hb dX12_shelf_43 (by decide) ?_
    exact zreti E hw hr hlk (rt_a hf) (rt_b hf) dX12_shelf_44
  · replace hf := it_t (b2i_n h) hf
    refine lv_iload_n hx hb dX12_shelf_7 rfl (lv_at hl 2 rfl) ?_
    refine lv_i2l hx hb dX12_shelf_8 rfl ?_
    refine lv_lconst (v := 0) hx hb dX12_shelf_9 (by decide) ?_
    refine lv_ldc2 (v := 2) hx hb E.hown (E.ht _ k7_158) dX12_shelf_10 ?_
    refine zcali hw (va_runS (As := [.long xq2.toInt64, .long (0 : Int64), .long (2 : Int64)]) (rest := []) E.fix (c_X12_in (l := l) hA xq2.toInt64 (0 : Int64) (2 : Int64) σ rfl) (zcS E k6_114 k1_14 k6_112 k6_113 mf_X12_in rfl rfl ⟨Nat.le_of_ble_eq_true rfl, Nat.le_of_ble_eq_true rfl⟩) (zPre E hw _) rfl rfl hl.1 rfl (lv_room (Nat.le_of_ble_eq_true rfl)) dX12_shelf_13 ⟨Nat.zero_le _, Nat.zero_le _⟩) (fun H locs hw => ?_)
    refine lv_if_eq (tgt := 43) hx hb dX12_shelf_16 (by decide) (fun h => ?_) (fun h => ?_)
    · replace hf := it_f (b2i_0 h) hf
      refine lv_iconst (v := (-1)) hx hb dX12_shelf_43 (by decide) ?_
      exact zreti E hw hr hlk (rt_a hf) (rt_b hf) dX12_shelf_44
    · replace hf := it_t (b2i_n h) hf
      refine lv_iload_n hx hb dX12_shelf_19 rfl (lv_at hl 2 rfl) ?_
      refine lv_if_ne (tgt := 31) hx hb dX12_shelf_20 (by decide) (fun h => ?_) (fun h => ?_)
      · replace hf := it_t h hf
        exact hB31 xq1 xq2 xq3 σ _ _ _ hw (lv_sub hl [0, 1, 2, 3] rfl) hf
      · replace hf := it_n h hf
        refine lv_aload_n hx hb dX12_shelf_23 rfl (lv_at hl 0 rfl) ?_
        refine lv_iload_n hx hb dX12_shelf_24 rfl (lv_at hl 3 rfl) ?_
        refine zcali hw (va_runV (As := [.int xq3]) (rest := []) E.fix (c_X12_isKite (l := l) hA xq3 σ rfl) (zcV E k6_137 k1_14 k6_134 k6_136 kp3_7 mf_X12_isKite rfl rfl ⟨Nat.le_of_ble_eq_true rfl, Nat.le_of_ble_eq_true rfl⟩) (zPreV E hw (Nat.le_of_ble_eq_true rfl) (ceM_0 ad cy _) rfl _) rfl rfl hl.1 rfl (lv_room (Nat.le_of_ble_eq_true rfl)) dX12_shelf_25 ⟨Nat.zero_le _, Nat.zero_le _⟩) (fun H locs hw => ?_)
        refine lv_if_eq (tgt := 43) hx hb dX12_shelf_28 (by decide) (fun h => ?_) (fun h => ?_)
        · replace hf := it_f (b2i_0 h) hf
          refine lv_iconst (v := (-1)) hx hb dX12_shelf_43 (by decide) ?_
          exact zreti E hw hr hlk (rt_a hf) (rt_b hf) dX12_shelf_44
        · replace hf := it_t (b2i_n h) hf
          exact hB31 xq1 xq2 xq3 σ _ _ _ hw (lv_sub hl [0, 1, 2, 3] rfl) hf
set_option maxRecDepth 100000 in
set_option maxHeartbeats 4000000 in
theorem c_X12_onShelf {l : Launch} {D : va_G} {cy : Cy} {ad : Nat → Nat} {A : Nat → Prop} (hA : okAd 17 ad A) (xq1 : Int32) (σ : Sg) {r : Int32} (hf : f_X12_onShelf xq1 σ = some r) : Met l yX12_onShelf (.code yX12_onShelf cX12_onShelf 2 (some .int) :: TT) ({ frames := 2, cells := 0, slots := 0, locals := 46 } : Room) (zPc D cy 17 (celM ad cy) ad A [.ref (ad 0), .int xq1] σ) (zQi D 17 (celM ad cy) ad A r σ) 0 0 A := by
  refine zofW (by decide) hA (Nat.le_of_ble_eq_true rfl) ?_
  intro p e s m args below meth c ls E hw hr hlk hl
  have E : ZE p s m args c cX12_onShelf 2 "KiteSummonsModel" D cy 17 ad A := E
  have hx := E.hx
  have hb := E.hb
  have hl : lv_has ls 2 [(0, .ref (ad 0)), (1, .int xq1)] := hl
  unfold f_X12_onShelf at hf
  refine lv_iload_n hx hb dX12_onShelf_0 rfl (lv_at hl 1 rfl) ?_
  refine zcali hw (va_runS (As := [.int xq1]) (rest := []) E.fix (c_X12_isOne (l := l) hA xq1 σ rfl) (zcS E k8_80 k1_14 k8_78 k8_79 mf_X12_isOne rfl rfl ⟨Nat.le_of_ble_eq_true rfl, Nat.le_of_ble_eq_true rfl⟩) (zPre E hw _) rfl rfl hl.1 rfl (lv_room (Nat.le_of_ble_eq_true rfl)) dX12_onShelf_1 ⟨Nat.zero_le _, Nat.zero_le _⟩) (fun H locs hw => ?_)
  refine lv_if_eq (tgt := 39) hx hb dX12_onShelf_4 (by decide) (fun h => ?_) (fun h => ?_)
  · replace hf := it_f (b2i_0 h) hf
    refine lv_iconst (v := (-1)) hx hb dX12_onShelf_39 (by decide) ?_
    exact zreti E hw hr hlk (rt_1 hf) rfl dX12_onShelf_40
  · replace hf := it_t (b2i_n h) hf
    refine lv_aload_n hx hb dX12_onShelf_7 rfl (lv_at hl 0 rfl) ?_
    refine zget E hw (Nat.le_of_ble_eq_true rfl) (ceM_0 ad cy _) rfl inX12 31 (by decide) k6_14 (fun _ h => h) rfl dX12_onShelf_8 ?_
    refine lv_iload_n hx hb dX12_onShelf_11 rfl (lv_at hl 1 rfl) ?_
    obtain ⟨vq1, hvq1, hf⟩ := bd_e hf
    refine zaldr E hw (Nat.le_of_ble_eq_true rfl) (ceM_13 ad cy) hvq1 dX12_onShelf_12 ?_
    refine lv_iconst (v := 1) hx hb dX12_onShelf_13 (by decide) ?_
    refine lv_icmp_ne (tgt := 39) hx hb dX12_onShelf_14 (by decide) (fun h => ?_) (fun h => ?_)
    · replace hf := it_t h hf
      refine lv_iconst (v := (-1)) hx hb dX12_onShelf_39 (by decide) ?_
      exact zreti E hw hr hlk (rt_1 hf) rfl dX12_onShelf_40
    · replace hf := it_n h hf
      refine lv_aload_n hx hb dX12_onShelf_17 rfl (lv_at hl 0 rfl) ?_
      refine lv_aload_n hx hb dX12_onShelf_18 rfl (lv_at hl 0 rfl) ?_
      refine zget E hw (Nat.le_of_ble_eq_true rfl) (ceM_0 ad cy _) rfl inX12 32 (by decide) k6_15 (fun _ h => h) rfl dX12_onShelf_19 ?_
      refine lv_iload_n hx hb dX12_onShelf_22 rfl (lv_at hl 1 rfl) ?_
      obtain ⟨vq2, hvq2, hf⟩ := bd_e hf
      refine zaldr E hw (Nat.le_of_ble_eq_true rfl) (ceM_14 ad cy) hvq2 dX12_onShelf_23 ?_
      refine zcali hw (va_runV (As := [.int vq2]) (rest := []) E.fix (c_X12_isKite (l := l) hA vq2 σ rfl) (zcV E k6_137 k1_14 k6_134 k6_136 kp3_7 mf_X12_isKite rfl rfl ⟨Nat.le_of_ble_eq_true rfl, Nat.le_of_ble_eq_true rfl⟩) (zPreV E hw (Nat.le_of_ble_eq_true rfl) (ceM_0 ad cy _) rfl _) rfl rfl hl.1 rfl (lv_room (Nat.le_of_ble_eq_true rfl)) dX12_onShelf_24 ⟨Nat.zero_le _, Nat.zero_le _⟩) (fun H locs hw => ?_)
      refine lv_if_eq (tgt := 39) hx hb dX12_onShelf_27 (by decide) (fun h => ?_) (fun h => ?_)
      · replace hf := it_f (b2i_0 h) hf
        refine lv_iconst (v := (-1)) hx hb dX12_onShelf_39 (by decide) ?_
        exact zreti E hw hr hlk (rt_1 hf) rfl dX12_onShelf_40
      · replace hf := it_t (b2i_n h) hf
        refine lv_aload_n hx hb dX12_onShelf_30 rfl (lv_at hl 0 rfl) ?_
        refine zget E hw (Nat.le_of_ble_eq_true rfl) (ceM_0 ad cy _) rfl inX12 32 (by decide) k6_15 (fun _ h => h) rfl dX12_onShelf_31 ?_
        refine lv_iload_n hx hb dX12_onShelf_34 rfl (lv_at hl 1 rfl) ?_
        obtain ⟨vq3, hvq3, hf⟩ := bd_e hf
        refine zaldr E hw (Nat.le_of_ble_eq_true rfl) (ceM_14 ad cy) hvq3 dX12_onShelf_35 ?_
        refine lv_goto (tgt := 40) hx hb dX12_onShelf_36 (by decide) ?_
        exact zreti E hw hr hlk (rt_1 hf) rfl dX12_onShelf_40
set_option maxRecDepth 100000 in
set_option maxHeartbeats 4000000 in
theorem c_X12_taken {l : Launch} {D : va_G} {cy : Cy} {ad : Nat → Nat} {A : Nat → Prop} (hA : okAd 17 ad A) (xq1 : Int32) (xq2 : Int32) (σ : Sg) {r : Int32} (hf : f_X12_taken xq1 xq2 σ = some r) : Met l yX12_taken (.code yX12_taken cX12_taken 5 (some .int) :: TT) ({ frames := 3, cells := 0, slots := 0, locals := 67 } : Room) (zPc D cy 17 (celM ad cy) ad A [.ref (ad 0), .int xq1, .int xq2] σ) (zQi D 17 (celM ad cy) ad A r σ) 0 0 A := by
  refine zofW (by decide) hA (Nat.le_of_ble_eq_true rfl) ?_
  intro p e s m args below meth c ls E hw hr hlk hl
  have E : ZE p s m args c cX12_taken 5 "KiteSummonsModel" D cy 17 ad A := E
  have hx := E.hx
  have hb := E.hb
  have hl : lv_has ls 5 [(0, .ref (ad 0)), (1, .int xq1), (2, .int xq2)] := hl
  have hB107 : ∀ (xq1 : Int32) (tq0 : Int32) (H : Heap) (locs : List Loc) (ls : Array Slot), ZS D 17 (celM ad cy) ad A s σ H locs → lv_has ls 5 [(0, .ref (ad 0)), (1, .int xq1)] → f_X12_taken_b107 xq1 tq0 σ = some r → W p l e ({ frames := 3, cells := 0, slots := 0, locals := 67 } : Room) s m args below meth c H locs 0 0 (MQ below (zQi D 17 (celM ad cy) ad A r σ) args s 0 0 A) (F0 m 107 ls [.int tq0]) := by
    intro xq1 tq0 H locs ls hw hl hf
    unfold f_X12_taken_b107 at hf
    refine lv_istore (lv' := [(4, .int tq0), (0, .ref (ad 0)), (1, .int xq1)]) hx hb dX12_taken_107 hl (by decide) rfl (fun ls hl => ?_)
    refine lv_iload hx hb dX12_taken_109 (lv_at hl 0 rfl) ?_
    refine lv_if_eq (tgt := 123) hx hb dX12_taken_111 (by decide) (fun h => ?_) (fun h => ?_)
    · replace hf := it_t h hf
      refine lv_bipush (v := (-13)) hx hb dX12_taken_123 (by decide) ?_
      exact zreti E hw hr hlk (rt_1 hf) rfl dX12_taken_125
    · replace hf := it_f h hf
      refine lv_aload_n hx hb dX12_taken_114 rfl (lv_at hl 1 rfl) ?_
      refine zget E hw (Nat.le_of_ble_eq_true rfl) (ceM_0 ad cy _) rfl inX12 32 (by decide) k6_15 (fun _ h => h) rfl dX12_taken_115 ?_
      refine lv_iload_n hx hb dX12_taken_118 rfl (lv_at hl 2 rfl) ?_
      obtain ⟨vq5, hvq5, hf⟩ := bd_e hf
      refine zaldr E hw (Nat.le_of_ble_eq_true rfl) (ceM_14 ad cy) hvq5 dX12_taken_119 ?_
      refine lv_goto (tgt := 125) hx hb dX12_taken_120 (by decide) ?_
      exact zreti E hw hr hlk (rt_1 hf) rfl dX12_taken_125
  have hB58 : ∀ (xq1 : Int32) (xq2 : Int32) (xq3 : Int32) (H : Heap) (locs : List Loc) (ls : Array Slot), ZS D 17 (celM ad cy) ad A s σ H locs → lv_has ls 5 [(0, .ref (ad 0)), (1, .int xq1), (2, .int xq2), (3, .int xq3)] → f_X12_taken_b58 xq1 xq2 xq3 σ = some r → W p l e ({ frames := 3, cells := 0, slots := 0, locals := 67 } : Room) s m args below meth c H locs 0 0 (MQ below (zQi D 17 (celM ad cy) ad A r σ) args s 0 0 A) (F0 m 58 ls []) := by
    intro xq1 xq2 xq3 H locs ls hw hl hf
    unfold f_X12_taken_b58 at hf
    refine lv_iload_n hx hb dX12_taken_58 rfl (lv_at hl 3 rfl) ?_
    refine lv_if_lt (tgt := 89) hx hb dX12_taken_59 (by decide) (fun h => ?_) (fun h => ?_)
    · replace hf := it_t h hf
      refine lv_iload_n hx hb dX12_taken_89 rfl (lv_at hl 2 rfl) ?_
      refine lv_bipush (v := 10) hx hb dX12_taken_90 (by decide) ?_
      refine lv_isub hx hb dX12_taken_92 ?_
      refine lv_aload_n hx hb dX12_taken_93 rfl (lv_at hl 0 rfl) ?_
      refine zget E hw (Nat.le_of_ble_eq_true rfl) (ceM_0 ad cy _) rfl inX12 33 (by decide) k6_16 (fun _ h => h) rfl dX12_taken_94 ?_
      refine lv_iload_n hx hb dX12_taken_97 rfl (lv_at hl 1 rfl) ?_
      obtain ⟨vq3, hvq3, hf⟩ := bd_e hf
      refine zaldr E hw (Nat.le_of_ble_eq_true rfl) (ceM_15 ad cy) hvq3 dX12_taken_98 ?_
      refine lv_icmp_ne (tgt := 106) hx hb dX12_taken_99 (by decide) (fun h => ?_) (fun h => ?_)
      · replace hf := it_t h hf
        refine lv_iconst (v := 0) hx hb dX12_taken_106 (by decide) ?_
        exact hB107 xq1 0 _ _ _ hw (lv_sub hl [0, 1] rfl) hf
      · replace hf := it_n h hf
        refine lv_iconst (v := 1) hx hb dX12_taken_102 (by decide) ?_
        refine lv_goto (tgt := 107) hx hb dX12_taken_103 (by decide) ?_
        exact hB107 xq1 1 _ _ _ hw (lv_sub hl [0, 1] rfl) hf
    · replace hf := it_f h hf
      refine lv_iload_n hx hb dX12_taken_62 rfl (lv_at hl 2 rfl) ?_
      refine lv_bipush (v := 6) hx hb dX12_taken_63 (by decide) ?_
      refine lv_icmp_ge (tgt := 85) hx hb dX12_taken_65 (by decide) (fun h => ?_) (fun h => ?_)
      · replace hf := it_t h hf
        refine lv_iconst (v := 0) hx hb dX12_taken_85 (by decide) ?_
        refine lv_goto (tgt := 107) hx hb dX12_taken_86 (by decide) ?_
        exact hB107 xq1 0 _ _ _ hw (lv_sub hl [0, 1] rfl) hf
      · replace hf := it_f h hf
        refine lv_aload_n hx hb dX12_taken_68 rfl (lv_at hl 0 rfl) ?_
        refine lv_iload_n hx hb dX12_taken_69 rfl (lv_at hl 3 rfl) ?_
        refine lv_iconst (v := 0) hx hb dX12_taken_70 (by decide) ?_
        obtain ⟨vq4, hc, hf⟩ := bd_e hf
        refine zcali hw (va_runV (As := [.int xq3, .int 0]) (rest := []) E.fix (c_X12_its (l := l) hA xq3 0 σ hc) (zcV E k6_145 k1_14 k6_142 k6_144 kp3_9 mf_X12_its rfl rfl ⟨Nat.le_of_ble_eq_true rfl, Nat.le_of_ble_eq_true rfl⟩) (zPreV E hw (Nat.le_of_ble_eq_true rfl) (ceM_0 ad cy _) rfl _) rfl rfl hl.1 rfl (lv_room (Nat.le_of_ble_eq_true rfl)) dX12_taken_71 ⟨Nat.zero_le _, Nat.zero_le _⟩) (fun H locs hw => ?_)
        refine lv_iload_n hx hb dX12_taken_74 rfl (lv_at hl 2 rfl) ?_
        refine zcali hw (va_runS (As := [.int vq4, .int xq2]) (rest := []) E.fix (c_X12_isUnder (l := l) hA vq4 xq2 σ rfl) (zcS E k6_163 k1_14 k6_161 k6_162 mf_X12_isUnder rfl rfl ⟨Nat.le_of_ble_eq_true rfl, Nat.le_of_ble_eq_true rfl⟩) (zPre E hw _) rfl rfl hl.1 rfl (lv_room (Nat.le_of_ble_eq_true rfl)) dX12_taken_75 ⟨Nat.zero_le _, Nat.zero_le _⟩) (fun H locs hw => ?_)
        refine lv_if_eq (tgt := 85) hx hb dX12_taken_78 (by decide) (fun h => ?_) (fun h => ?_)
        · replace hf := it_f (b2i_0 h) hf
          refine lv_iconst (v := 0) hx hb dX12_taken_85 (by decide) ?_
          refine lv_goto (tgt := 107) hx hb dX12_taken_86 (by decide) ?_
          exact hB107 xq1 0 _ _ _ hw (lv_sub hl [0, 1] rfl) hf
        · replace hf := it_t (b2i_n h) hf
          refine lv_iconst (v := 1) hx hb dX12_taken_81 (by decide) ?_
          refine lv_goto (tgt := 107) hx hb dX12_taken_82 (by decide) ?_
          exact hB107 xq1 1 _ _ _ hw (lv_sub hl [0, 1] rfl) hf
  have hB35 : ∀ (xq1 : Int32) (xq2 : Int32) (H : Heap) (locs : List Loc) (ls : Array Slot), ZS D 17 (celM ad cy) ad A s σ H locs → lv_has ls 5 [(0, .ref (ad 0)), (1, .int xq1), (2, .int xq2)] → f_X12_taken_b35 xq1 xq2 σ = some r → W p l e ({ frames := 3, cells := 0, slots := 0, locals := 67 } : Room) s m args below meth c H locs 0 0 (MQ below (zQi D 17 (celM ad cy) ad A r σ) args s 0 0 A) (F0 m 35 ls []) := by
    intro xq1 xq2 H locs ls hw hl hf
    unfold f_X12_taken_b35 at hf
    refine lv_aload_n hx hb dX12_taken_35 rfl (lv_at hl 0 rfl) ?_
    refine lv_iload_n hx hb dX12_taken_36 rfl (lv_at hl 1 rfl) ?_
    obtain ⟨vq1, hc, hf⟩ := bd_e hf
    refine zcali hw (va_runV (As := [.int xq1]) (rest := []) E.fix (c_X12_onShelf (l := l) hA xq1 σ hc) (zcV E k8_126 k1_14 k8_123 k8_125 kp6_14 mf_X12_onShelf rfl rfl ⟨Nat.le_of_ble_eq_true rfl, Nat.le_of_ble_eq_true rfl⟩) (zPreV E hw (Nat.le_of_ble_eq_true rfl) (ceM_0 ad cy _) rfl _) rfl rfl hl.1 rfl (lv_room (Nat.le_of_ble_eq_true rfl)) dX12_taken_37 ⟨Nat.zero_le _, Nat.zero_le _⟩) (fun H locs hw => ?_)
    refine lv_istore_n (lv' := [(3, .int vq1), (0, .ref (ad 0)), (1, .int xq1), (2, .int xq2)]) hx hb dX12_taken_40 rfl hl (by decide) rfl (fun ls hl => ?_)
    refine lv_iload_n hx hb dX12_taken_41 rfl (lv_at hl 0 rfl) ?_
    refine lv_if_ge (tgt := 58) hx hb dX12_taken_42 (by decide) (fun h => ?_) (fun h => ?_)
    · replace hf := it_t h hf
      exact hB58 xq1 xq2 vq1 _ _ _ hw (lv_sub hl [1, 2, 3, 0] rfl) hf
    · replace hf := it_f h hf
      refine lv_aload_n hx hb dX12_taken_45 rfl (lv_at hl 1 rfl) ?_
      refine zget E hw (Nat.le_of_ble_eq_true rfl) (ceM_0 ad cy _) rfl inX12 31 (by decide) k6_14 (fun _ h => h) rfl dX12_taken_46 ?_
      refine lv_iload_n hx hb dX12_taken_49 rfl (lv_at hl 2 rfl) ?_
      obtain ⟨vq2, hvq2, hf⟩ := bd_e hf
      refine zaldr E hw (Nat.le_of_ble_eq_true rfl) (ceM_13 ad cy) hvq2 dX12_taken_50 ?_
      refine lv_iconst (v := 2) hx hb dX12_taken_51 (by decide) ?_
      refine lv_icmp_ge (tgt := 58) hx hb dX12_taken_52 (by decide) (fun h => ?_) (fun h => ?_)
      · replace hf := it_t h hf
        exact hB58 xq1 xq2 vq1 _ _ _ hw (lv_sub hl [1, 2, 3, 0] rfl) hf
      · replace hf := it_f h hf
        refine lv_bipush (v := (-11)) hx hb dX12_taken_55 (by decide) ?_
        exact zreti E hw hr hlk (rt_1 hf) rfl dX12_taken_57
  unfold f_X12_taken at hf
  refine lv_iload_n hx hb dX12_taken_0 rfl (lv_at hl 1 rfl) ?_
  refine zcali hw (va_runS (As := [.int xq1]) (rest := []) E.fix (c_X12_isOne (l := l) hA xq1 σ rfl) (zcS E k8_80 k1_14 k8_78 k8_79 mf_X12_isOne rfl rfl ⟨Nat.le_of_ble_eq_true rfl, Nat.le_of_ble_eq_true rfl⟩) (zPre E hw _) rfl rfl hl.1 rfl (lv_room (Nat.le_of_ble_eq_true rfl)) dX12_taken_1 ⟨Nat.zero_le _, Nat.zero_le _⟩) (fun H locs hw => ?_)
  refine lv_if_eq (tgt := 33) hx hb dX12_taken_4 (by decide) (fun h => ?_) (fun h => ?_)
  · replace hf := it_f (b2i_0 h) hf
    refine lv_iconst (v := (-1)) hx hb dX12_taken_33 (by decide) ?_
    exact zreti E hw hr hlk (rt_1 hf) rfl dX12_taken_34
  · replace hf := it_t (b2i_n h) hf
    refine lv_iload_n hx hb dX12_taken_7 rfl (lv_at hl 2 rfl) ?_
    refine lv_i2l hx hb dX12_taken_8 rfl ?_
    refine lv_lconst (v := 0) hx hb dX12_taken_9 (by decide) ?_
    refine lv_ldc2 (v := 5) hx hb E.hown (E.ht _ k6_111) dX12_taken_10 ?_
    refine zcali hw (va_runS (As := [.long xq2.toInt64, .long (0 : Int64), .long (5 : Int64)]) (rest := []) E.fix (c_X12_in (l := l) hA xq2.toInt64 (0 : Int64) (5 : Int64) σ rfl) (zcS E k6_114 k1_14 k6_112 k6_113 mf_X12_in rfl rfl ⟨Nat.le_of_ble_eq_true rfl, Nat.le_of_ble_eq_true rfl⟩) (zPre E hw _) rfl rfl hl.1 rfl (lv_room (Nat.le_of_ble_eq_true rfl)) dX12_taken_13 ⟨Nat.zero_le _, Nat.zero_le _⟩) (fun H locs hw => ?_)
    refine lv_if_ne (tgt := 35) hx hb dX12_taken_16 (by decide) (fun h => ?_) (fun h => ?_)
    · replace hf := it_t (b2i_n h) hf
      exact hB35 xq1 xq2 _ _ _ hw (lv_sub hl [0, 1, 2] rfl) hf
    · replace hf := it_f (b2i_0 h) hf
      refine lv_iload_n hx hb dX12_taken_19 rfl (lv_at hl 2 rfl) ?_
      refine lv_i2l hx hb dX12_taken_20 rfl ?_
      refine lv_ldc2 (v := 10) hx hb E.hown (E.ht _ k8_122) dX12_taken_21 ?_
      refine lv_ldc2 (v := 14) hx hb E.hown (E.ht _ k6_209) dX12_taken_24 ?_
      refine zcali hw (va_runS (As := [.long xq2.toInt64, .long (10 : Int64), .long (14 : Int64)]) (rest := []) E.fix (c_X12_in (l := l) hA xq2.toInt64 (10 : Int64) (14 : Int64) σ rfl) (zcS E k6_114 k1_14 k6_112 k6_113 mf_X12_in rfl rfl ⟨Nat.le_of_ble_eq_true rfl, Nat.le_of_ble_eq_true rfl⟩) (zPre E hw _) rfl rfl hl.1 rfl (lv_room (Nat.le_of_ble_eq_true rfl)) dX12_taken_27 ⟨Nat.zero_le _, Nat.zero_le _⟩) (fun H locs hw => ?_)
      refine lv_if_ne (tgt := 35) hx hb dX12_taken_30 (by decide) (fun h => ?_) (fun h => ?_)
      · replace hf := it_t (b2i_n h) hf
        exact hB35 xq1 xq2 _ _ _ hw (lv_sub hl [0, 1, 2] rfl) hf
      · replace hf := it_f (b2i_0 h) hf
        refine lv_iconst (v := (-1)) hx hb dX12_taken_33 (by decide) ?_
        exact zreti E hw hr hlk (rt_1 hf) rfl dX12_taken_34
set_option maxRecDepth 100000 in
set_option maxHeartbeats 4000000 in
theorem c_X12_runs {l : Launch} {D : va_G} {cy : Cy} {ad : Nat → Nat} {A : Nat → Prop} (hA : okAd 17 ad A) (xq1 : Int32) (σ : Sg) {σ9 : Sg} (hf : f_X12_runs xq1 σ = some σ9) : Met l yX12_runs (.code yX12_runs cX12_runs 2 none :: TT) ({ frames := 0, cells := 0, slots := 0, locals := 0 } : Room) (zPc D cy 17 (celM ad cy) ad A [.ref (ad 0), .int xq1] σ) (zQv D 17 (celM ad cy) ad A σ9) 0 0 A := by
  refine zofW (by decide) hA (Nat.le_of_ble_eq_true rfl) ?_
  intro p e s m args below meth c ls E hw hr hlk hl
  have E : ZE p s m args c cX12_runs 2 "KiteSummonsModel" D cy 17 ad A := E
  have hx := E.hx
  have hb := E.hb
  have hl : lv_has ls 2 [(0, .ref (ad 0)), (1, .int xq1)] := hl
  have hB26 : ∀ (σ : Sg) (H : Heap) (locs : List Loc) (ls : Array Slot), ZS D 17 (celM ad cy) ad A s σ H locs → lv_has ls 2 [(0, .ref (ad 0))] → f_X12_runs_b26 σ = some σ9 → W p l e ({ frames := 0, cells := 0, slots := 0, locals := 0 } : Room) s m args below meth c H locs 0 0 (MQ below (zQv D 17 (celM ad cy) ad A σ9) args s 0 0 A) (F0 m 26 ls []) := by
    intro σ H locs ls hw hl hf
    unfold f_X12_runs_b26 at hf
    refine lv_aload_n hx hb dX12_runs_26 rfl (lv_at hl 0 rfl) ?_
    refine lv_dup hx hb dX12_runs_27 rfl ?_
    refine zget E hw (Nat.le_of_ble_eq_true rfl) (ceM_0 ad cy _) rfl inX12 35 (by decide) k6_18 (fun _ h => h) rfl dX12_runs_28 ?_
    refine lv_iconst (v := 1) hx hb dX12_runs_31 (by decide) ?_
    refine lv_iadd hx hb dX12_runs_32 ?_
    refine zputs E hw (Nat.le_of_ble_eq_true rfl) (ceM_0 ad cy _) rfl inX12 tyX12 tyX12_ok nmX12 35 (by decide) k6_18 (fun _ h => h) rfl rfl rfl (Nat.le_of_ble_eq_true rfl) (j := 35) (Eq.trans (ceM_0 ad cy _) (by rfl)) dX12_runs_33 (fun σ2 eσ2 H locs hw => ?_)
    replace hf := lt_i eσ2 hf
    exact zretv E hw hr hlk (rt_1 hf) dX12_runs_36
  unfold f_X12_runs at hf
  refine lv_aload_n hx hb dX12_runs_0 rfl (lv_at hl 0 rfl) ?_
  refine zget E hw (Nat.le_of_ble_eq_true rfl) (ceM_0 ad cy _) rfl inX12 39 (by decide) k6_22 (fun _ h => h) rfl dX12_runs_1 ?_
  refine lv_if_ne (tgt := 36) hx hb dX12_runs_4 (by decide) (fun h => ?_) (fun h => ?_)
  · replace hf := it_t h hf
    exact zretv E hw hr hlk (rt_1 hf) dX12_runs_36
  · replace hf := it_n h hf
    refine lv_aload_n hx hb dX12_runs_7 rfl (lv_at hl 0 rfl) ?_
    refine zget E hw (Nat.le_of_ble_eq_true rfl) (ceM_0 ad cy _) rfl inX12 35 (by decide) k6_18 (fun _ h => h) rfl dX12_runs_8 ?_
    refine lv_bipush (v := 30) hx hb dX12_runs_11 (by decide) ?_
    refine lv_icmp_ge (tgt := 26) hx hb dX12_runs_13 (by decide) (fun h => ?_) (fun h => ?_)
    · replace hf := it_t h hf
      exact hB26 σ _ _ _ hw (lv_sub hl [0] rfl) hf
    · replace hf := it_f h hf
      refine lv_aload_n hx hb dX12_runs_16 rfl (lv_at hl 0 rfl) ?_
      refine zget E hw (Nat.le_of_ble_eq_true rfl) (ceM_0 ad cy _) rfl inX12 34 (by decide) k6_17 (fun _ h => h) rfl dX12_runs_17 ?_
      refine lv_aload_n hx hb dX12_runs_20 rfl (lv_at hl 0 rfl) ?_
      refine zget E hw (Nat.le_of_ble_eq_true rfl) (ceM_0 ad cy _) rfl inX12 35 (by decide) k6_18 (fun _ h => h) rfl dX12_runs_21 ?_
      refine lv_iload_n hx hb dX12_runs_24 rfl (lv_at hl 1 rfl) ?_
      obtain ⟨σ1, hσ1, hf⟩ := bd_e hf
      refine zastr E hw (Nat.le_of_ble_eq_true rfl) (ceM_16 ad cy) hσ1 dX12_runs_25 (fun H locs hw => ?_)
      exact hB26 σ1 _ _ _ hw (lv_sub hl [0] rfl) hf
set_option maxRecDepth 100000 in
set_option maxHeartbeats 4000000 in
theorem c_X12_flies {l : Launch} {D : va_G} {cy : Cy} {ad : Nat → Nat} {A : Nat → Prop} (hA : okAd 17 ad A) (xq1 : Int32) (σ : Sg) {r : Int32} {σ9 : Sg} (hf : f_X12_flies xq1 σ = some (r, σ9)) : Met l yX12_flies (.code yX12_flies cX12_flies 3 (some .int) :: TT) ({ frames := 1, cells := 0, slots := 0, locals := 21 } : Room) (zPc D cy 17 (celM ad cy) ad A [.ref (ad 0), .int xq1] σ) (zQi D 17 (celM ad cy) ad A r σ9) 0 0 A := by
  refine zofW (by decide) hA (Nat.le_of_ble_eq_true rfl) ?_
  intro p e s m args below meth c ls E hw hr hlk hl
  have E : ZE p s m args c cX12_flies 3 "KiteSummonsModel" D cy 17 ad A := E
  have hx := E.hx
  have hb := E.hb
  have hl : lv_has ls 3 [(0, .ref (ad 0)), (1, .int xq1)] := hl
  have hB28 : ∀ (xq1 : Int32) (σ : Sg) (H : Heap) (locs : List Loc) (ls : Array Slot), ZS D 17 (celM ad cy) ad A s σ H locs → lv_has ls 3 [(0, .ref (ad 0)), (1, .int xq1)] → f_X12_flies_b28 xq1 σ = some (r, σ9) → W p l e ({ frames := 1, cells := 0, slots := 0, locals := 21 } : Room) s m args below meth c H locs 0 0 (MQ below (zQi D 17 (celM ad cy) ad A r σ9) args s 0 0 A) (F0 m 28 ls []) := by
    intro xq1 σ H locs ls hw hl hf
    unfold f_X12_flies_b28 at hf
    refine lv_aload_n hx hb dX12_flies_28 rfl (lv_at hl 0 rfl) ?_
    refine lv_bipush (v := 10) hx hb dX12_flies_29 (by decide) ?_
    obtain ⟨σ3, hc, hf⟩ := bd_e hf
    refine zcalv hw (va_runV (As := [.int 10]) (rest := []) E.fix (c_X12_runs (l := l) hA 10 σ hc) (zcV E k8_138 k1_14 k8_135 k8_137 kp7_0 mf_X12_runs rfl rfl ⟨Nat.le_of_ble_eq_true rfl, Nat.le_of_ble_eq_true rfl⟩) (zPreV E hw (Nat.le_of_ble_eq_true rfl) (ceM_0 ad cy _) rfl _) rfl rfl hl.1 rfl (lv_room (Nat.le_of_ble_eq_true rfl)) dX12_flies_31 ⟨Nat.zero_le _, Nat.zero_le _⟩) (fun H locs hw => ?_)
    refine lv_iload_n hx hb dX12_flies_34 rfl (lv_at hl 1 rfl) ?_
    refine lv_iconst (v := 5) hx hb dX12_flies_35 (by decide) ?_
    refine lv_imul hx hb dX12_flies_36 ?_
    refine lv_aload_n hx hb dX12_flies_37 rfl (lv_at hl 0 rfl) ?_
    refine zget E hw (Nat.le_of_ble_eq_true rfl) (ceM_0 ad cy _) rfl inX12 36 (by decide) k6_19 (fun _ h => h) rfl dX12_flies_38 ?_
    refine lv_iadd hx hb dX12_flies_41 ?_
    refine lv_topi (fun vq4 evq4 => ?_)
    replace hf := lt_i evq4 hf
    refine lv_istore_n (lv' := [(2, .int vq4), (0, .ref (ad 0)), (1, .int xq1)]) hx hb dX12_flies_42 rfl hl (by decide) rfl (fun ls hl => ?_)
    refine lv_aload_n hx hb dX12_flies_43 rfl (lv_at hl 1 rfl) ?_
    refine zget E hw (Nat.le_of_ble_eq_true rfl) (ceM_0 ad cy _) rfl inX12 38 (by decide) k6_21 (fun _ h => h) rfl dX12_flies_44 ?_
    refine lv_iconst (v := 1) hx hb dX12_flies_47 (by decide) ?_
    refine lv_icmp_ne (tgt := 57) hx hb dX12_flies_48 (by decide) (fun h => ?_) (fun h => ?_)
    · replace hf := it_t h hf
      refine lv_aload_n hx hb dX12_flies_57 rfl (lv_at hl 1 rfl) ?_
      refine zget E hw (Nat.le_of_ble_eq_true rfl) (ceM_0 ad cy _) rfl inX12 38 (by decide) k6_21 (fun _ h => h) rfl dX12_flies_58 ?_
      refine lv_iconst (v := 3) hx hb dX12_flies_61 (by decide) ?_
      refine lv_icmp_ne (tgt := 72) hx hb dX12_flies_62 (by decide) (fun h => ?_) (fun h => ?_)
      · replace hf := it_t h hf
        refine lv_iload_n hx hb dX12_flies_72 rfl (lv_at hl 0 rfl) ?_
        exact zreti E hw hr hlk (rt_a hf) (rt_b hf) dX12_flies_73
      · replace hf := it_n h hf
        refine lv_iload_n hx hb dX12_flies_65 rfl (lv_at hl 0 rfl) ?_
        refine lv_bipush (v := 6) hx hb dX12_flies_66 (by decide) ?_
        refine lv_ixor hx hb dX12_flies_68 ?_
        refine lv_goto (tgt := 73) hx hb dX12_flies_69 (by decide) ?_
        exact zreti E hw hr hlk (rt_a hf) (rt_b hf) dX12_flies_73
    · replace hf := it_n h hf
      refine lv_iload_n hx hb dX12_flies_51 rfl (lv_at hl 0 rfl) ?_
      refine lv_iconst (v := 1) hx hb dX12_flies_52 (by decide) ?_
      refine lv_isub hx hb dX12_flies_53 ?_
      refine lv_goto (tgt := 73) hx hb dX12_flies_54 (by decide) ?_
      exact zreti E hw hr hlk (rt_a hf) (rt_b hf) dX12_flies_73
  have hB14 : ∀ (xq1 : Int32) (σ : Sg) (H : Heap) (locs : List Loc) (ls : Array Slot), ZS D 17 (celM ad cy) ad A s σ H locs → lv_has ls 3 [(0, .ref (ad 0)), (1, .int xq1)] → f_X12_flies_b14 xq1 σ = some (r, σ9) → W p l e ({ frames := 1, cells := 0, slots := 0, locals := 21 } : Room) s m args below meth c H locs 0 0 (MQ below (zQi D 17 (celM ad cy) ad A r σ9) args s 0 0 A) (F0 m 14 ls []) := by
    intro xq1 σ H locs ls hw hl hf
    unfold f_X12_flies_b14 at hf
    refine lv_aload_n hx hb dX12_flies_14 rfl (lv_at hl 0 rfl) ?_
    refine zget E hw (Nat.le_of_ble_eq_true rfl) (ceM_0 ad cy _) rfl inX12 38 (by decide) k6_21 (fun _ h => h) rfl dX12_flies_15 ?_
    refine lv_iconst (v := 3) hx hb dX12_flies_18 (by decide) ?_
    refine lv_icmp_ne (tgt := 28) hx hb dX12_flies_19 (by decide) (fun h => ?_) (fun h => ?_)
    · replace hf := it_t h hf
      exact hB28 xq1 σ _ _ _ hw (lv_sub hl [0, 1] rfl) hf
    · replace hf := it_n h hf
      refine lv_aload_n hx hb dX12_flies_22 rfl (lv_at hl 0 rfl) ?_
      refine lv_bipush (v := 50) hx hb dX12_flies_23 (by decide) ?_
      obtain ⟨σ2, hc, hf⟩ := bd_e hf
      refine zcalv hw (va_runV (As := [.int 50]) (rest := []) E.fix (c_X12_runs (l := l) hA 50 σ hc) (zcV E k8_138 k1_14 k8_135 k8_137 kp7_0 mf_X12_runs rfl rfl ⟨Nat.le_of_ble_eq_true rfl, Nat.le_of_ble_eq_true rfl⟩) (zPreV E hw (Nat.le_of_ble_eq_true rfl) (ceM_0 ad cy _) rfl _) rfl rfl hl.1 rfl (lv_room (Nat.le_of_ble_eq_true rfl)) dX12_flies_25 ⟨Nat.zero_le _, Nat.zero_le _⟩) (fun H locs hw => ?_)
      exact hB28 xq1 σ2 _ _ _ hw (lv_sub hl [0, 1] rfl) hf
  unfold f_X12_flies at hf
  refine lv_aload_n hx hb dX12_flies_0 rfl (lv_at hl 0 rfl) ?_
  refine zget E hw (Nat.le_of_ble_eq_true rfl) (ceM_0 ad cy _) rfl inX12 38 (by decide) k6_21 (fun _ h => h) rfl dX12_flies_1 ?_
  refine lv_iconst (v := 1) hx hb dX12_flies_4 (by decide) ?_
  refine lv_icmp_ne (tgt := 14) hx hb dX12_flies_5 (by decide) (fun h => ?_) (fun h => ?_)
  · replace hf := it_t h hf
    exact hB14 xq1 σ _ _ _ hw (lv_sub hl [0, 1] rfl) hf
  · replace hf := it_n h hf
    refine lv_aload_n hx hb dX12_flies_8 rfl (lv_at hl 0 rfl) ?_
    refine lv_bipush (v := 20) hx hb dX12_flies_9 (by decide) ?_
    obtain ⟨σ1, hc, hf⟩ := bd_e hf
    refine zcalv hw (va_runV (As := [.int 20]) (rest := []) E.fix (c_X12_runs (l := l) hA 20 σ hc) (zcV E k8_138 k1_14 k8_135 k8_137 kp7_0 mf_X12_runs rfl rfl ⟨Nat.le_of_ble_eq_true rfl, Nat.le_of_ble_eq_true rfl⟩) (zPreV E hw (Nat.le_of_ble_eq_true rfl) (ceM_0 ad cy _) rfl _) rfl rfl hl.1 rfl (lv_room (Nat.le_of_ble_eq_true rfl)) dX12_flies_11 ⟨Nat.zero_le _, Nat.zero_le _⟩) (fun H locs hw => ?_)
    exact hB14 xq1 σ1 _ _ _ hw (lv_sub hl [0, 1] rfl) hf
set_option maxRecDepth 100000 in
set_option maxHeartbeats 4000000 in
theorem c_X12_reads {l : Launch} {D : va_G} {cy : Cy} {ad : Nat → Nat} {A : Nat → Prop} (hA : okAd 17 ad A) (xq1 : Int32) (σ : Sg) {r : Int32} {σ9 : Sg} (hf : f_X12_reads xq1 σ = some (r, σ9)) : Met l yX12_reads (.code yX12_reads cX12_reads 4 (some .int) :: TT) ({ frames := 2, cells := 0, slots := 0, locals := 43 } : Room) (zPc D cy 17 (celM ad cy) ad A [.ref (ad 0), .int xq1] σ) (zQi D 17 (celM ad cy) ad A r σ9) 0 0 A := by
  refine zofW (by decide) hA (Nat.le_of_ble_eq_true rfl) ?_
  intro p e s m args below meth c ls E hw hr hlk hl
  have E : ZE p s m args c cX12_reads 4 "KiteSummonsModel" D cy 17 ad A := E
  have hx := E.hx
  have hb := E.hb
  have hl : lv_has ls 4 [(0, .ref (ad 0)), (1, .int xq1)] := hl
  have hB67 : ∀ (tq1 : Int32) (σ : Sg) (H : Heap) (locs : List Loc) (ls : Array Slot), ZS D 17 (celM ad cy) ad A s σ H locs → lv_has ls 4 [(0, .ref (ad 0))] → f_X12_reads_b67 tq1 σ = some (r, σ9) → W p l e ({ frames := 2, cells := 0, slots := 0, locals := 43 } : Room) s m args below meth c H locs 0 0 (MQ below (zQi D 17 (celM ad cy) ad A r σ9) args s 0 0 A) (F0 m 67 ls [.int tq1, .ref (ad 0)]) := by
    intro tq1 σ H locs ls hw hl hf
    unfold f_X12_reads_b67 at hf
    obtain ⟨vq4, σ5, hc, hf⟩ := bd2_e hf
    refine zcali hw (va_runV (As := [.int tq1]) (rest := []) E.fix (c_X12_flies (l := l) hA tq1 σ hc) (zcV E k8_134 k1_14 k8_131 k8_133 kp6_15 mf_X12_flies rfl rfl ⟨Nat.le_of_ble_eq_true rfl, Nat.le_of_ble_eq_true rfl⟩) (zPreV E hw (Nat.le_of_ble_eq_true rfl) (ceM_0 ad cy _) rfl _) rfl rfl hl.1 rfl (lv_room (Nat.le_of_ble_eq_true rfl)) dX12_reads_67 ⟨Nat.zero_le _, Nat.zero_le _⟩) (fun H locs hw => ?_)
    refine lv_aload_n hx hb dX12_reads_70 rfl (lv_at hl 0 rfl) ?_
    refine zget E hw (Nat.le_of_ble_eq_true rfl) (ceM_0 ad cy _) rfl inX12 37 (by decide) k6_20 (fun _ h => h) rfl dX12_reads_71 ?_
    refine lv_ixor hx hb dX12_reads_74 ?_
    refine lv_topi (fun vq6 evq6 => ?_)
    replace hf := lt_i evq6 hf
    refine lv_istore_n (lv' := [(3, .int vq6), (0, .ref (ad 0))]) hx hb dX12_reads_75 rfl hl (by decide) rfl (fun ls hl => ?_)
    refine lv_aload_n hx hb dX12_reads_76 rfl (lv_at hl 1 rfl) ?_
    refine zget E hw (Nat.le_of_ble_eq_true rfl) (ceM_0 ad cy _) rfl inX12 38 (by decide) k6_21 (fun _ h => h) rfl dX12_reads_77 ?_
    refine lv_iconst (v := 5) hx hb dX12_reads_80 (by decide) ?_
    refine lv_icmp_ne (tgt := 93) hx hb dX12_reads_81 (by decide) (fun h => ?_) (fun h => ?_)
    · replace hf := it_t h hf
      refine lv_iload_n hx hb dX12_reads_93 rfl (lv_at hl 0 rfl) ?_
      exact zreti E hw hr hlk (rt_a hf) (rt_b hf) dX12_reads_94
    · replace hf := it_n h hf
      refine lv_iload_n hx hb dX12_reads_84 rfl (lv_at hl 0 rfl) ?_
      refine lv_aload_n hx hb dX12_reads_85 rfl (lv_at hl 1 rfl) ?_
      refine zget E hw (Nat.le_of_ble_eq_true rfl) (ceM_0 ad cy _) rfl inX12 37 (by decide) k6_20 (fun _ h => h) rfl dX12_reads_86 ?_
      refine lv_imul hx hb dX12_reads_89 ?_
      refine lv_goto (tgt := 94) hx hb dX12_reads_90 (by decide) ?_
      exact zreti E hw hr hlk (rt_a hf) (rt_b hf) dX12_reads_94
  have hB46 : ∀ (xq1 : Int32) (xq2 : Int32) (σ : Sg) (H : Heap) (locs : List Loc) (ls : Array Slot), ZS D 17 (celM ad cy) ad A s σ H locs → lv_has ls 4 [(0, .ref (ad 0)), (1, .int xq1), (2, .int xq2)] → f_X12_reads_b46 xq1 xq2 σ = some (r, σ9) → W p l e ({ frames := 2, cells := 0, slots := 0, locals := 43 } : Room) s m args below meth c H locs 0 0 (MQ below (zQi D 17 (celM ad cy) ad A r σ9) args s 0 0 A) (F0 m 46 ls []) := by
    intro xq1 xq2 σ H locs ls hw hl hf
    unfold f_X12_reads_b46 at hf
    refine lv_aload_n hx hb dX12_reads_46 rfl (lv_at hl 0 rfl) ?_
    refine lv_bipush (v := 11) hx hb dX12_reads_47 (by decide) ?_
    obtain ⟨σ3, hc, hf⟩ := bd_e hf
    refine zcalv hw (va_runV (As := [.int 11]) (rest := []) E.fix (c_X12_runs (l := l) hA 11 σ hc) (zcV E k8_138 k1_14 k8_135 k8_137 kp7_0 mf_X12_runs rfl rfl ⟨Nat.le_of_ble_eq_true rfl, Nat.le_of_ble_eq_true rfl⟩) (zPreV E hw (Nat.le_of_ble_eq_true rfl) (ceM_0 ad cy _) rfl _) rfl rfl hl.1 rfl (lv_room (Nat.le_of_ble_eq_true rfl)) dX12_reads_49 ⟨Nat.zero_le _, Nat.zero_le _⟩) (fun H locs hw => ?_)
    refine lv_aload_n hx hb dX12_reads_52 rfl (lv_at hl 0 rfl) ?_
    refine lv_iload_n hx hb dX12_reads_53 rfl (lv_at hl 2 rfl) ?_
    refine lv_if_eq (tgt := 66) hx hb dX12_reads_54 (by decide) (fun h => ?_) (fun h => ?_)
    · replace hf := it_t h hf
      refine lv_iload_n hx hb dX12_reads_66 rfl (lv_at hl 1 rfl) ?_
      exact hB67 xq1 σ3 _ _ _ hw (lv_sub hl [0] rfl) hf
    · replace hf := it_f h hf
      refine lv_iload_n hx hb dX12_reads_57 rfl (lv_at hl 1 rfl) ?_
      refine lv_aload_n hx hb dX12_reads_58 rfl (lv_at hl 0 rfl) ?_
      refine zget E hw (Nat.le_of_ble_eq_true rfl) (ceM_0 ad cy _) rfl inX12 36 (by decide) k6_19 (fun _ h => h) rfl dX12_reads_59 ?_
      refine lv_iadd hx hb dX12_reads_62 ?_
      refine lv_goto (tgt := 67) hx hb dX12_reads_63 (by decide) ?_
      exact hB67 (xq1 + (σ3 0 36)) σ3 _ _ _ hw (lv_sub hl [0] rfl) hf
  have hB32 : ∀ (xq1 : Int32) (xq2 : Int32) (σ : Sg) (H : Heap) (locs : List Loc) (ls : Array Slot), ZS D 17 (celM ad cy) ad A s σ H locs → lv_has ls 4 [(0, .ref (ad 0)), (1, .int xq1), (2, .int xq2)] → f_X12_reads_b32 xq1 xq2 σ = some (r, σ9) → W p l e ({ frames := 2, cells := 0, slots := 0, locals := 43 } : Room) s m args below meth c H locs 0 0 (MQ below (zQi D 17 (celM ad cy) ad A r σ9) args s 0 0 A) (F0 m 32 ls []) := by
    intro xq1 xq2 σ H locs ls hw hl hf
    unfold f_X12_reads_b32 at hf
    refine lv_aload_n hx hb dX12_reads_32 rfl (lv_at hl 0 rfl) ?_
    refine zget E hw (Nat.le_of_ble_eq_true rfl) (ceM_0 ad cy _) rfl inX12 38 (by decide) k6_21 (fun _ h => h) rfl dX12_reads_33 ?_
    refine lv_iconst (v := 5) hx hb dX12_reads_36 (by decide) ?_
    refine lv_icmp_ne (tgt := 46) hx hb dX12_reads_37 (by decide) (fun h => ?_) (fun h => ?_)
    · replace hf := it_t h hf
      exact hB46 xq1 xq2 σ _ _ _ hw (lv_sub hl [0, 1, 2] rfl) hf
    · replace hf := it_n h hf
      refine lv_aload_n hx hb dX12_reads_40 rfl (lv_at hl 0 rfl) ?_
      refine lv_bipush (v := 60) hx hb dX12_reads_41 (by decide) ?_
      obtain ⟨σ2, hc, hf⟩ := bd_e hf
      refine zcalv hw (va_runV (As := [.int 60]) (rest := []) E.fix (c_X12_runs (l := l) hA 60 σ hc) (zcV E k8_138 k1_14 k8_135 k8_137 kp7_0 mf_X12_runs rfl rfl ⟨Nat.le_of_ble_eq_true rfl, Nat.le_of_ble_eq_true rfl⟩) (zPreV E hw (Nat.le_of_ble_eq_true rfl) (ceM_0 ad cy _) rfl _) rfl rfl hl.1 rfl (lv_room (Nat.le_of_ble_eq_true rfl)) dX12_reads_43 ⟨Nat.zero_le _, Nat.zero_le _⟩) (fun H locs hw => ?_)
      exact hB46 xq1 xq2 σ2 _ _ _ hw (lv_sub hl [0, 1, 2] rfl) hf
  have hB21 : ∀ (xq1 : Int32) (tq0 : Int32) (σ : Sg) (H : Heap) (locs : List Loc) (ls : Array Slot), ZS D 17 (celM ad cy) ad A s σ H locs → lv_has ls 4 [(0, .ref (ad 0)), (1, .int xq1)] → f_X12_reads_b21 xq1 tq0 σ = some (r, σ9) → W p l e ({ frames := 2, cells := 0, slots := 0, locals := 43 } : Room) s m args below meth c H locs 0 0 (MQ below (zQi D 17 (celM ad cy) ad A r σ9) args s 0 0 A) (F0 m 21 ls [.int tq0]) := by
    intro xq1 tq0 σ H locs ls hw hl hf
    unfold f_X12_reads_b21 at hf
    refine lv_istore_n (lv' := [(2, .int tq0), (0, .ref (ad 0)), (1, .int xq1)]) hx hb dX12_reads_21 rfl hl (by decide) rfl (fun ls hl => ?_)
    refine lv_iload_n hx hb dX12_reads_22 rfl (lv_at hl 0 rfl) ?_
    refine lv_if_eq (tgt := 32) hx hb dX12_reads_23 (by decide) (fun h => ?_) (fun h => ?_)
    · replace hf := it_t h hf
      exact hB32 xq1 tq0 σ _ _ _ hw (lv_sub hl [1, 2, 0] rfl) hf
    · replace hf := it_f h hf
      refine lv_aload_n hx hb dX12_reads_26 rfl (lv_at hl 1 rfl) ?_
      refine lv_bipush (v := 30) hx hb dX12_reads_27 (by decide) ?_
      obtain ⟨σ1, hc, hf⟩ := bd_e hf
      refine zcalv hw (va_runV (As := [.int 30]) (rest := []) E.fix (c_X12_runs (l := l) hA 30 σ hc) (zcV E k8_138 k1_14 k8_135 k8_137 kp7_0 mf_X12_runs rfl rfl ⟨Nat.le_of_ble_eq_true rfl, Nat.le_of_ble_eq_true rfl⟩) (zPreV E hw (Nat.le_of_ble_eq_true rfl) (ceM_0 ad cy _) rfl _) rfl rfl hl.1 rfl (lv_room (Nat.le_of_ble_eq_true rfl)) dX12_reads_29 ⟨Nat.zero_le _, Nat.zero_le _⟩) (fun H locs hw => ?_)
      exact hB32 xq1 tq0 σ1 _ _ _ hw (lv_sub hl [1, 2, 0] rfl) hf
  unfold f_X12_reads at hf
  refine lv_aload_n hx hb dX12_reads_0 rfl (lv_at hl 0 rfl) ?_
  refine zget E hw (Nat.le_of_ble_eq_true rfl) (ceM_0 ad cy _) rfl inX12 38 (by decide) k6_21 (fun _ h => h) rfl dX12_reads_1 ?_
  refine lv_iconst (v := 2) hx hb dX12_reads_4 (by decide) ?_
  refine lv_icmp_eq (tgt := 16) hx hb dX12_reads_5 (by decide) (fun h => ?_) (fun h => ?_)
  · replace hf := it_t h hf
    refine lv_iconst (v := 1) hx hb dX12_reads_16 (by decide) ?_
    refine lv_goto (tgt := 21) hx hb dX12_reads_17 (by decide) ?_
    exact hB21 xq1 1 σ _ _ _ hw (lv_sub hl [0, 1] rfl) hf
  · replace hf := it_f h hf
    refine lv_aload_n hx hb dX12_reads_8 rfl (lv_at hl 0 rfl) ?_
    refine zget E hw (Nat.le_of_ble_eq_true rfl) (ceM_0 ad cy _) rfl inX12 38 (by decide) k6_21 (fun _ h => h) rfl dX12_reads_9 ?_
    refine lv_iconst (v := 3) hx hb dX12_reads_12 (by decide) ?_
    refine lv_icmp_ne (tgt := 20) hx hb dX12_reads_13 (by decide) (fun h => ?_) (fun h => ?_)
    · replace hf := it_t h hf
      refine lv_iconst (v := 0) hx hb dX12_reads_20 (by decide) ?_
      exact hB21 xq1 0 σ _ _ _ hw (lv_sub hl [0, 1] rfl) hf
    · replace hf := it_n h hf
      refine lv_iconst (v := 1) hx hb dX12_reads_16 (by decide) ?_
      refine lv_goto (tgt := 21) hx hb dX12_reads_17 (by decide) ?_
      exact hB21 xq1 1 σ _ _ _ hw (lv_sub hl [0, 1] rfl) hf
set_option maxRecDepth 100000 in
set_option maxHeartbeats 4000000 in
theorem c_X12_plainParts {l : Launch} {D : va_G} {cy : Cy} {ad : Nat → Nat} {A : Nat → Prop} (hA : okAd 17 ad A) (xq1 : Int32) (σ : Sg) {r : Int32} {σ9 : Sg} (hf : f_X12_plainParts xq1 σ = some (r, σ9)) : Met l yX12_plainParts (.code yX12_plainParts cX12_plainParts 2 (some .int) :: TT) ({ frames := 1, cells := 0, slots := 0, locals := 21 } : Room) (zPc D cy 17 (celM ad cy) ad A [.ref (ad 0), .int xq1] σ) (zQi D 17 (celM ad cy) ad A r σ9) 0 0 A := by
  refine zofW (by decide) hA (Nat.le_of_ble_eq_true rfl) ?_
  intro p e s m args below meth c ls E hw hr hlk hl
  have E : ZE p s m args c cX12_plainParts 2 "KiteSummonsModel" D cy 17 ad A := E
  have hx := E.hx
  have hb := E.hb
  have hl : lv_has ls 2 [(0, .ref (ad 0)), (1, .int xq1)] := hl
  unfold f_X12_plainParts at hf
  refine lv_aload_n hx hb dX12_plainParts_0 rfl (lv_at hl 0 rfl) ?_
  refine lv_bipush (v := 12) hx hb dX12_plainParts_1 (by decide) ?_
  obtain ⟨σ1, hc, hf⟩ := bd_e hf
  refine zcalv hw (va_runV (As := [.int 12]) (rest := []) E.fix (c_X12_runs (l := l) hA 12 σ hc) (zcV E k8_138 k1_14 k8_135 k8_137 kp7_0 mf_X12_runs rfl rfl ⟨Nat.le_of_ble_eq_true rfl, Nat.le_of_ble_eq_true rfl⟩) (zPreV E hw (Nat.le_of_ble_eq_true rfl) (ceM_0 ad cy _) rfl _) rfl rfl hl.1 rfl (lv_room (Nat.le_of_ble_eq_true rfl)) dX12_plainParts_3 ⟨Nat.zero_le _, Nat.zero_le _⟩) (fun H locs hw => ?_)
  refine lv_aload_n hx hb dX12_plainParts_6 rfl (lv_at hl 0 rfl) ?_
  refine zget E hw (Nat.le_of_ble_eq_true rfl) (ceM_0 ad cy _) rfl inX12 36 (by decide) k6_19 (fun _ h => h) rfl dX12_plainParts_7 ?_
  refine lv_aload_n hx hb dX12_plainParts_10 rfl (lv_at hl 0 rfl) ?_
  refine zget E hw (Nat.le_of_ble_eq_true rfl) (ceM_0 ad cy _) rfl inX12 37 (by decide) k6_20 (fun _ h => h) rfl dX12_plainParts_11 ?_
  refine lv_icmp_ne (tgt := 24) hx hb dX12_plainParts_14 (by decide) (fun h => ?_) (fun h => ?_)
  · replace hf := it_t h hf
    refine lv_iload_n hx hb dX12_plainParts_24 rfl (lv_at hl 1 rfl) ?_
    refine lv_aload_n hx hb dX12_plainParts_25 rfl (lv_at hl 0 rfl) ?_
    refine zget E hw (Nat.le_of_ble_eq_true rfl) (ceM_0 ad cy _) rfl inX12 36 (by decide) k6_19 (fun _ h => h) rfl dX12_plainParts_26 ?_
    refine lv_aload_n hx hb dX12_plainParts_29 rfl (lv_at hl 0 rfl) ?_
    refine zget E hw (Nat.le_of_ble_eq_true rfl) (ceM_0 ad cy _) rfl inX12 37 (by decide) k6_20 (fun _ h => h) rfl dX12_plainParts_30 ?_
    refine lv_isub hx hb dX12_plainParts_33 ?_
    obtain ⟨hzq2, hf⟩ := gd_e hf
    refine zirem hx hb dX12_plainParts_34 hzq2 ?_
    exact zreti E hw hr hlk (rt_a hf) (rt_b hf) dX12_plainParts_35
  · replace hf := it_n h hf
    refine lv_aload_n hx hb dX12_plainParts_17 rfl (lv_at hl 0 rfl) ?_
    refine lv_iconst (v := 1) hx hb dX12_plainParts_18 (by decide) ?_
    refine zputs E hw (Nat.le_of_ble_eq_true rfl) (ceM_0 ad cy _) rfl inX12 tyX12 tyX12_ok nmX12 39 (by decide) k6_22 (fun _ h => h) rfl rfl rfl (Nat.le_of_ble_eq_true rfl) (j := 39) (Eq.trans (ceM_0 ad cy _) (by rfl)) dX12_plainParts_19 (fun σ3 eσ3 H locs hw => ?_)
    replace hf := lt_i eσ3 hf
    refine lv_iconst (v := 0) hx hb dX12_plainParts_22 (by decide) ?_
    exact zreti E hw hr hlk (rt_a hf) (rt_b hf) dX12_plainParts_23
set_option maxRecDepth 100000 in
set_option maxHeartbeats 4000000 in
theorem c_X12_parts {l : Launch} {D : va_G} {cy : Cy} {ad : Nat → Nat} {A : Nat → Prop} (hA : okAd 17 ad A) (xq1 : Int32) (σ : Sg) {r : Int32} {σ9 : Sg} (hf : f_X12_parts xq1 σ = some (r, σ9)) : Met l yX12_parts (.code yX12_parts cX12_parts 3 (some .int) :: TT) ({ frames := 2, cells := 0, slots := 0, locals := 43 } : Room) (zPc D cy 17 (celM ad cy) ad A [.ref (ad 0), .int xq1] σ) (zQi D 17 (celM ad cy) ad A r σ9) 0 0 A := by
  refine zofW (by decide) hA (Nat.le_of_ble_eq_true rfl) ?_
  intro p e s m args below meth c ls E hw hr hlk hl
  have E : ZE p s m args c cX12_parts 3 "KiteSummonsModel" D cy 17 ad A := E
  have hx := E.hx
  have hb := E.hb
  have hl : lv_has ls 3 [(0, .ref (ad 0)), (1, .int xq1)] := hl
  unfold f_X12_parts at hf
  refine lv_aload_n hx hb dX12_parts_0 rfl (lv_at hl 0 rfl) ?_
  refine zget E hw (Nat.le_of_ble_eq_true rfl) (ceM_0 ad cy _) rfl inX12 38 (by decide) k6_21 (fun _ h => h) rfl dX12_parts_1 ?_
  refine lv_iconst (v := 4) hx hb dX12_parts_4 (by decide) ?_
  refine lv_icmp_ne (tgt := 22) hx hb dX12_parts_5 (by decide) (fun h => ?_) (fun h => ?_)
  · replace hf := it_t h hf
    refine lv_aload_n hx hb dX12_parts_22 rfl (lv_at hl 0 rfl) ?_
    refine zget E hw (Nat.le_of_ble_eq_true rfl) (ceM_0 ad cy _) rfl inX12 38 (by decide) k6_21 (fun _ h => h) rfl dX12_parts_23 ?_
    refine lv_iconst (v := 5) hx hb dX12_parts_26 (by decide) ?_
    refine lv_icmp_ne (tgt := 72) hx hb dX12_parts_27 (by decide) (fun h => ?_) (fun h => ?_)
    · replace hf := it_t h hf
      refine lv_aload_n hx hb dX12_parts_72 rfl (lv_at hl 0 rfl) ?_
      refine lv_iload_n hx hb dX12_parts_73 rfl (lv_at hl 1 rfl) ?_
      obtain ⟨vq1, σ2, hc, hf⟩ := bd2_e hf
      refine zcali hw (va_runV (As := [.int xq1]) (rest := []) E.fix (c_X12_plainParts (l := l) hA xq1 σ hc) (zcV E k8_150 k1_14 k8_147 k8_149 kp7_3 mf_X12_plainParts rfl rfl ⟨Nat.le_of_ble_eq_true rfl, Nat.le_of_ble_eq_true rfl⟩) (zPreV E hw (Nat.le_of_ble_eq_true rfl) (ceM_0 ad cy _) rfl _) rfl rfl hl.1 rfl (lv_room (Nat.le_of_ble_eq_true rfl)) dX12_parts_74 ⟨Nat.zero_le _, Nat.zero_le _⟩) (fun H locs hw => ?_)
      exact zreti E hw hr hlk (rt_a hf) (rt_b hf) dX12_parts_77
    · replace hf := it_n h hf
      refine lv_aload_n hx hb dX12_parts_30 rfl (lv_at hl 0 rfl) ?_
      refine lv_bipush (v := 61) hx hb dX12_parts_31 (by decide) ?_
      obtain ⟨σ3, hc, hf⟩ := bd_e hf
      refine zcalv hw (va_runV (As := [.int 61]) (rest := []) E.fix (c_X12_runs (l := l) hA 61 σ hc) (zcV E k8_138 k1_14 k8_135 k8_137 kp7_0 mf_X12_runs rfl rfl ⟨Nat.le_of_ble_eq_true rfl, Nat.le_of_ble_eq_true rfl⟩) (zPreV E hw (Nat.le_of_ble_eq_true rfl) (ceM_0 ad cy _) rfl _) rfl rfl hl.1 rfl (lv_room (Nat.le_of_ble_eq_true rfl)) dX12_parts_33 ⟨Nat.zero_le _, Nat.zero_le _⟩) (fun H locs hw => ?_)
      refine lv_aload_n hx hb dX12_parts_36 rfl (lv_at hl 0 rfl) ?_
      refine lv_bipush (v := 40) hx hb dX12_parts_37 (by decide) ?_
      obtain ⟨σ4, hc, hf⟩ := bd_e hf
      refine zcalv hw (va_runV (As := [.int 40]) (rest := []) E.fix (c_X12_runs (l := l) hA 40 σ3 hc) (zcV E k8_138 k1_14 k8_135 k8_137 kp7_0 mf_X12_runs rfl rfl ⟨Nat.le_of_ble_eq_true rfl, Nat.le_of_ble_eq_true rfl⟩) (zPreV E hw (Nat.le_of_ble_eq_true rfl) (ceM_0 ad cy _) rfl _) rfl rfl hl.1 rfl (lv_room (Nat.le_of_ble_eq_true rfl)) dX12_parts_39 ⟨Nat.zero_le _, Nat.zero_le _⟩) (fun H locs hw => ?_)
      refine lv_iconst (v := 0) hx hb dX12_parts_42 (by decide) ?_
      refine lv_aload_n hx hb dX12_parts_43 rfl (lv_at hl 0 rfl) ?_
      refine lv_iload_n hx hb dX12_parts_44 rfl (lv_at hl 1 rfl) ?_
      obtain ⟨vq5, σ6, hc, hf⟩ := bd2_e hf
      refine zcali hw (va_runV (As := [.int xq1]) (rest := [.int 0]) E.fix (c_X12_plainParts (l := l) hA xq1 σ4 hc) (zcV E k8_150 k1_14 k8_147 k8_149 kp7_3 mf_X12_plainParts rfl rfl ⟨Nat.le_of_ble_eq_true rfl, Nat.le_of_ble_eq_true rfl⟩) (zPreV E hw (Nat.le_of_ble_eq_true rfl) (ceM_0 ad cy _) rfl _) rfl rfl hl.1 rfl (lv_room (Nat.le_of_ble_eq_true rfl)) dX12_parts_45 ⟨Nat.zero_le _, Nat.zero_le _⟩) (fun H locs hw => ?_)
      refine lv_isub hx hb dX12_parts_48 ?_
      refine lv_topi (fun vq7 evq7 => ?_)
      replace hf := lt_i evq7 hf
      refine lv_istore_n (lv' := [(2, .int vq7), (0, .ref (ad 0)), (1, .int xq1)]) hx hb dX12_parts_49 rfl hl (by decide) rfl (fun ls hl => ?_)
      refine lv_aload_n hx hb dX12_parts_50 rfl (lv_at hl 1 rfl) ?_
      refine zget E hw (Nat.le_of_ble_eq_true rfl) (ceM_0 ad cy _) rfl inX12 39 (by decide) k6_22 (fun _ h => h) rfl dX12_parts_51 ?_
      refine lv_if_eq (tgt := 61) hx hb dX12_parts_54 (by decide) (fun h => ?_) (fun h => ?_)
      · replace hf := it_t h hf
        refine lv_iload_n hx hb dX12_parts_61 rfl (lv_at hl 0 rfl) ?_
        refine lv_aload_n hx hb dX12_parts_62 rfl (lv_at hl 1 rfl) ?_
        refine lv_aload_n hx hb dX12_parts_63 rfl (lv_at hl 1 rfl) ?_
        refine zget E hw (Nat.le_of_ble_eq_true rfl) (ceM_0 ad cy _) rfl inX12 36 (by decide) k6_19 (fun _ h => h) rfl dX12_parts_64 ?_
        obtain ⟨vq8, σ9, hc, hf⟩ := bd2_e hf
        refine zcali hw (va_runV (As := [.int (σ6 0 36)]) (rest := [.int vq7]) E.fix (c_X12_flies (l := l) hA (σ6 0 36) σ6 hc) (zcV E k8_134 k1_14 k8_131 k8_133 kp6_15 mf_X12_flies rfl rfl ⟨Nat.le_of_ble_eq_true rfl, Nat.le_of_ble_eq_true rfl⟩) (zPreV E hw (Nat.le_of_ble_eq_true rfl) (ceM_0 ad cy _) rfl _) rfl rfl hl.1 rfl (lv_room (Nat.le_of_ble_eq_true rfl)) dX12_parts_67 ⟨Nat.zero_le _, Nat.zero_le _⟩) (fun H locs hw => ?_)
        refine lv_iadd hx hb dX12_parts_70 ?_
        exact zreti E hw hr hlk (rt_a hf) (rt_b hf) dX12_parts_71
      · replace hf := it_f h hf
        refine lv_iconst (v := 0) hx hb dX12_parts_57 (by decide) ?_
        refine lv_goto (tgt := 71) hx hb dX12_parts_58 (by decide) ?_
        exact zreti E hw hr hlk (rt_a hf) (rt_b hf) dX12_parts_71
  · replace hf := it_n h hf
    refine lv_aload_n hx hb dX12_parts_8 rfl (lv_at hl 0 rfl) ?_
    refine lv_bipush (v := 40) hx hb dX12_parts_9 (by decide) ?_
    obtain ⟨σ10, hc, hf⟩ := bd_e hf
    refine zcalv hw (va_runV (As := [.int 40]) (rest := []) E.fix (c_X12_runs (l := l) hA 40 σ hc) (zcV E k8_138 k1_14 k8_135 k8_137 kp7_0 mf_X12_runs rfl rfl ⟨Nat.le_of_ble_eq_true rfl, Nat.le_of_ble_eq_true rfl⟩) (zPreV E hw (Nat.le_of_ble_eq_true rfl) (ceM_0 ad cy _) rfl _) rfl rfl hl.1 rfl (lv_room (Nat.le_of_ble_eq_true rfl)) dX12_parts_11 ⟨Nat.zero_le _, Nat.zero_le _⟩) (fun H locs hw => ?_)
    refine lv_iconst (v := 0) hx hb dX12_parts_14 (by decide) ?_
    refine lv_aload_n hx hb dX12_parts_15 rfl (lv_at hl 0 rfl) ?_
    refine lv_iload_n hx hb dX12_parts_16 rfl (lv_at hl 1 rfl) ?_
    obtain ⟨vq11, σ12, hc, hf⟩ := bd2_e hf
    refine zcali hw (va_runV (As := [.int xq1]) (rest := [.int 0]) E.fix (c_X12_plainParts (l := l) hA xq1 σ10 hc) (zcV E k8_150 k1_14 k8_147 k8_149 kp7_3 mf_X12_plainParts rfl rfl ⟨Nat.le_of_ble_eq_true rfl, Nat.le_of_ble_eq_true rfl⟩) (zPreV E hw (Nat.le_of_ble_eq_true rfl) (ceM_0 ad cy _) rfl _) rfl rfl hl.1 rfl (lv_room (Nat.le_of_ble_eq_true rfl)) dX12_parts_17 ⟨Nat.zero_le _, Nat.zero_le _⟩) (fun H locs hw => ?_)
    refine lv_isub hx hb dX12_parts_20 ?_
    exact zreti E hw hr hlk (rt_a hf) (rt_b hf) dX12_parts_21
set_option maxRecDepth 100000 in
set_option maxHeartbeats 4000000 in
theorem c_X12_calls {l : Launch} {D : va_G} {cy : Cy} {ad : Nat → Nat} {A : Nat → Prop} (hA : okAd 17 ad A) (xq1 : Int32) (σ : Sg) {r : Int32} {σ9 : Sg} (hf : f_X12_calls xq1 σ = some (r, σ9)) : Met l yX12_calls (.code yX12_calls cX12_calls 3 (some .int) :: TT) ({ frames := 3, cells := 0, slots := 0, locals := 66 } : Room) (zPc D cy 17 (celM ad cy) ad A [.ref (ad 0), .int xq1] σ) (zQi D 17 (celM ad cy) ad A r σ9) 0 0 A := by
  refine zofW (by decide) hA (Nat.le_of_ble_eq_true rfl) ?_
  intro p e s m args below meth c ls E hw hr hlk hl
  have E : ZE p s m args c cX12_calls 3 "KiteSummonsModel" D cy 17 ad A := E
  have hx := E.hx
  have hb := E.hb
  have hl : lv_has ls 3 [(0, .ref (ad 0)), (1, .int xq1)] := hl
  have hB14 : ∀ (xq1 : Int32) (σ : Sg) (H : Heap) (locs : List Loc) (ls : Array Slot), ZS D 17 (celM ad cy) ad A s σ H locs → lv_has ls 3 [(0, .ref (ad 0)), (1, .int xq1)] → f_X12_calls_b14 xq1 σ = some (r, σ9) → W p l e ({ frames := 3, cells := 0, slots := 0, locals := 66 } : Room) s m args below meth c H locs 0 0 (MQ below (zQi D 17 (celM ad cy) ad A r σ9) args s 0 0 A) (F0 m 14 ls []) := by
    intro xq1 σ H locs ls hw hl hf
    unfold f_X12_calls_b14 at hf
    refine lv_aload_n hx hb dX12_calls_14 rfl (lv_at hl 0 rfl) ?_
    refine lv_bipush (v := 13) hx hb dX12_calls_15 (by decide) ?_
    obtain ⟨σ2, hc, hf⟩ := bd_e hf
    refine zcalv hw (va_runV (As := [.int 13]) (rest := []) E.fix (c_X12_runs (l := l) hA 13 σ hc) (zcV E k8_138 k1_14 k8_135 k8_137 kp7_0 mf_X12_runs rfl rfl ⟨Nat.le_of_ble_eq_true rfl, Nat.le_of_ble_eq_true rfl⟩) (zPreV E hw (Nat.le_of_ble_eq_true rfl) (ceM_0 ad cy _) rfl _) rfl rfl hl.1 rfl (lv_room (Nat.le_of_ble_eq_true rfl)) dX12_calls_17 ⟨Nat.zero_le _, Nat.zero_le _⟩) (fun H locs hw => ?_)
    refine lv_aload_n hx hb dX12_calls_20 rfl (lv_at hl 0 rfl) ?_
    refine lv_iload_n hx hb dX12_calls_21 rfl (lv_at hl 1 rfl) ?_
    obtain ⟨vq3, σ4, hc, hf⟩ := bd2_e hf
    refine zcali hw (va_runV (As := [.int xq1]) (rest := []) E.fix (c_X12_reads (l := l) hA xq1 σ2 hc) (zcV E k8_142 k1_14 k8_139 k8_141 kp7_1 mf_X12_reads rfl rfl ⟨Nat.le_of_ble_eq_true rfl, Nat.le_of_ble_eq_true rfl⟩) (zPreV E hw (Nat.le_of_ble_eq_true rfl) (ceM_0 ad cy _) rfl _) rfl rfl hl.1 rfl (lv_room (Nat.le_of_ble_eq_true rfl)) dX12_calls_22 ⟨Nat.zero_le _, Nat.zero_le _⟩) (fun H locs hw => ?_)
    refine lv_istore_n (lv' := [(2, .int vq3), (0, .ref (ad 0)), (1, .int xq1)]) hx hb dX12_calls_25 rfl hl (by decide) rfl (fun ls hl => ?_)
    refine lv_iload_n hx hb dX12_calls_26 rfl (lv_at hl 0 rfl) ?_
    refine lv_aload_n hx hb dX12_calls_27 rfl (lv_at hl 1 rfl) ?_
    refine lv_iload_n hx hb dX12_calls_28 rfl (lv_at hl 2 rfl) ?_
    obtain ⟨vq5, σ6, hc, hf⟩ := bd2_e hf
    refine zcali hw (va_runV (As := [.int xq1]) (rest := [.int vq3]) E.fix (c_X12_parts (l := l) hA xq1 σ4 hc) (zcV E k8_146 k1_14 k8_143 k8_145 kp7_2 mf_X12_parts rfl rfl ⟨Nat.le_of_ble_eq_true rfl, Nat.le_of_ble_eq_true rfl⟩) (zPreV E hw (Nat.le_of_ble_eq_true rfl) (ceM_0 ad cy _) rfl _) rfl rfl hl.1 rfl (lv_room (Nat.le_of_ble_eq_true rfl)) dX12_calls_29 ⟨Nat.zero_le _, Nat.zero_le _⟩) (fun H locs hw => ?_)
    refine lv_iconst (v := 2) hx hb dX12_calls_32 (by decide) ?_
    refine lv_imul hx hb dX12_calls_33 ?_
    refine lv_iadd hx hb dX12_calls_34 ?_
    refine lv_topi (fun vq7 evq7 => ?_)
    replace hf := lt_i evq7 hf
    refine lv_istore_n (lv' := [(2, .int vq7), (0, .ref (ad 0)), (1, .int xq1)]) hx hb dX12_calls_35 rfl hl (by decide) rfl (fun ls hl => ?_)
    refine lv_aload_n hx hb dX12_calls_36 rfl (lv_at hl 1 rfl) ?_
    refine zget E hw (Nat.le_of_ble_eq_true rfl) (ceM_0 ad cy _) rfl inX12 38 (by decide) k6_21 (fun _ h => h) rfl dX12_calls_37 ?_
    refine lv_iconst (v := 3) hx hb dX12_calls_40 (by decide) ?_
    refine lv_icmp_ne (tgt := 64) hx hb dX12_calls_41 (by decide) (fun h => ?_) (fun h => ?_)
    · replace hf := it_t h hf
      refine lv_iload_n hx hb dX12_calls_64 rfl (lv_at hl 0 rfl) ?_
      exact zreti E hw hr hlk (rt_a hf) (rt_b hf) dX12_calls_65
    · replace hf := it_n h hf
      refine lv_aload_n hx hb dX12_calls_44 rfl (lv_at hl 1 rfl) ?_
      refine zget E hw (Nat.le_of_ble_eq_true rfl) (ceM_0 ad cy _) rfl inX12 39 (by decide) k6_22 (fun _ h => h) rfl dX12_calls_45 ?_
      refine lv_if_ne (tgt := 64) hx hb dX12_calls_48 (by decide) (fun h => ?_) (fun h => ?_)
      · replace hf := it_t h hf
        refine lv_iload_n hx hb dX12_calls_64 rfl (lv_at hl 0 rfl) ?_
        exact zreti E hw hr hlk (rt_a hf) (rt_b hf) dX12_calls_65
      · replace hf := it_n h hf
        refine lv_iload_n hx hb dX12_calls_51 rfl (lv_at hl 0 rfl) ?_
        refine lv_aload_n hx hb dX12_calls_52 rfl (lv_at hl 1 rfl) ?_
        refine lv_aload_n hx hb dX12_calls_53 rfl (lv_at hl 1 rfl) ?_
        refine zget E hw (Nat.le_of_ble_eq_true rfl) (ceM_0 ad cy _) rfl inX12 36 (by decide) k6_19 (fun _ h => h) rfl dX12_calls_54 ?_
        obtain ⟨vq8, σ9, hc, hf⟩ := bd2_e hf
        refine zcali hw (va_runV (As := [.int (σ6 0 36)]) (rest := [.int vq7]) E.fix (c_X12_reads (l := l) hA (σ6 0 36) σ6 hc) (zcV E k8_142 k1_14 k8_139 k8_141 kp7_1 mf_X12_reads rfl rfl ⟨Nat.le_of_ble_eq_true rfl, Nat.le_of_ble_eq_true rfl⟩) (zPreV E hw (Nat.le_of_ble_eq_true rfl) (ceM_0 ad cy _) rfl _) rfl rfl hl.1 rfl (lv_room (Nat.le_of_ble_eq_true rfl)) dX12_calls_57 ⟨Nat.zero_le _, Nat.zero_le _⟩) (fun H locs hw => ?_)
        refine lv_isub hx hb dX12_calls_60 ?_
        refine lv_goto (tgt := 65) hx hb dX12_calls_61 (by decide) ?_
        exact zreti E hw hr hlk (rt_a hf) (rt_b hf) dX12_calls_65
  unfold f_X12_calls at hf
  refine lv_aload_n hx hb dX12_calls_0 rfl (lv_at hl 0 rfl) ?_
  refine zget E hw (Nat.le_of_ble_eq_true rfl) (ceM_0 ad cy _) rfl inX12 38 (by decide) k6_21 (fun _ h => h) rfl dX12_calls_1 ?_
  refine lv_iconst (v := 3) hx hb dX12_calls_4 (by decide) ?_
  refine lv_icmp_ne (tgt := 14) hx hb dX12_calls_5 (by decide) (fun h => ?_) (fun h => ?_)
  · replace hf := it_t h hf
    exact hB14 xq1 σ _ _ _ hw (lv_sub hl [0, 1] rfl) hf
  · replace hf := it_n h hf
    refine lv_aload_n hx hb dX12_calls_8 rfl (lv_at hl 0 rfl) ?_
    refine lv_bipush (v := 51) hx hb dX12_calls_9 (by decide) ?_
    obtain ⟨σ1, hc, hf⟩ := bd_e hf
    refine zcalv hw (va_runV (As := [.int 51]) (rest := []) E.fix (c_X12_runs (l := l) hA 51 σ hc) (zcV E k8_138 k1_14 k8_135 k8_137 kp7_0 mf_X12_runs rfl rfl ⟨Nat.le_of_ble_eq_true rfl, Nat.le_of_ble_eq_true rfl⟩) (zPreV E hw (Nat.le_of_ble_eq_true rfl) (ceM_0 ad cy _) rfl _) rfl rfl hl.1 rfl (lv_room (Nat.le_of_ble_eq_true rfl)) dX12_calls_11 ⟨Nat.zero_le _, Nat.zero_le _⟩) (fun H locs hw => ?_)
    exact hB14 xq1 σ1 _ _ _ hw (lv_sub hl [0, 1] rfl) hf
