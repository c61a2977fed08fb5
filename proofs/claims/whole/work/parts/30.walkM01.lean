set_option maxRecDepth 100000 in
set_option maxHeartbeats 4000000 in
theorem c_X12_remake {l : Launch} {D : va_G} {cy : Cy} {ad : Nat → Nat} {A : Nat → Prop} (hA : okAd 17 ad A) (xq1 : Int32) (xq2 : Int32) (σ : Sg) {r : Int32} {σ9 : Sg} (hf : f_X12_remake xq1 xq2 σ = some (r, σ9)) : Met l yX12_remake (.code yX12_remake cX12_remake 3 (some .int) :: TT) ({ frames := 2, cells := 0, slots := 0, locals := 46 } : Room) (zPc D cy 17 (celM ad cy) ad A [.ref (ad 0), .int xq1, .int xq2] σ) (zQi D 17 (celM ad cy) ad A r σ9) 0 0 A := by
  refine zofW (by decide) hA (Nat.le_of_ble_eq_true rfl) ?_
  intro p e s m args below meth c ls E hw hr hlk hl
  have E : ZE p s m args c cX12_remake 3 "KiteSummonsModel" D cy 17 ad A := E
  have hx := E.hx
  have hb := E.hb
  have hl : lv_has ls 3 [(0, .ref (ad 0)), (1, .int xq1), (2, .int xq2)] := hl
  unfold f_X12_remake at hf
  refine lv_aload_n hx hb dX12_remake_0 rfl (lv_at hl 0 rfl) ?_
  refine lv_iload_n hx hb dX12_remake_1 rfl (lv_at hl 1 rfl) ?_
  refine zcali hw (va_runV (As := [.int xq1]) (rest := []) E.fix (c_X12_isKite (l := l) hA xq1 σ rfl) (zcV E k6_137 k1_14 k6_134 k6_136 kp3_7 mf_X12_isKite rfl rfl ⟨Nat.le_of_ble_eq_true rfl, Nat.le_of_ble_eq_true rfl⟩) (zPreV E hw (Nat.le_of_ble_eq_true rfl) (ceM_0 ad cy _) rfl _) rfl rfl hl.1 rfl (lv_room (Nat.le_of_ble_eq_true rfl)) dX12_remake_2 ⟨Nat.zero_le _, Nat.zero_le _⟩) (fun H locs hw => ?_)
  refine lv_if_eq (tgt := 28) hx hb dX12_remake_5 (by decide) (fun h => ?_) (fun h => ?_)
  · replace hf := it_f (b2i_0 h) hf
    refine lv_iconst (v := (-1)) hx hb dX12_remake_28 (by decide) ?_
    exact zreti E hw hr hlk (rt_a hf) (rt_b hf) dX12_remake_29
  · replace hf := it_t (b2i_n h) hf
    refine lv_iload_n hx hb dX12_remake_8 rfl (lv_at hl 2 rfl) ?_
    refine zcali hw (va_runS (As := [.int xq2]) (rest := []) E.fix (c_X12_isKind (l := l) hA xq2 σ rfl) (zcS E k6_110 k1_14 k6_108 k6_109 mf_X12_isKind rfl rfl ⟨Nat.le_of_ble_eq_true rfl, Nat.le_of_ble_eq_true rfl⟩) (zPre E hw _) rfl rfl hl.1 rfl (lv_room (Nat.le_of_ble_eq_true rfl)) dX12_remake_9 ⟨Nat.zero_le _, Nat.zero_le _⟩) (fun H locs hw => ?_)
    refine lv_if_eq (tgt := 28) hx hb dX12_remake_12 (by decide) (fun h => ?_) (fun h => ?_)
    · replace hf := it_f (b2i_0 h) hf
      refine lv_iconst (v := (-1)) hx hb dX12_remake_28 (by decide) ?_
      exact zreti E hw hr hlk (rt_a hf) (rt_b hf) dX12_remake_29
    · replace hf := it_t (b2i_n h) hf
      refine lv_aload_n hx hb dX12_remake_15 rfl (lv_at hl 0 rfl) ?_
      refine lv_iload_n hx hb dX12_remake_16 rfl (lv_at hl 1 rfl) ?_
      refine lv_iconst (v := 0) hx hb dX12_remake_17 (by decide) ?_
      refine zcali hw (va_runS (As := [.int xq1, .int 0]) (rest := [.ref (ad 0)]) E.fix (c_X12_at (l := l) hA xq1 0 σ rfl) (zcS E k6_129 k1_14 k6_127 k6_128 mf_X12_at rfl rfl ⟨Nat.le_of_ble_eq_true rfl, Nat.le_of_ble_eq_true rfl⟩) (zPre E hw _) rfl rfl hl.1 rfl (lv_room (Nat.le_of_ble_eq_true rfl)) dX12_remake_18 ⟨Nat.zero_le _, Nat.zero_le _⟩) (fun H locs hw => ?_)
      refine lv_iload_n hx hb dX12_remake_21 rfl (lv_at hl 2 rfl) ?_
      obtain ⟨vq1, σ2, hc, hf⟩ := bd2_e hf
      refine zcali hw (va_runV (As := [.int (f_X12_at xq1 0 σ), .int xq2]) (rest := []) E.fix (c_X12_becomes (l := l) hA (f_X12_at xq1 0 σ) xq2 σ hc) (zcV E k6_192 k1_14 k6_189 k6_191 kp4_0 mf_X12_becomes rfl rfl ⟨Nat.le_of_ble_eq_true rfl, Nat.le_of_ble_eq_true rfl⟩) (zPreV E hw (Nat.le_of_ble_eq_true rfl) (ceM_0 ad cy _) rfl _) rfl rfl hl.1 rfl (lv_room (Nat.le_of_ble_eq_true rfl)) dX12_remake_22 ⟨Nat.zero_le _, Nat.zero_le _⟩) (fun H locs hw => ?_)
      refine lv_goto (tgt := 29) hx hb dX12_remake_25 (by decide) ?_
      exact zreti E hw hr hlk (rt_a hf) (rt_b hf) dX12_remake_29
set_option maxRecDepth 100000 in
set_option maxHeartbeats 4000000 in
theorem c_X12_isGust {l : Launch} {D : va_G} {cy : Cy} {ad : Nat → Nat} {A : Nat → Prop} (hA : okAd 17 ad A) (xq0 : Int32) (σ : Sg) {r : Bool} (hf : f_X12_isGust xq0 σ = r) : Met l yX12_isGust (.code yX12_isGust cX12_isGust 1 (some .boolean) :: TT) ({ frames := 1, cells := 0, slots := 0, locals := 25 } : Room) (zPc D cy 17 (celM ad cy) ad A [.int xq0] σ) (zQi D 17 (celM ad cy) ad A (b2i r) σ) 0 0 A := by
  refine zofW (by decide) hA (Nat.le_of_ble_eq_true rfl) ?_
  intro p e s m args below meth c ls E hw hr hlk hl
  have E : ZE p s m args c cX12_isGust 1 "KiteSummonsModel" D cy 17 ad A := E
  have hx := E.hx
  have hb := E.hb
  have hl : lv_has ls 1 [(0, .int xq0)] := hl
  unfold f_X12_isGust at hf
  refine lv_iload_n hx hb dX12_isGust_0 rfl (lv_at hl 0 rfl) ?_
  refine lv_i2l hx hb dX12_isGust_1 rfl ?_
  refine lv_lconst (v := 0) hx hb dX12_isGust_2 (by decide) ?_
  refine lv_ldc2 (v := 15) hx hb E.hown (E.ht _ k6_204) dX12_isGust_3 ?_
  refine zcali hw (va_runS (As := [.long xq0.toInt64, .long (0 : Int64), .long (15 : Int64)]) (rest := []) E.fix (c_X12_in (l := l) hA xq0.toInt64 (0 : Int64) (15 : Int64) σ rfl) (zcS E k6_114 k1_14 k6_112 k6_113 mf_X12_in rfl rfl ⟨Nat.le_of_ble_eq_true rfl, Nat.le_of_ble_eq_true rfl⟩) (zPre E hw _) rfl rfl hl.1 rfl (lv_room (Nat.le_of_ble_eq_true rfl)) dX12_isGust_6 ⟨Nat.zero_le _, Nat.zero_le _⟩) (fun H locs hw => ?_)
  exact zretz E hw hr hlk (b_e hf (by rfl)) rfl dX12_isGust_9
set_option maxRecDepth 100000 in
set_option maxHeartbeats 4000000 in
theorem c_X12_wind {l : Launch} {D : va_G} {cy : Cy} {ad : Nat → Nat} {A : Nat → Prop} (hA : okAd 17 ad A) (xq1 : Int32) (xq2 : Int32) (σ : Sg) {r : Int32} {σ9 : Sg} (hf : f_X12_wind xq1 xq2 σ = some (r, σ9)) : Met l yX12_wind (.code yX12_wind cX12_wind 3 (some .int) :: TT) ({ frames := 2, cells := 0, slots := 0, locals := 45 } : Room) (zPc D cy 17 (celM ad cy) ad A [.ref (ad 0), .int xq1, .int xq2] σ) (zQi D 17 (celM ad cy) ad A r σ9) 0 0 A := by
  refine zofW (by decide) hA (Nat.le_of_ble_eq_true rfl) ?_
  intro p e s m args below meth c ls E hw hr hlk hl
  have E : ZE p s m args c cX12_wind 3 "KiteSummonsModel" D cy 17 ad A := E
  have hx := E.hx
  have hb := E.hb
  have hl : lv_has ls 3 [(0, .ref (ad 0)), (1, .int xq1), (2, .int xq2)] := hl
  unfold f_X12_wind at hf
  refine lv_iload_n hx hb dX12_wind_0 rfl (lv_at hl 1 rfl) ?_
  refine zcali hw (va_runS (As := [.int xq1]) (rest := []) E.fix (c_X12_isGust (l := l) hA xq1 σ rfl) (zcS E k6_203 k1_14 k6_201 k6_202 mf_X12_isGust rfl rfl ⟨Nat.le_of_ble_eq_true rfl, Nat.le_of_ble_eq_true rfl⟩) (zPre E hw _) rfl rfl hl.1 rfl (lv_room (Nat.le_of_ble_eq_true rfl)) dX12_wind_1 ⟨Nat.zero_le _, Nat.zero_le _⟩) (fun H locs hw => ?_)
  refine lv_if_eq (tgt := 31) hx hb dX12_wind_4 (by decide) (fun h => ?_) (fun h => ?_)
  · replace hf := it_f (b2i_0 h) hf
    refine lv_iconst (v := (-1)) hx hb dX12_wind_31 (by decide) ?_
    exact zreti E hw hr hlk (rt_a hf) (rt_b hf) dX12_wind_32
  · replace hf := it_t (b2i_n h) hf
    refine lv_iload_n hx hb dX12_wind_7 rfl (lv_at hl 2 rfl) ?_
    refine lv_i2l hx hb dX12_wind_8 rfl ?_
    refine lv_lconst (v := 0) hx hb dX12_wind_9 (by decide) ?_
    refine lv_ldc2 (v := 15) hx hb E.hown (E.ht _ k6_204) dX12_wind_10 ?_
    refine zcali hw (va_runS (As := [.long xq2.toInt64, .long (0 : Int64), .long (15 : Int64)]) (rest := []) E.fix (c_X12_in (l := l) hA xq2.toInt64 (0 : Int64) (15 : Int64) σ rfl) (zcS E k6_114 k1_14 k6_112 k6_113 mf_X12_in rfl rfl ⟨Nat.le_of_ble_eq_true rfl, Nat.le_of_ble_eq_true rfl⟩) (zPre E hw _) rfl rfl hl.1 rfl (lv_room (Nat.le_of_ble_eq_true rfl)) dX12_wind_13 ⟨Nat.zero_le _, Nat.zero_le _⟩) (fun H locs hw => ?_)
    refine lv_if_eq (tgt := 31) hx hb dX12_wind_16 (by decide) (fun h => ?_) (fun h => ?_)
    · replace hf := it_f (b2i_0 h) hf
      refine lv_iconst (v := (-1)) hx hb dX12_wind_31 (by decide) ?_
      exact zreti E hw hr hlk (rt_a hf) (rt_b hf) dX12_wind_32
    · replace hf := it_t (b2i_n h) hf
      refine lv_aload_n hx hb dX12_wind_19 rfl (lv_at hl 0 rfl) ?_
      refine lv_bipush (v := 7) hx hb dX12_wind_20 (by decide) ?_
      refine lv_iload_n hx hb dX12_wind_22 rfl (lv_at hl 1 rfl) ?_
      refine lv_iadd hx hb dX12_wind_23 ?_
      refine lv_iload_n hx hb dX12_wind_24 rfl (lv_at hl 2 rfl) ?_
      obtain ⟨vq1, σ2, hc, hf⟩ := bd2_e hf
      refine zcali hw (va_runV (As := [.int (7 + xq1), .int xq2]) (rest := []) E.fix (c_X12_becomes (l := l) hA (7 + xq1) xq2 σ hc) (zcV E k6_192 k1_14 k6_189 k6_191 kp4_0 mf_X12_becomes rfl rfl ⟨Nat.le_of_ble_eq_true rfl, Nat.le_of_ble_eq_true rfl⟩) (zPreV E hw (Nat.le_of_ble_eq_true rfl) (ceM_0 ad cy _) rfl _) rfl rfl hl.1 rfl (lv_room (Nat.le_of_ble_eq_true rfl)) dX12_wind_25 ⟨Nat.zero_le _, Nat.zero_le _⟩) (fun H locs hw => ?_)
      refine lv_goto (tgt := 32) hx hb dX12_wind_28 (by decide) ?_
      exact zreti E hw hr hlk (rt_a hf) (rt_b hf) dX12_wind_32
set_option maxRecDepth 100000 in
set_option maxHeartbeats 4000000 in
theorem c_X12_farm {l : Launch} {D : va_G} {cy : Cy} {ad : Nat → Nat} {A : Nat → Prop} (hA : okAd 17 ad A) (xq1 : Int32) (xq2 : Int32) (xq3 : Int32) (σ : Sg) {r : Int32} {σ9 : Sg} (hf : f_X12_farm xq1 xq2 xq3 σ = some (r, σ9)) : Met l yX12_farm (.code yX12_farm cX12_farm 5 (some .int) :: TT) ({ frames := 2, cells := 0, slots := 0, locals := 45 } : Room) (zPc D cy 17 (celM ad cy) ad A [.ref (ad 0), .int xq1, .int xq2, .int xq3] σ) (zQi D 17 (celM ad cy) ad A r σ9) 0 0 A := by
  refine zofW (by decide) hA (Nat.le_of_ble_eq_true rfl) ?_
  intro p e s m args below meth c ls E hw hr hlk hl
  have E : ZE p s m args c cX12_farm 5 "KiteSummonsModel" D cy 17 ad A := E
  have hx := E.hx
  have hb := E.hb
  have hl : lv_has ls 5 [(0, .ref (ad 0)), (1, .int xq1), (2, .int xq2), (3, .int xq3)] := hl
  have hB33 : ∀ (xq1 : Int32) (xq2 : Int32) (xq3 : Int32) (tq0 : Int32) (σ : Sg) (H : Heap) (locs : List Loc) (ls : Array Slot), ZS D 17 (celM ad cy) ad A s σ H locs → lv_has ls 5 [(0, .ref (ad 0)), (1, .int xq1), (2, .int xq2), (3, .int xq3)] → f_X12_farm_b33 xq1 xq2 xq3 tq0 σ = some (r, σ9) → W p l e ({ frames := 2, cells := 0, slots := 0, locals := 45 } : Room) s m args below meth c H locs 0 0 (MQ below (zQi D 17 (celM ad cy) ad A r σ9) args s 0 0 A) (F0 m 33 ls [.int tq0]) := by
    intro xq1 xq2 xq3 tq0 σ H locs ls hw hl hf
    unfold f_X12_farm_b33 at hf
    refine lv_istore (lv' := [(4, .int tq0), (0, .ref (ad 0)), (1, .int xq1), (2, .int xq2), (3, .int xq3)]) hx hb dX12_farm_33 hl (by decide) rfl (fun ls hl => ?_)
    refine lv_iload_n hx hb dX12_farm_35 rfl (lv_at hl 2 rfl) ?_
    refine zcali hw (va_runS (As := [.int xq1]) (rest := []) E.fix (c_X12_isFarm (l := l) hA xq1 σ rfl) (zcS E k6_125 k1_14 k6_123 k6_124 mf_X12_isFarm rfl rfl ⟨Nat.le_of_ble_eq_true rfl, Nat.le_of_ble_eq_true rfl⟩) (zPre E hw _) rfl rfl hl.1 rfl (lv_room (Nat.le_of_ble_eq_true rfl)) dX12_farm_36 ⟨Nat.zero_le _, Nat.zero_le _⟩) (fun H locs hw => ?_)
    refine lv_if_eq (tgt := 63) hx hb dX12_farm_39 (by decide) (fun h => ?_) (fun h => ?_)
    · replace hf := it_f (b2i_0 h) hf
      refine lv_iconst (v := (-1)) hx hb dX12_farm_63 (by decide) ?_
      exact zreti E hw hr hlk (rt_a hf) (rt_b hf) dX12_farm_64
    · replace hf := it_t (b2i_n h) hf
      refine lv_iload hx hb dX12_farm_42 (lv_at hl 0 rfl) ?_
      refine lv_if_eq (tgt := 63) hx hb dX12_farm_44 (by decide) (fun h => ?_) (fun h => ?_)
      · replace hf := it_t h hf
        refine lv_iconst (v := (-1)) hx hb dX12_farm_63 (by decide) ?_
        exact zreti E hw hr hlk (rt_a hf) (rt_b hf) dX12_farm_64
      · replace hf := it_f h hf
        refine lv_aload_n hx hb dX12_farm_47 rfl (lv_at hl 1 rfl) ?_
        refine lv_bipush (v := 23) hx hb dX12_farm_48 (by decide) ?_
        refine lv_iconst (v := 2) hx hb dX12_farm_50 (by decide) ?_
        refine lv_iload_n hx hb dX12_farm_51 rfl (lv_at hl 2 rfl) ?_
        refine lv_imul hx hb dX12_farm_52 ?_
        refine lv_iadd hx hb dX12_farm_53 ?_
        refine lv_iload_n hx hb dX12_farm_54 rfl (lv_at hl 3 rfl) ?_
        refine lv_iadd hx hb dX12_farm_55 ?_
        refine lv_iload_n hx hb dX12_farm_56 rfl (lv_at hl 4 rfl) ?_
        obtain ⟨vq1, σ2, hc, hf⟩ := bd2_e hf
        refine zcali hw (va_runV (As := [.int ((23 + (2 * xq1)) + xq2), .int xq3]) (rest := []) E.fix (c_X12_becomes (l := l) hA ((23 + (2 * xq1)) + xq2) xq3 σ hc) (zcV E k6_192 k1_14 k6_189 k6_191 kp4_0 mf_X12_becomes rfl rfl ⟨Nat.le_of_ble_eq_true rfl, Nat.le_of_ble_eq_true rfl⟩) (zPreV E hw (Nat.le_of_ble_eq_true rfl) (ceM_0 ad cy _) rfl _) rfl rfl hl.1 rfl (lv_room (Nat.le_of_ble_eq_true rfl)) dX12_farm_57 ⟨Nat.zero_le _, Nat.zero_le _⟩) (fun H locs hw => ?_)
        refine lv_goto (tgt := 64) hx hb dX12_farm_60 (by decide) ?_
        exact zreti E hw hr hlk (rt_a hf) (rt_b hf) dX12_farm_64
  unfold f_X12_farm at hf
  refine lv_iload_n hx hb dX12_farm_0 rfl (lv_at hl 2 rfl) ?_
  refine lv_if_ne (tgt := 11) hx hb dX12_farm_1 (by decide) (fun h => ?_) (fun h => ?_)
  · replace hf := it_t h hf
    refine lv_iload_n hx hb dX12_farm_11 rfl (lv_at hl 2 rfl) ?_
    refine lv_iconst (v := 1) hx hb dX12_farm_12 (by decide) ?_
    refine lv_icmp_ne (tgt := 32) hx hb dX12_farm_13 (by decide) (fun h => ?_) (fun h => ?_)
    · replace hf := it_t h hf
      refine lv_iconst (v := 0) hx hb dX12_farm_32 (by decide) ?_
      exact hB33 xq1 xq2 xq3 0 σ _ _ _ hw (lv_sub hl [0, 1, 2, 3] rfl) hf
    · replace hf := it_n h hf
      refine lv_iload_n hx hb dX12_farm_16 rfl (lv_at hl 3 rfl) ?_
      refine lv_i2l hx hb dX12_farm_17 rfl ?_
      refine lv_lconst (v := 0) hx hb dX12_farm_18 (by decide) ?_
      refine lv_ldc2 (v := 14) hx hb E.hown (E.ht _ k6_209) dX12_farm_19 ?_
      refine zcali hw (va_runS (As := [.long xq3.toInt64, .long (0 : Int64), .long (14 : Int64)]) (rest := []) E.fix (c_X12_in (l := l) hA xq3.toInt64 (0 : Int64) (14 : Int64) σ rfl) (zcS E k6_114 k1_14 k6_112 k6_113 mf_X12_in rfl rfl ⟨Nat.le_of_ble_eq_true rfl, Nat.le_of_ble_eq_true rfl⟩) (zPre E hw _) rfl rfl hl.1 rfl (lv_room (Nat.le_of_ble_eq_true rfl)) dX12_farm_22 ⟨Nat.zero_le _, Nat.zero_le _⟩) (fun H locs hw => ?_)
      refine lv_if_eq (tgt := 32) hx hb dX12_farm_25 (by decide) (fun h => ?_) (fun h => ?_)
      · replace hf := it_f (b2i_0 h) hf
        refine lv_iconst (v := 0) hx hb dX12_farm_32 (by decide) ?_
        exact hB33 xq1 xq2 xq3 0 σ _ _ _ hw (lv_sub hl [0, 1, 2, 3] rfl) hf
      · replace hf := it_t (b2i_n h) hf
        refine lv_iconst (v := 1) hx hb dX12_farm_28 (by decide) ?_
        refine lv_goto (tgt := 33) hx hb dX12_farm_29 (by decide) ?_
        exact hB33 xq1 xq2 xq3 1 σ _ _ _ hw (lv_sub hl [0, 1, 2, 3] rfl) hf
  · replace hf := it_n h hf
    refine lv_iload_n hx hb dX12_farm_4 rfl (lv_at hl 3 rfl) ?_
    refine zcali hw (va_runS (As := [.int xq3]) (rest := []) E.fix (c_X12_isCell (l := l) hA xq3 σ rfl) (zcS E k6_120 k1_14 k6_118 k6_119 mf_X12_isCell rfl rfl ⟨Nat.le_of_ble_eq_true rfl, Nat.le_of_ble_eq_true rfl⟩) (zPre E hw _) rfl rfl hl.1 rfl (lv_room (Nat.le_of_ble_eq_true rfl)) dX12_farm_5 ⟨Nat.zero_le _, Nat.zero_le _⟩) (fun H locs hw => ?_)
    refine lv_goto (tgt := 33) hx hb dX12_farm_8 (by decide) ?_
    exact hB33 xq1 xq2 xq3 (b2i (f_X12_isCell xq3 σ)) σ _ _ _ hw (lv_sub hl [0, 1, 2, 3] rfl) hf
set_option maxRecDepth 100000 in
set_option maxHeartbeats 4000000 in
theorem c_X12_farmOf {l : Launch} {D : va_G} {cy : Cy} {ad : Nat → Nat} {A : Nat → Prop} (hA : okAd 17 ad A) (xq1 : Int32) (xq2 : Int32) (σ : Sg) {r : Int32} (hf : f_X12_farmOf xq1 xq2 σ = some r) : Met l yX12_farmOf (.code yX12_farmOf cX12_farmOf 3 (some .int) :: TT) ({ frames := 2, cells := 0, slots := 0, locals := 45 } : Room) (zPc D cy 17 (celM ad cy) ad A [.ref (ad 0), .int xq1, .int xq2] σ) (zQi D 17 (celM ad cy) ad A r σ) 0 0 A := by
  refine zofW (by decide) hA (Nat.le_of_ble_eq_true rfl) ?_
  intro p e s m args below meth c ls E hw hr hlk hl
  have E : ZE p s m args c cX12_farmOf 3 "KiteSummonsModel" D cy 17 ad A := E
  have hx := E.hx
  have hb := E.hb
  have hl : lv_has ls 3 [(0, .ref (ad 0)), (1, .int xq1), (2, .int xq2)] := hl
  unfold f_X12_farmOf at hf
  refine lv_iload_n hx hb dX12_farmOf_0 rfl (lv_at hl 1 rfl) ?_
  refine zcali hw (va_runS (As := [.int xq1]) (rest := []) E.fix (c_X12_isFarm (l := l) hA xq1 σ rfl) (zcS E k6_125 k1_14 k6_123 k6_124 mf_X12_isFarm rfl rfl ⟨Nat.le_of_ble_eq_true rfl, Nat.le_of_ble_eq_true rfl⟩) (zPre E hw _) rfl rfl hl.1 rfl (lv_room (Nat.le_of_ble_eq_true rfl)) dX12_farmOf_1 ⟨Nat.zero_le _, Nat.zero_le _⟩) (fun H locs hw => ?_)
  refine lv_if_eq (tgt := 33) hx hb dX12_farmOf_4 (by decide) (fun h => ?_) (fun h => ?_)
  · replace hf := it_f (b2i_0 h) hf
    refine lv_iconst (v := (-1)) hx hb dX12_farmOf_33 (by decide) ?_
    exact zreti E hw hr hlk (rt_1 hf) rfl dX12_farmOf_34
  · replace hf := it_t (b2i_n h) hf
    refine lv_iload_n hx hb dX12_farmOf_7 rfl (lv_at hl 2 rfl) ?_
    refine lv_i2l hx hb dX12_farmOf_8 rfl ?_
    refine lv_lconst (v := 0) hx hb dX12_farmOf_9 (by decide) ?_
    refine lv_lconst (v := 1) hx hb dX12_farmOf_10 (by decide) ?_
    refine zcali hw (va_runS (As := [.long xq2.toInt64, .long (0 : Int64), .long (1 : Int64)]) (rest := []) E.fix (c_X12_in (l := l) hA xq2.toInt64 (0 : Int64) (1 : Int64) σ rfl) (zcS E k6_114 k1_14 k6_112 k6_113 mf_X12_in rfl rfl ⟨Nat.le_of_ble_eq_true rfl, Nat.le_of_ble_eq_true rfl⟩) (zPre E hw _) rfl rfl hl.1 rfl (lv_room (Nat.le_of_ble_eq_true rfl)) dX12_farmOf_11 ⟨Nat.zero_le _, Nat.zero_le _⟩) (fun H locs hw => ?_)
    refine lv_if_eq (tgt := 33) hx hb dX12_farmOf_14 (by decide) (fun h => ?_) (fun h => ?_)
    · replace hf := it_f (b2i_0 h) hf
      refine lv_iconst (v := (-1)) hx hb dX12_farmOf_33 (by decide) ?_
      exact zreti E hw hr hlk (rt_1 hf) rfl dX12_farmOf_34
    · replace hf := it_t (b2i_n h) hf
      refine lv_aload_n hx hb dX12_farmOf_17 rfl (lv_at hl 0 rfl) ?_
      refine zget E hw (Nat.le_of_ble_eq_true rfl) (ceM_0 ad cy _) rfl inX12 0 (by decide) k5_223 (fun _ h => h) rfl dX12_farmOf_18 ?_
      refine lv_bipush (v := 23) hx hb dX12_farmOf_21 (by decide) ?_
      refine lv_iconst (v := 2) hx hb dX12_farmOf_23 (by decide) ?_
      refine lv_iload_n hx hb dX12_farmOf_24 rfl (lv_at hl 1 rfl) ?_
      refine lv_imul hx hb dX12_farmOf_25 ?_
      refine lv_iadd hx hb dX12_farmOf_26 ?_
      refine lv_iload_n hx hb dX12_farmOf_27 rfl (lv_at hl 2 rfl) ?_
      refine lv_iadd hx hb dX12_farmOf_28 ?_
      obtain ⟨vq1, hvq1, hf⟩ := bd_e hf
      refine zaldr E hw (Nat.le_of_ble_eq_true rfl) (ceM_1 ad cy) hvq1 dX12_farmOf_29 ?_
      refine lv_goto (tgt := 34) hx hb dX12_farmOf_30 (by decide) ?_
      exact zreti E hw hr hlk (rt_1 hf) rfl dX12_farmOf_34
set_option maxRecDepth 100000 in
set_option maxHeartbeats 4000000 in
theorem c_X12_ends {l : Launch} {D : va_G} {cy : Cy} {ad : Nat → Nat} {A : Nat → Prop} (hA : okAd 17 ad A) (xq1 : Int32) (σ : Sg) {r : Int32} {σ9 : Sg} (hf : f_X12_ends xq1 σ = some (r, σ9)) : Met l yX12_ends (.code yX12_ends cX12_ends 2 (some .int) :: TT) ({ frames := 1, cells := 0, slots := 0, locals := 25 } : Room) (zPc D cy 17 (celM ad cy) ad A [.ref (ad 0), .int xq1] σ) (zQi D 17 (celM ad cy) ad A r σ9) 0 0 A := by
  refine zofW (by decide) hA (Nat.le_of_ble_eq_true rfl) ?_
  intro p e s m args below meth c ls E hw hr hlk hl
  have E : ZE p s m args c cX12_ends 2 "KiteSummonsModel" D cy 17 ad A := E
  have hx := E.hx
  have hb := E.hb
  have hl : lv_has ls 2 [(0, .ref (ad 0)), (1, .int xq1)] := hl
  unfold f_X12_ends at hf
  refine lv_iload_n hx hb dX12_ends_0 rfl (lv_at hl 1 rfl) ?_
  refine lv_i2l hx hb dX12_ends_1 rfl ?_
  refine lv_lconst (v := 1) hx hb dX12_ends_2 (by decide) ?_
  refine lv_ldc2 (v := 16) hx hb E.hown (E.ht _ k6_218) dX12_ends_3 ?_
  refine zcali hw (va_runS (As := [.long xq1.toInt64, .long (1 : Int64), .long (16 : Int64)]) (rest := []) E.fix (c_X12_in (l := l) hA xq1.toInt64 (1 : Int64) (16 : Int64) σ rfl) (zcS E k6_114 k1_14 k6_112 k6_113 mf_X12_in rfl rfl ⟨Nat.le_of_ble_eq_true rfl, Nat.le_of_ble_eq_true rfl⟩) (zPre E hw _) rfl rfl hl.1 rfl (lv_room (Nat.le_of_ble_eq_true rfl)) dX12_ends_6 ⟨Nat.zero_le _, Nat.zero_le _⟩) (fun H locs hw => ?_)
  refine lv_if_ne (tgt := 16) hx hb dX12_ends_9 (by decide) (fun h => ?_) (fun h => ?_)
  · replace hf := it_t (b2i_n h) hf
    refine lv_iload_n hx hb dX12_ends_16 rfl (lv_at hl 1 rfl) ?_
    refine lv_aload_n hx hb dX12_ends_17 rfl (lv_at hl 0 rfl) ?_
    refine zget E hw (Nat.le_of_ble_eq_true rfl) (ceM_0 ad cy _) rfl inX12 0 (by decide) k5_223 (fun _ h => h) rfl dX12_ends_18 ?_
    refine lv_iconst (v := 3) hx hb dX12_ends_21 (by decide) ?_
    refine zaldk E hw (Nat.le_of_ble_eq_true rfl) (ceM_1 ad cy) 3 (by rfl) (Nat.le_of_ble_eq_true rfl) (by decide) dX12_ends_22 ?_
    refine lv_icmp_ge (tgt := 31) hx hb dX12_ends_23 (by decide) (fun h => ?_) (fun h => ?_)
    · replace hf := it_t h hf
      refine lv_aload_n hx hb dX12_ends_31 rfl (lv_at hl 0 rfl) ?_
      refine lv_iconst (v := 2) hx hb dX12_ends_32 (by decide) ?_
      refine lv_iload_n hx hb dX12_ends_33 rfl (lv_at hl 1 rfl) ?_
      obtain ⟨vq1, σ2, hc, hf⟩ := bd2_e hf
      refine zcali hw (va_runV (As := [.int 2, .int xq1]) (rest := []) E.fix (c_X12_becomes (l := l) hA 2 xq1 σ hc) (zcV E k6_192 k1_14 k6_189 k6_191 kp4_0 mf_X12_becomes rfl rfl ⟨Nat.le_of_ble_eq_true rfl, Nat.le_of_ble_eq_true rfl⟩) (zPreV E hw (Nat.le_of_ble_eq_true rfl) (ceM_0 ad cy _) rfl _) rfl rfl hl.1 rfl (lv_room (Nat.le_of_ble_eq_true rfl)) dX12_ends_34 ⟨Nat.zero_le _, Nat.zero_le _⟩) (fun H locs hw => ?_)
      exact zreti E hw hr hlk (rt_a hf) (rt_b hf) dX12_ends_37
    · replace hf := it_f h hf
      refine lv_bipush (v := (-4)) hx hb dX12_ends_26 (by decide) ?_
      refine lv_goto (tgt := 37) hx hb dX12_ends_28 (by decide) ?_
      exact zreti E hw hr hlk (rt_a hf) (rt_b hf) dX12_ends_37
  · replace hf := it_f (b2i_0 h) hf
    refine lv_iconst (v := (-1)) hx hb dX12_ends_12 (by decide) ?_
    refine lv_goto (tgt := 37) hx hb dX12_ends_13 (by decide) ?_
    exact zreti E hw hr hlk (rt_a hf) (rt_b hf) dX12_ends_37
set_option maxRecDepth 100000 in
set_option maxHeartbeats 4000000 in
theorem c_X12_anew {l : Launch} {D : va_G} {cy : Cy} {ad : Nat → Nat} {A : Nat → Prop} (hA : okAd 17 ad A) (σ : Sg) {r : Int32} {σ9 : Sg} (hf : f_X12_anew σ = some (r, σ9)) : Met l yX12_anew (.code yX12_anew cX12_anew 2 (some .int) :: TT) ({ frames := 1, cells := 0, slots := 0, locals := 23 } : Room) (zPc D cy 17 (celM ad cy) ad A [.ref (ad 0)] σ) (zQi D 17 (celM ad cy) ad A r σ9) 0 0 A := by
  refine zofW (by decide) hA (Nat.le_of_ble_eq_true rfl) ?_
  intro p e s m args below meth c ls E hw hr hlk hl
  have E : ZE p s m args c cX12_anew 2 "KiteSummonsModel" D cy 17 ad A := E
  have hx := E.hx
  have hb := E.hb
  have hl : lv_has ls 2 [(0, .ref (ad 0))] := hl
  have hB9 : ∀ (kq9 : Int32 → Sg → Option (Int32 × Sg)) (hkq9 : ∀ (xq1 : Int32) (σ : Sg) (H : Heap) (locs : List Loc) (ls : Array Slot), ZS D 17 (celM ad cy) ad A s σ H locs → lv_has ls 2 [(0, .ref (ad 0)), (1, .int xq1)] → kq9 xq1 σ = some (r, σ9) → W p l e ({ frames := 1, cells := 0, slots := 0, locals := 23 } : Room) s m args below meth c H locs 0 0 (MQ below (zQi D 17 (celM ad cy) ad A r σ9) args s 0 0 A) (F0 m 9 ls [])) (xq1 : Int32) (σ : Sg) (H : Heap) (locs : List Loc) (ls : Array Slot), ZS D 17 (celM ad cy) ad A s σ H locs → lv_has ls 2 [(0, .ref (ad 0)), (1, .int xq1)] → f_X12_anew_b9 kq9 xq1 σ = some (r, σ9) → W p l e ({ frames := 1, cells := 0, slots := 0, locals := 23 } : Room) s m args below meth c H locs 0 0 (MQ below (zQi D 17 (celM ad cy) ad A r σ9) args s 0 0 A) (F0 m 9 ls []) := by
    intro kq9 hkq9 xq1 σ H locs ls hw hl hf
    unfold f_X12_anew_b9 at hf
    refine lv_iload_n hx hb dX12_anew_9 rfl (lv_at hl 1 rfl) ?_
    refine lv_aload_n hx hb dX12_anew_10 rfl (lv_at hl 0 rfl) ?_
    refine zget E hw (Nat.le_of_ble_eq_true rfl) (ceM_0 ad cy _) rfl inX12 0 (by decide) k5_223 (fun _ h => h) rfl dX12_anew_11 ?_
    refine lv_iconst (v := 0) hx hb dX12_anew_14 (by decide) ?_
    refine zaldk E hw (Nat.le_of_ble_eq_true rfl) (ceM_1 ad cy) 0 (by rfl) (Nat.le_of_ble_eq_true rfl) (by decide) dX12_anew_15 ?_
    refine lv_icmp_ge (tgt := 47) hx hb dX12_anew_16 (by decide) (fun h => ?_) (fun h => ?_)
    · replace hf := it_t h hf
      refine lv_aload_n hx hb dX12_anew_47 rfl (lv_at hl 0 rfl) ?_
      refine lv_iconst (v := 3) hx hb dX12_anew_48 (by decide) ?_
      refine lv_iconst (v := 0) hx hb dX12_anew_49 (by decide) ?_
      obtain ⟨vq2, σ3, hc, hf⟩ := bd2_e hf
      refine zcali hw (va_runV (As := [.int 3, .int 0]) (rest := []) E.fix (c_X12_becomes (l := l) hA 3 0 σ hc) (zcV E k6_192 k1_14 k6_189 k6_191 kp4_0 mf_X12_becomes rfl rfl ⟨Nat.le_of_ble_eq_true rfl, Nat.le_of_ble_eq_true rfl⟩) (zPreV E hw (Nat.le_of_ble_eq_true rfl) (ceM_0 ad cy _) rfl _) rfl rfl hl.1 rfl (lv_room (Nat.le_of_ble_eq_true rfl)) dX12_anew_50 ⟨Nat.zero_le _, Nat.zero_le _⟩) (fun H locs hw => ?_)
      exact zreti E hw hr hlk (rt_a hf) (rt_b hf) dX12_anew_53
    · replace hf := it_f h hf
      refine lv_aload_n hx hb dX12_anew_19 rfl (lv_at hl 0 rfl) ?_
      refine zget E hw (Nat.le_of_ble_eq_true rfl) (ceM_0 ad cy _) rfl inX12 0 (by decide) k5_223 (fun _ h => h) rfl dX12_anew_20 ?_
      refine lv_iload_n hx hb dX12_anew_23 rfl (lv_at hl 1 rfl) ?_
      refine lv_iconst (v := 4) hx hb dX12_anew_24 (by decide) ?_
      refine zcali hw (va_runS (As := [.int xq1, .int 4]) (rest := [.ref (ad 1)]) E.fix (c_X12_at (l := l) hA xq1 4 σ rfl) (zcS E k6_129 k1_14 k6_127 k6_128 mf_X12_at rfl rfl ⟨Nat.le_of_ble_eq_true rfl, Nat.le_of_ble_eq_true rfl⟩) (zPre E hw _) rfl rfl hl.1 rfl (lv_room (Nat.le_of_ble_eq_true rfl)) dX12_anew_25 ⟨Nat.zero_le _, Nat.zero_le _⟩) (fun H locs hw => ?_)
      refine lv_iconst (v := 1) hx hb dX12_anew_28 (by decide) ?_
      obtain ⟨σ4, hσ4, hf⟩ := bd_e hf
      refine zastr E hw (Nat.le_of_ble_eq_true rfl) (ceM_1 ad cy) hσ4 dX12_anew_29 (fun H locs hw => ?_)
      refine lv_aload_n hx hb dX12_anew_30 rfl (lv_at hl 0 rfl) ?_
      refine zget E hw (Nat.le_of_ble_eq_true rfl) (ceM_0 ad cy _) rfl inX12 0 (by decide) k5_223 (fun _ h => h) rfl dX12_anew_31 ?_
      refine lv_iload_n hx hb dX12_anew_34 rfl (lv_at hl 1 rfl) ?_
      refine lv_iconst (v := 5) hx hb dX12_anew_35 (by decide) ?_
      refine zcali hw (va_runS (As := [.int xq1, .int 5]) (rest := [.ref (ad 1)]) E.fix (c_X12_at (l := l) hA xq1 5 σ4 rfl) (zcS E k6_129 k1_14 k6_127 k6_128 mf_X12_at rfl rfl ⟨Nat.le_of_ble_eq_true rfl, Nat.le_of_ble_eq_true rfl⟩) (zPre E hw _) rfl rfl hl.1 rfl (lv_room (Nat.le_of_ble_eq_true rfl)) dX12_anew_36 ⟨Nat.zero_le _, Nat.zero_le _⟩) (fun H locs hw => ?_)
      refine lv_iconst (v := 0) hx hb dX12_anew_39 (by decide) ?_
      obtain ⟨σ5, hσ5, hf⟩ := bd_e hf
      refine zastr E hw (Nat.le_of_ble_eq_true rfl) (ceM_1 ad cy) hσ5 dX12_anew_40 (fun H locs hw => ?_)
      refine lv_iinc (v := (xq1 + 1)) (lv' := [(1, .int (xq1 + 1)), (0, .ref (ad 0))]) hx hb dX12_anew_41 hl (k := 1) rfl (by rfl) (by decide) rfl (fun ls hl => ?_)
      refine lv_goto (tgt := 9) hx hb dX12_anew_44 (by decide) ?_
      exact hkq9 (xq1 + 1) σ5 _ _ _ hw (lv_sub hl [1, 0] rfl) hf
  have hL9 : ∀ (n : Nat) (xq1 : Int32) (σ : Sg) (H : Heap) (locs : List Loc) (ls : Array Slot), ZS D 17 (celM ad cy) ad A s σ H locs → lv_has ls 2 [(0, .ref (ad 0)), (1, .int xq1)] → f_X12_anew_l9 n xq1 σ = some (r, σ9) → W p l e ({ frames := 1, cells := 0, slots := 0, locals := 23 } : Room) s m args below meth c H locs 0 0 (MQ below (zQi D 17 (celM ad cy) ad A r σ9) args s 0 0 A) (F0 m 9 ls []) := by
    intro n
    induction n with
    | zero =>
      intro xq1 σ H locs ls hw hl hf
      exact nn_e hf
    | succ n ih =>
      intro xq1 σ H locs ls hw hl hf
      exact hB9 (f_X12_anew_l9 n) ih xq1 σ H locs ls hw hl hf
  unfold f_X12_anew at hf
  refine lv_aload_n hx hb dX12_anew_0 rfl (lv_at hl 0 rfl) ?_
  refine zget E hw (Nat.le_of_ble_eq_true rfl) (ceM_0 ad cy _) rfl inX12 0 (by decide) k5_223 (fun _ h => h) rfl dX12_anew_1 ?_
  refine lv_iconst (v := 4) hx hb dX12_anew_4 (by decide) ?_
  refine lv_iconst (v := 0) hx hb dX12_anew_5 (by decide) ?_
  refine zastk E hw (Nat.le_of_ble_eq_true rfl) (ceM_1 ad cy) 4 (by rfl) (Nat.le_of_ble_eq_true rfl) (by decide) dX12_anew_6 (fun σ1 eσ1 H locs hw => ?_)
  replace hf := lt_i eσ1 hf
  refine lv_iconst (v := 0) hx hb dX12_anew_7 (by decide) ?_
  refine lv_istore_n (lv' := [(1, .int 0), (0, .ref (ad 0))]) hx hb dX12_anew_8 rfl hl (by decide) rfl (fun ls hl => ?_)
  exact hL9 400 0 σ1 _ _ _ hw (lv_sub hl [1, 0] rfl) hf
set_option maxRecDepth 100000 in
set_option maxHeartbeats 4000000 in
theorem c_X12_isOver {l : Launch} {D : va_G} {cy : Cy} {ad : Nat → Nat} {A : Nat → Prop} (hA : okAd 17 ad A) (σ : Sg) {r : Bool} (hf : f_X12_isOver σ = r) : Met l yX12_isOver (.code yX12_isOver cX12_isOver 1 (some .boolean) :: TT) ({ frames := 0, cells := 0, slots := 0, locals := 0 } : Room) (zPc D cy 17 (celM ad cy) ad A [.ref (ad 0)] σ) (zQi D 17 (celM ad cy) ad A (b2i r) σ) 0 0 A := by
  refine zofW (by decide) hA (Nat.le_of_ble_eq_true rfl) ?_
  intro p e s m args below meth c ls E hw hr hlk hl
  have E : ZE p s m args c cX12_isOver 1 "KiteSummonsModel" D cy 17 ad A := E
  have hx := E.hx
  have hb := E.hb
  have hl : lv_has ls 1 [(0, .ref (ad 0))] := hl
  unfold f_X12_isOver at hf
  refine lv_aload_n hx hb dX12_isOver_0 rfl (lv_at hl 0 rfl) ?_
  refine zget E hw (Nat.le_of_ble_eq_true rfl) (ceM_0 ad cy _) rfl inX12 0 (by decide) k5_223 (fun _ h => h) rfl dX12_isOver_1 ?_
  refine lv_iconst (v := 3) hx hb dX12_isOver_4 (by decide) ?_
  refine zaldk E hw (Nat.le_of_ble_eq_true rfl) (ceM_1 ad cy) 3 (by rfl) (Nat.le_of_ble_eq_true rfl) (by decide) dX12_isOver_5 ?_
  refine lv_aload_n hx hb dX12_isOver_6 rfl (lv_at hl 0 rfl) ?_
  refine zget E hw (Nat.le_of_ble_eq_true rfl) (ceM_0 ad cy _) rfl inX12 0 (by decide) k5_223 (fun _ h => h) rfl dX12_isOver_7 ?_
  refine lv_iconst (v := 2) hx hb dX12_isOver_10 (by decide) ?_
  refine zaldk E hw (Nat.le_of_ble_eq_true rfl) (ceM_1 ad cy) 2 (by rfl) (Nat.le_of_ble_eq_true rfl) (by decide) dX12_isOver_11 ?_
  refine lv_icmp_lt (tgt := 19) hx hb dX12_isOver_12 (by decide) (fun h => ?_) (fun h => ?_)
  · replace hf := it_t h hf
    refine lv_iconst (v := 0) hx hb dX12_isOver_19 (by decide) ?_
    exact zretz E hw hr hlk (b_e hf (by rfl)) rfl dX12_isOver_20
  · replace hf := it_f h hf
    refine lv_iconst (v := 1) hx hb dX12_isOver_15 (by decide) ?_
    refine lv_goto (tgt := 20) hx hb dX12_isOver_16 (by decide) ?_
    exact zretz E hw hr hlk (b_e hf (by rfl)) rfl dX12_isOver_20
set_option maxRecDepth 100000 in
set_option maxHeartbeats 4000000 in
theorem c_X12_those {l : Launch} {D : va_G} {cy : Cy} {ad : Nat → Nat} {A : Nat → Prop} (hA : okAd 17 ad A) (xq1 : Int32) (σ : Sg) {r : Int32} (hf : f_X12_those xq1 σ = some r) : Met l yX12_those (.code yX12_those cX12_those 4 (some .int) :: TT) ({ frames := 2, cells := 0, slots := 0, locals := 43 } : Room) (zPc D cy 17 (celM ad cy) ad A [.ref (ad 0), .int xq1] σ) (zQi D 17 (celM ad cy) ad A r σ) 0 0 A := by
  refine zofW (by decide) hA (Nat.le_of_ble_eq_true rfl) ?_
  intro p e s m args below meth c ls E hw hr hlk hl
  have E : ZE p s m args c cX12_those 4 "KiteSummonsModel" D cy 17 ad A := E
  have hx := E.hx
  have hb := E.hb
  have hl : lv_has ls 4 [(0, .ref (ad 0)), (1, .int xq1)] := hl
  have hB4 : ∀ (xq1 : Int32) (kq4 : Int32 → Int32 → Option Int32) (hkq4 : ∀ (xq2 : Int32) (xq3 : Int32) (H : Heap) (locs : List Loc) (ls : Array Slot), ZS D 17 (celM ad cy) ad A s σ H locs → lv_has ls 4 [(0, .ref (ad 0)), (1, .int xq1), (2, .int xq2), (3, .int xq3)] → kq4 xq2 xq3 = some r → W p l e ({ frames := 2, cells := 0, slots := 0, locals := 43 } : Room) s m args below meth c H locs 0 0 (MQ below (zQi D 17 (celM ad cy) ad A r σ) args s 0 0 A) (F0 m 4 ls [])) (xq2 : Int32) (xq3 : Int32) (H : Heap) (locs : List Loc) (ls : Array Slot), ZS D 17 (celM ad cy) ad A s σ H locs → lv_has ls 4 [(0, .ref (ad 0)), (1, .int xq1), (2, .int xq2), (3, .int xq3)] → f_X12_those_b4 kq4 xq1 σ xq2 xq3 = some r → W p l e ({ frames := 2, cells := 0, slots := 0, locals := 43 } : Room) s m args below meth c H locs 0 0 (MQ below (zQi D 17 (celM ad cy) ad A r σ) args s 0 0 A) (F0 m 4 ls []) := by
    intro xq1 kq4 hkq4 xq2 xq3 H locs ls hw hl hf
    unfold f_X12_those_b4 at hf
    refine lv_iload_n hx hb dX12_those_4 rfl (lv_at hl 3 rfl) ?_
    refine lv_aload_n hx hb dX12_those_5 rfl (lv_at hl 0 rfl) ?_
    refine zget E hw (Nat.le_of_ble_eq_true rfl) (ceM_0 ad cy _) rfl inX12 0 (by decide) k5_223 (fun _ h => h) rfl dX12_those_6 ?_
    refine lv_iconst (v := 0) hx hb dX12_those_9 (by decide) ?_
    refine zaldk E hw (Nat.le_of_ble_eq_true rfl) (ceM_1 ad cy) 0 (by rfl) (Nat.le_of_ble_eq_true rfl) (by decide) dX12_those_10 ?_
    refine lv_icmp_ge (tgt := 31) hx hb dX12_those_11 (by decide) (fun h => ?_) (fun h => ?_)
    · replace hf := it_t h hf
      refine lv_iload_n hx hb dX12_those_31 rfl (lv_at hl 2 rfl) ?_
      exact zreti E hw hr hlk (rt_1 hf) rfl dX12_those_32
    · replace hf := it_f h hf
      refine lv_iload_n hx hb dX12_those_14 rfl (lv_at hl 2 rfl) ?_
      refine lv_aload_n hx hb dX12_those_15 rfl (lv_at hl 0 rfl) ?_
      refine lv_iload_n hx hb dX12_those_16 rfl (lv_at hl 3 rfl) ?_
      refine lv_iload_n hx hb dX12_those_17 rfl (lv_at hl 1 rfl) ?_
      obtain ⟨vq1, hc, hf⟩ := bd_e hf
      refine zcali hw (va_runV (As := [.int xq3, .int xq1]) (rest := [.int xq2]) E.fix (c_X12_its (l := l) hA xq3 xq1 σ hc) (zcV E k6_145 k1_14 k6_142 k6_144 kp3_9 mf_X12_its rfl rfl ⟨Nat.le_of_ble_eq_true rfl, Nat.le_of_ble_eq_true rfl⟩) (zPreV E hw (Nat.le_of_ble_eq_true rfl) (ceM_0 ad cy _) rfl _) rfl rfl hl.1 rfl (lv_room (Nat.le_of_ble_eq_true rfl)) dX12_those_18 ⟨Nat.zero_le _, Nat.zero_le _⟩) (fun H locs hw => ?_)
      refine lv_iload_n hx hb dX12_those_21 rfl (lv_at hl 3 rfl) ?_
      refine zishl hx hb dX12_those_22 ?_
      refine lv_ior hx hb dX12_those_23 ?_
      refine lv_topi (fun vq2 evq2 => ?_)
      replace hf := lt_i evq2 hf
      refine lv_istore_n (lv' := [(2, .int vq2), (0, .ref (ad 0)), (1, .int xq1), (3, .int xq3)]) hx hb dX12_those_24 rfl hl (by decide) rfl (fun ls hl => ?_)
      refine lv_iinc (v := (xq3 + 1)) (lv' := [(3, .int (xq3 + 1)), (2, .int vq2), (0, .ref (ad 0)), (1, .int xq1)]) hx hb dX12_those_25 hl (k := 3) rfl (by rfl) (by decide) rfl (fun ls hl => ?_)
      refine lv_goto (tgt := 4) hx hb dX12_those_28 (by decide) ?_
      exact hkq4 vq2 (xq3 + 1) _ _ _ hw (lv_sub hl [2, 3, 1, 0] rfl) hf
  have hL4 : ∀ (xq1 : Int32) (n : Nat) (xq2 : Int32) (xq3 : Int32) (H : Heap) (locs : List Loc) (ls : Array Slot), ZS D 17 (celM ad cy) ad A s σ H locs → lv_has ls 4 [(0, .ref (ad 0)), (1, .int xq1), (2, .int xq2), (3, .int xq3)] → f_X12_those_l4 xq1 σ n xq2 xq3 = some r → W p l e ({ frames := 2, cells := 0, slots := 0, locals := 43 } : Room) s m args below meth c H locs 0 0 (MQ below (zQi D 17 (celM ad cy) ad A r σ) args s 0 0 A) (F0 m 4 ls []) := by
    intro xq1 n
    induction n with
    | zero =>
      intro xq2 xq3 H locs ls hw hl hf
      exact nn_e hf
    | succ n ih =>
      intro xq2 xq3 H locs ls hw hl hf
      exact hB4 xq1 (f_X12_those_l4 xq1 σ n) ih xq2 xq3 H locs ls hw hl hf
  unfold f_X12_those at hf
  refine lv_iconst (v := 0) hx hb dX12_those_0 (by decide) ?_
  refine lv_istore_n (lv' := [(2, .int 0), (0, .ref (ad 0)), (1, .int xq1)]) hx hb dX12_those_1 rfl hl (by decide) rfl (fun ls hl => ?_)
  refine lv_iconst (v := 0) hx hb dX12_those_2 (by decide) ?_
  refine lv_istore_n (lv' := [(3, .int 0), (2, .int 0), (0, .ref (ad 0)), (1, .int xq1)]) hx hb dX12_those_3 rfl hl (by decide) rfl (fun ls hl => ?_)
  exact hL4 xq1 400 0 0 _ _ _ hw (lv_sub hl [2, 3, 1, 0] rfl) hf
set_option maxRecDepth 100000 in
set_option maxHeartbeats 4000000 in
theorem c_X12_state {l : Launch} {D : va_G} {cy : Cy} {ad : Nat → Nat} {A : Nat → Prop} (hA : okAd 17 ad A) (xq1 : Int32) (σ : Sg) {r : Int32} (hf : f_X12_state xq1 σ = some r) : Met l yX12_state (.code yX12_state cX12_state 2 (some .int) :: TT) ({ frames := 3, cells := 0, slots := 0, locals := 66 } : Room) (zPc D cy 17 (celM ad cy) ad A [.ref (ad 0), .int xq1] σ) (zQi D 17 (celM ad cy) ad A r σ) 0 0 A := by
  refine zofW (by decide) hA (Nat.le_of_ble_eq_true rfl) ?_
  intro p e s m args below meth c ls E hw hr hlk hl
  have E : ZE p s m args c cX12_state 2 "KiteSummonsModel" D cy 17 ad A := E
  have hx := E.hx
  have hb := E.hb
  have hl : lv_has ls 2 [(0, .ref (ad 0)), (1, .int xq1)] := hl
  unfold f_X12_state at hf
  refine lv_iload_n hx hb dX12_state_0 rfl (lv_at hl 1 rfl) ?_
  by_cases hc1_0 : xq1 = 0
  · replace hf := it_t hc1_0 hf
    refine lv_tableIn (tgt := 44) (off := 43) hx hb dX12_state_1 (by rw [hc1_0]; decide) (by rw [hc1_0]; decide) (by rw [hc1_0]; rfl) (by decide) ?_
    refine lv_aload_n hx hb dX12_state_44 rfl (lv_at hl 0 rfl) ?_
    refine zget E hw (Nat.le_of_ble_eq_true rfl) (ceM_0 ad cy _) rfl inX12 0 (by decide) k5_223 (fun _ h => h) rfl dX12_state_45 ?_
    refine lv_iconst (v := 3) hx hb dX12_state_48 (by decide) ?_
    refine zaldk E hw (Nat.le_of_ble_eq_true rfl) (ceM_1 ad cy) 3 (by rfl) (Nat.le_of_ble_eq_true rfl) (by decide) dX12_state_49 ?_
    exact zreti E hw hr hlk (rt_1 hf) rfl dX12_state_50
  · replace hf := it_f hc1_0 hf
    by_cases hc1_1 : xq1 = 1
    · replace hf := it_t hc1_1 hf
      refine lv_tableIn (tgt := 51) (off := 50) hx hb dX12_state_1 (by rw [hc1_1]; decide) (by rw [hc1_1]; decide) (by rw [hc1_1]; rfl) (by decide) ?_
      refine lv_aload_n hx hb dX12_state_51 rfl (lv_at hl 0 rfl) ?_
      refine zget E hw (Nat.le_of_ble_eq_true rfl) (ceM_0 ad cy _) rfl inX12 0 (by decide) k5_223 (fun _ h => h) rfl dX12_state_52 ?_
      refine lv_iconst (v := 2) hx hb dX12_state_55 (by decide) ?_
      refine zaldk E hw (Nat.le_of_ble_eq_true rfl) (ceM_1 ad cy) 2 (by rfl) (Nat.le_of_ble_eq_true rfl) (by decide) dX12_state_56 ?_
      exact zreti E hw hr hlk (rt_1 hf) rfl dX12_state_57
    · replace hf := it_f hc1_1 hf
      by_cases hc1_2 : xq1 = 2
      · replace hf := it_t hc1_2 hf
        refine lv_tableIn (tgt := 58) (off := 57) hx hb dX12_state_1 (by rw [hc1_2]; decide) (by rw [hc1_2]; decide) (by rw [hc1_2]; rfl) (by decide) ?_
        refine lv_aload_n hx hb dX12_state_58 rfl (lv_at hl 0 rfl) ?_
        refine zget E hw (Nat.le_of_ble_eq_true rfl) (ceM_0 ad cy _) rfl inX12 0 (by decide) k5_223 (fun _ h => h) rfl dX12_state_59 ?_
        refine lv_iconst (v := 4) hx hb dX12_state_62 (by decide) ?_
        refine zaldk E hw (Nat.le_of_ble_eq_true rfl) (ceM_1 ad cy) 4 (by rfl) (Nat.le_of_ble_eq_true rfl) (by decide) dX12_state_63 ?_
        exact zreti E hw hr hlk (rt_1 hf) rfl dX12_state_64
      · replace hf := it_f hc1_2 hf
        by_cases hc1_3 : xq1 = 3
        · replace hf := it_t hc1_3 hf
          refine lv_tableIn (tgt := 65) (off := 64) hx hb dX12_state_1 (by rw [hc1_3]; decide) (by rw [hc1_3]; decide) (by rw [hc1_3]; rfl) (by decide) ?_
          refine lv_aload_n hx hb dX12_state_65 rfl (lv_at hl 0 rfl) ?_
          refine zcali hw (va_runV (As := []) (rest := []) E.fix (c_X12_isOver (l := l) hA σ rfl) (zcV E k6_230 k1_14 k6_227 k6_229 kp4_1 mf_X12_isOver rfl rfl ⟨Nat.le_of_ble_eq_true rfl, Nat.le_of_ble_eq_true rfl⟩) (zPreV E hw (Nat.le_of_ble_eq_true rfl) (ceM_0 ad cy _) rfl _) rfl rfl hl.1 rfl (lv_room (Nat.le_of_ble_eq_true rfl)) dX12_state_66 ⟨Nat.zero_le _, Nat.zero_le _⟩) (fun H locs hw => ?_)
          refine lv_if_eq (tgt := 76) hx hb dX12_state_69 (by decide) (fun h => ?_) (fun h => ?_)
          · replace hf := it_f (b2i_0 h) hf
            refine lv_iconst (v := 0) hx hb dX12_state_76 (by decide) ?_
            exact zreti E hw hr hlk (rt_1 hf) rfl dX12_state_77
          · replace hf := it_t (b2i_n h) hf
            refine lv_iconst (v := 1) hx hb dX12_state_72 (by decide) ?_
            refine lv_goto (tgt := 77) hx hb dX12_state_73 (by decide) ?_
            exact zreti E hw hr hlk (rt_1 hf) rfl dX12_state_77
        · replace hf := it_f hc1_3 hf
          by_cases hc1_4 : xq1 = 4
          · replace hf := it_t hc1_4 hf
            refine lv_tableIn (tgt := 78) (off := 77) hx hb dX12_state_1 (by rw [hc1_4]; decide) (by rw [hc1_4]; decide) (by rw [hc1_4]; rfl) (by decide) ?_
            refine lv_aload_n hx hb dX12_state_78 rfl (lv_at hl 0 rfl) ?_
            refine lv_iconst (v := 4) hx hb dX12_state_79 (by decide) ?_
            obtain ⟨vq1, hc, hf⟩ := bd_e hf
            refine zcali hw (va_runV (As := [.int 4]) (rest := []) E.fix (c_X12_those (l := l) hA 4 σ hc) (zcV E k6_234 k1_14 k6_231 k6_233 kp4_2 mf_X12_those rfl rfl ⟨Nat.le_of_ble_eq_true rfl, Nat.le_of_ble_eq_true rfl⟩) (zPreV E hw (Nat.le_of_ble_eq_true rfl) (ceM_0 ad cy _) rfl _) rfl rfl hl.1 rfl (lv_room (Nat.le_of_ble_eq_true rfl)) dX12_state_80 ⟨Nat.zero_le _, Nat.zero_le _⟩) (fun H locs hw => ?_)
            exact zreti E hw hr hlk (rt_1 hf) rfl dX12_state_83
          · replace hf := it_f hc1_4 hf
            by_cases hc1_5 : xq1 = 5
            · replace hf := it_t hc1_5 hf
              refine lv_tableIn (tgt := 84) (off := 83) hx hb dX12_state_1 (by rw [hc1_5]; decide) (by rw [hc1_5]; decide) (by rw [hc1_5]; rfl) (by decide) ?_
              refine lv_aload_n hx hb dX12_state_84 rfl (lv_at hl 0 rfl) ?_
              refine lv_iconst (v := 5) hx hb dX12_state_85 (by decide) ?_
              obtain ⟨vq2, hc, hf⟩ := bd_e hf
              refine zcali hw (va_runV (As := [.int 5]) (rest := []) E.fix (c_X12_those (l := l) hA 5 σ hc) (zcV E k6_234 k1_14 k6_231 k6_233 kp4_2 mf_X12_those rfl rfl ⟨Nat.le_of_ble_eq_true rfl, Nat.le_of_ble_eq_true rfl⟩) (zPreV E hw (Nat.le_of_ble_eq_true rfl) (ceM_0 ad cy _) rfl _) rfl rfl hl.1 rfl (lv_room (Nat.le_of_ble_eq_true rfl)) dX12_state_86 ⟨Nat.zero_le _, Nat.zero_le _⟩) (fun H locs hw => ?_)
              exact zreti E hw hr hlk (rt_1 hf) rfl dX12_state_89
            · replace hf := it_f hc1_5 hf
              by_cases hc1_6 : xq1 = 6
              · replace hf := it_t hc1_6 hf
                refine lv_tableIn (tgt := 90) (off := 89) hx hb dX12_state_1 (by rw [hc1_6]; decide) (by rw [hc1_6]; decide) (by rw [hc1_6]; rfl) (by decide) ?_
                refine lv_aload_n hx hb dX12_state_90 rfl (lv_at hl 0 rfl) ?_
                obtain ⟨vq3, hc, hf⟩ := bd_e hf
                refine zcali hw (va_runV (As := []) (rest := []) E.fix (c_X12_windNow (l := l) hA σ hc) (zcV E k6_149 k1_14 k6_146 k6_148 kp3_10 mf_X12_windNow rfl rfl ⟨Nat.le_of_ble_eq_true rfl, Nat.le_of_ble_eq_true rfl⟩) (zPreV E hw (Nat.le_of_ble_eq_true rfl) (ceM_0 ad cy _) rfl _) rfl rfl hl.1 rfl (lv_room (Nat.le_of_ble_eq_true rfl)) dX12_state_91 ⟨Nat.zero_le _, Nat.zero_le _⟩) (fun H locs hw => ?_)
                exact zreti E hw hr hlk (rt_1 hf) rfl dX12_state_94
              · replace hf := it_f hc1_6 hf
                refine lv_tableOut (tgt := 95) hx hb dX12_state_1 (by have := lv_neT hc1_0 (a := 0) rfl; have := lv_neT hc1_1 (a := 1) rfl; have := lv_neT hc1_2 (a := 2) rfl; have := lv_neT hc1_3 (a := 3) rfl; have := lv_neT hc1_4 (a := 4) rfl; have := lv_neT hc1_5 (a := 5) rfl; have := lv_neT hc1_6 (a := 6) rfl; omega) (by decide) ?_
                refine lv_iconst (v := (-1)) hx hb dX12_state_95 (by decide) ?_
                exact zreti E hw hr hlk (rt_1 hf) rfl dX12_state_96
set_option maxRecDepth 100000 in
set_option maxHeartbeats 4000000 in
theorem c_X12_feed {l : Launch} {D : va_G} {cy : Cy} {ad : Nat → Nat} {A : Nat → Prop} (hA : okAd 17 ad A) (xq1 : Int64) (xq3 : Int32) (σ : Sg) {r : Int32} {σ9 : Sg} (hf : f_X12_feed xq1 xq3 σ = some (r, σ9)) : Met l yX12_feed (.code yX12_feed cX12_feed 5 (some .int) :: TT) ({ frames := 1, cells := 0, slots := 0, locals := 25 } : Room) (zPc D cy 17 (celM ad cy) ad A [.ref (ad 0), .long xq1, .int xq3] σ) (zQi D 17 (celM ad cy) ad A r σ9) 0 0 A := by
  refine zofW (by decide) hA (Nat.le_of_ble_eq_true rfl) ?_
  intro p e s m args below meth c ls E hw hr hlk hl
  have E : ZE p s m args c cX12_feed 5 "KiteSummonsModel" D cy 17 ad A := E
  have hx := E.hx
  have hb := E.hb
  have hl : lv_has ls 5 [(0, .ref (ad 0)), (1, .long xq1), (3, .int xq3)] := hl
  have hB32 : ∀ (xq1 : Int64) (xq3 : Int32) (kq32 : Int32 → Sg → Option (Int32 × Sg)) (hkq32 : ∀ (xq4 : Int32) (σ : Sg) (H : Heap) (locs : List Loc) (ls : Array Slot), ZS D 17 (celM ad cy) ad A s σ H locs → lv_has ls 5 [(0, .ref (ad 0)), (1, .long xq1), (3, .int xq3), (4, .int xq4)] → kq32 xq4 σ = some (r, σ9) → W p l e ({ frames := 1, cells := 0, slots := 0, locals := 25 } : Room) s m args below meth c H locs 0 0 (MQ below (zQi D 17 (celM ad cy) ad A r σ9) args s 0 0 A) (F0 m 32 ls [])) (xq4 : Int32) (σ : Sg) (H : Heap) (locs : List Loc) (ls : Array Slot), ZS D 17 (celM ad cy) ad A s σ H locs → lv_has ls 5 [(0, .ref (ad 0)), (1, .long xq1), (3, .int xq3), (4, .int xq4)] → f_X12_feed_b32 kq32 xq1 xq3 xq4 σ = some (r, σ9) → W p l e ({ frames := 1, cells := 0, slots := 0, locals := 25 } : Room) s m args below meth c H locs 0 0 (MQ below (zQi D 17 (celM ad cy) ad A r σ9) args s 0 0 A) (F0 m 32 ls []) := by
    intro xq1 xq3 kq32 hkq32 xq4 σ H locs ls hw hl hf
    unfold f_X12_feed_b32 at hf
    refine lv_iload hx hb dX12_feed_32 (lv_at hl 3 rfl) ?_
    refine lv_iload_n hx hb dX12_feed_34 rfl (lv_at hl 2 rfl) ?_
    refine lv_icmp_ge (tgt := 75) hx hb dX12_feed_35 (by decide) (fun h => ?_) (fun h => ?_)
    · replace hf := it_t h hf
      refine lv_aload_n hx hb dX12_feed_75 rfl (lv_at hl 0 rfl) ?_
      refine zget E hw (Nat.le_of_ble_eq_true rfl) (ceM_0 ad cy _) rfl inX12 21 (by decide) k6_4 (fun _ h => h) rfl dX12_feed_76 ?_
      exact zreti E hw hr hlk (rt_a hf) (rt_b hf) dX12_feed_79
    · replace hf := it_f h hf
      refine lv_aload_n hx hb dX12_feed_38 rfl (lv_at hl 0 rfl) ?_
      refine zget E hw (Nat.le_of_ble_eq_true rfl) (ceM_0 ad cy _) rfl inX12 20 (by decide) k6_3 (fun _ h => h) rfl dX12_feed_39 ?_
      refine lv_aload_n hx hb dX12_feed_42 rfl (lv_at hl 0 rfl) ?_
      refine zget E hw (Nat.le_of_ble_eq_true rfl) (ceM_0 ad cy _) rfl inX12 21 (by decide) k6_4 (fun _ h => h) rfl dX12_feed_43 ?_
      refine lv_lload_n hx hb dX12_feed_46 rfl (lv_at hl 1 rfl) ?_
      refine lv_bipush (v := 8) hx hb dX12_feed_47 (by decide) ?_
      refine lv_iload hx hb dX12_feed_49 (lv_at hl 3 rfl) ?_
      refine lv_imul hx hb dX12_feed_51 ?_
      refine zlshr hx hb dX12_feed_52 ?_
      refine lv_ldc2 (v := 255) hx hb E.hown (E.ht _ k7_223) dX12_feed_53 ?_
      refine lv_land hx hb dX12_feed_56 ?_
      refine lv_l2i hx hb dX12_feed_57 rfl ?_
      obtain ⟨σ1, hσ1, hf⟩ := bd_e hf
      refine zastr E hw (Nat.le_of_ble_eq_true rfl) (ceM_9 ad cy) hσ1 dX12_feed_58 (fun H locs hw => ?_)
      refine lv_aload_n hx hb dX12_feed_59 rfl (lv_at hl 0 rfl) ?_
      refine lv_dup hx hb dX12_feed_60 rfl ?_
      refine zget E hw (Nat.le_of_ble_eq_true rfl) (ceM_0 ad cy _) rfl inX12 21 (by decide) k6_4 (fun _ h => h) rfl dX12_feed_61 ?_
      refine lv_iconst (v := 1) hx hb dX12_feed_64 (by decide) ?_
      refine lv_iadd hx hb dX12_feed_65 ?_
      refine zputs E hw (Nat.le_of_ble_eq_true rfl) (ceM_0 ad cy _) rfl inX12 tyX12 tyX12_ok nmX12 21 (by decide) k6_4 (fun _ h => h) rfl rfl rfl (Nat.le_of_ble_eq_true rfl) (j := 21) (Eq.trans (ceM_0 ad cy _) (by rfl)) dX12_feed_66 (fun σ2 eσ2 H locs hw => ?_)
      replace hf := lt_i eσ2 hf
      refine lv_iinc (v := (xq4 + 1)) (lv' := [(4, .int (xq4 + 1)), (0, .ref (ad 0)), (1, .long xq1), (3, .int xq3)]) hx hb dX12_feed_69 hl (k := 3) rfl (by rfl) (by decide) rfl (fun ls hl => ?_)
      refine lv_goto (tgt := 32) hx hb dX12_feed_72 (by decide) ?_
      exact hkq32 (xq4 + 1) σ2 _ _ _ hw (lv_sub hl [1, 2, 3, 0] rfl) hf
  have hL32 : ∀ (xq1 : Int64) (xq3 : Int32) (n : Nat) (xq4 : Int32) (σ : Sg) (H : Heap) (locs : List Loc) (ls : Array Slot), ZS D 17 (celM ad cy) ad A s σ H locs → lv_has ls 5 [(0, .ref (ad 0)), (1, .long xq1), (3, .int xq3), (4, .int xq4)] → f_X12_feed_l32 xq1 xq3 n xq4 σ = some (r, σ9) → W p l e ({ frames := 1, cells := 0, slots := 0, locals := 25 } : Room) s m args below meth c H locs 0 0 (MQ below (zQi D 17 (celM ad cy) ad A r σ9) args s 0 0 A) (F0 m 32 ls []) := by
    intro xq1 xq3 n
    induction n with
    | zero =>
      intro xq4 σ H locs ls hw hl hf
      exact nn_e hf
    | succ n ih =>
      intro xq4 σ H locs ls hw hl hf
      exact hB32 xq1 xq3 (f_X12_feed_l32 xq1 xq3 n) ih xq4 σ H locs ls hw hl hf
  unfold f_X12_feed at hf
  refine lv_iload_n hx hb dX12_feed_0 rfl (lv_at hl 2 rfl) ?_
  refine lv_i2l hx hb dX12_feed_1 rfl ?_
  refine lv_lconst (v := 1) hx hb dX12_feed_2 (by decide) ?_
  refine lv_ldc2 (v := 8) hx hb E.hown (E.ht _ k7_222) dX12_feed_3 ?_
  refine zcali hw (va_runS (As := [.long xq3.toInt64, .long (1 : Int64), .long (8 : Int64)]) (rest := []) E.fix (c_X12_in (l := l) hA xq3.toInt64 (1 : Int64) (8 : Int64) σ rfl) (zcS E k6_114 k1_14 k6_112 k6_113 mf_X12_in rfl rfl ⟨Nat.le_of_ble_eq_true rfl, Nat.le_of_ble_eq_true rfl⟩) (zPre E hw _) rfl rfl hl.1 rfl (lv_room (Nat.le_of_ble_eq_true rfl)) dX12_feed_6 ⟨Nat.zero_le _, Nat.zero_le _⟩) (fun H locs hw => ?_)
  refine lv_if_ne (tgt := 14) hx hb dX12_feed_9 (by decide) (fun h => ?_) (fun h => ?_)
  · replace hf := it_t (b2i_n h) hf
    refine lv_aload_n hx hb dX12_feed_14 rfl (lv_at hl 0 rfl) ?_
    refine zget E hw (Nat.le_of_ble_eq_true rfl) (ceM_0 ad cy _) rfl inX12 21 (by decide) k6_4 (fun _ h => h) rfl dX12_feed_15 ?_
    refine lv_iload_n hx hb dX12_feed_18 rfl (lv_at hl 2 rfl) ?_
    refine lv_iadd hx hb dX12_feed_19 ?_
    refine lv_sipush (v := 200) hx hb dX12_feed_20 (by decide) ?_
    refine lv_icmp_le (tgt := 29) hx hb dX12_feed_23 (by decide) (fun h => ?_) (fun h => ?_)
    · replace hf := it_t h hf
      refine lv_iconst (v := 0) hx hb dX12_feed_29 (by decide) ?_
      refine lv_istore (lv' := [(4, .int 0), (0, .ref (ad 0)), (1, .long xq1), (3, .int xq3)]) hx hb dX12_feed_30 hl (by decide) rfl (fun ls hl => ?_)
      exact hL32 xq1 xq3 400 0 σ _ _ _ hw (lv_sub hl [1, 2, 3, 0] rfl) hf
    · replace hf := it_f h hf
      refine lv_bipush (v := (-2)) hx hb dX12_feed_26 (by decide) ?_
      exact zreti E hw hr hlk (rt_a hf) (rt_b hf) dX12_feed_28
  · replace hf := it_f (b2i_0 h) hf
    refine lv_iconst (v := (-1)) hx hb dX12_feed_12 (by decide) ?_
    exact zreti E hw hr hlk (rt_a hf) (rt_b hf) dX12_feed_13
set_option maxRecDepth 100000 in
set_option maxHeartbeats 4000000 in
theorem c_X12_puts {l : Launch} {D : va_G} {cy : Cy} {ad : Nat → Nat} {A : Nat → Prop} (hA : okAd 17 ad A) (σ : Sg) {σ9 : Sg} (hf : f_X12_puts σ = some σ9) : Met l yX12_puts (.code yX12_puts cX12_puts 2 none :: TT) ({ frames := 0, cells := 0, slots := 0, locals := 0 } : Room) (zPc D cy 17 (celM ad cy) ad A [.ref (ad 0)] σ) (zQv D 17 (celM ad cy) ad A σ9) 0 0 A := by
  refine zofW (by decide) hA (Nat.le_of_ble_eq_true rfl) ?_
  intro p e s m args below meth c ls E hw hr hlk hl
  have E : ZE p s m args c cX12_puts 2 "KiteSummonsModel" D cy 17 ad A := E
  have hx := E.hx
  have hb := E.hb
  have hl : lv_has ls 2 [(0, .ref (ad 0))] := hl
  have hB2 : ∀ (kq2 : Int32 → Sg → Option Sg) (hkq2 : ∀ (xq1 : Int32) (σ : Sg) (H : Heap) (locs : List Loc) (ls : Array Slot), ZS D 17 (celM ad cy) ad A s σ H locs → lv_has ls 2 [(0, .ref (ad 0)), (1, .int xq1)] → kq2 xq1 σ = some σ9 → W p l e ({ frames := 0, cells := 0, slots := 0, locals := 0 } : Room) s m args below meth c H locs 0 0 (MQ below (zQv D 17 (celM ad cy) ad A σ9) args s 0 0 A) (F0 m 2 ls [])) (xq1 : Int32) (σ : Sg) (H : Heap) (locs : List Loc) (ls : Array Slot), ZS D 17 (celM ad cy) ad A s σ H locs → lv_has ls 2 [(0, .ref (ad 0)), (1, .int xq1)] → f_X12_puts_b2 kq2 xq1 σ = some σ9 → W p l e ({ frames := 0, cells := 0, slots := 0, locals := 0 } : Room) s m args below meth c H locs 0 0 (MQ below (zQv D 17 (celM ad cy) ad A σ9) args s 0 0 A) (F0 m 2 ls []) := by
    intro kq2 hkq2 xq1 σ H locs ls hw hl hf
    unfold f_X12_puts_b2 at hf
    refine lv_iload_n hx hb dX12_puts_2 rfl (lv_at hl 1 rfl) ?_
    refine lv_sipush (v := 319) hx hb dX12_puts_3 (by decide) ?_
    refine lv_icmp_ge (tgt := 27) hx hb dX12_puts_6 (by decide) (fun h => ?_) (fun h => ?_)
    · replace hf := it_t h hf
      exact zretv E hw hr hlk (rt_1 hf) dX12_puts_27
    · replace hf := it_f h hf
      refine lv_aload_n hx hb dX12_puts_9 rfl (lv_at hl 0 rfl) ?_
      refine zget E hw (Nat.le_of_ble_eq_true rfl) (ceM_0 ad cy _) rfl inX12 2 (by decide) k5_225 (fun _ h => h) rfl dX12_puts_10 ?_
      refine lv_iload_n hx hb dX12_puts_13 rfl (lv_at hl 1 rfl) ?_
      refine lv_aload_n hx hb dX12_puts_14 rfl (lv_at hl 0 rfl) ?_
      refine zget E hw (Nat.le_of_ble_eq_true rfl) (ceM_0 ad cy _) rfl inX12 0 (by decide) k5_223 (fun _ h => h) rfl dX12_puts_15 ?_
      refine lv_iload_n hx hb dX12_puts_18 rfl (lv_at hl 1 rfl) ?_
      obtain ⟨vq1, hvq1, hf⟩ := bd_e hf
      refine zaldr E hw (Nat.le_of_ble_eq_true rfl) (ceM_1 ad cy) hvq1 dX12_puts_19 ?_
      obtain ⟨σ2, hσ2, hf⟩ := bd_e hf
      refine zastr E hw (Nat.le_of_ble_eq_true rfl) (ceM_3 ad cy) hσ2 dX12_puts_20 (fun H locs hw => ?_)
      refine lv_iinc (v := (xq1 + 1)) (lv' := [(1, .int (xq1 + 1)), (0, .ref (ad 0))]) hx hb dX12_puts_21 hl (k := 1) rfl (by rfl) (by decide) rfl (fun ls hl => ?_)
      refine lv_goto (tgt := 2) hx hb dX12_puts_24 (by decide) ?_
      exact hkq2 (xq1 + 1) σ2 _ _ _ hw (lv_sub hl [1, 0] rfl) hf
  have hL2 : ∀ (n : Nat) (xq1 : Int32) (σ : Sg) (H : Heap) (locs : List Loc) (ls : Array Slot), ZS D 17 (celM ad cy) ad A s σ H locs → lv_has ls 2 [(0, .ref (ad 0)), (1, .int xq1)] → f_X12_puts_l2 n xq1 σ = some σ9 → W p l e ({ frames := 0, cells := 0, slots := 0, locals := 0 } : Room) s m args below meth c H locs 0 0 (MQ below (zQv D 17 (celM ad cy) ad A σ9) args s 0 0 A) (F0 m 2 ls []) := by
    intro n
    induction n with
    | zero =>
      intro xq1 σ H locs ls hw hl hf
      exact nn_e hf
    | succ n ih =>
      intro xq1 σ H locs ls hw hl hf
      exact hB2 (f_X12_puts_l2 n) ih xq1 σ H locs ls hw hl hf
  unfold f_X12_puts at hf
  refine lv_iconst (v := 0) hx hb dX12_puts_0 (by decide) ?_
  refine lv_istore_n (lv' := [(1, .int 0), (0, .ref (ad 0))]) hx hb dX12_puts_1 rfl hl (by decide) rfl (fun ls hl => ?_)
  exact hL2 400 0 σ _ _ _ hw (lv_sub hl [1, 0] rfl) hf
set_option maxRecDepth 100000 in
set_option maxHeartbeats 4000000 in
theorem c_X12_byteAt {l : Launch} {D : va_G} {cy : Cy} {ad : Nat → Nat} {A : Nat → Prop} (hA : okAd 17 ad A) (xq1 : Int32) (σ : Sg) {r : Int32} (hf : f_X12_byteAt xq1 σ = some r) : Met l yX12_byteAt (.code yX12_byteAt cX12_byteAt 2 (some .int) :: TT) ({ frames := 0, cells := 0, slots := 0, locals := 0 } : Room) (zPc D cy 17 (celM ad cy) ad A [.ref (ad 0), .int xq1] σ) (zQi D 17 (celM ad cy) ad A r σ) 0 0 A := by
  refine zofW (by decide) hA (Nat.le_of_ble_eq_true rfl) ?_
  intro p e s m args below meth c ls E hw hr hlk hl
  have E : ZE p s m args c cX12_byteAt 2 "KiteSummonsModel" D cy 17 ad A := E
  have hx := E.hx
  have hb := E.hb
  have hl : lv_has ls 2 [(0, .ref (ad 0)), (1, .int xq1)] := hl
  unfold f_X12_byteAt at hf
  refine lv_iload_n hx hb dX12_byteAt_0 rfl (lv_at hl 1 rfl) ?_
  refine lv_aload_n hx hb dX12_byteAt_1 rfl (lv_at hl 0 rfl) ?_
  refine zget E hw (Nat.le_of_ble_eq_true rfl) (ceM_0 ad cy _) rfl inX12 21 (by decide) k6_4 (fun _ h => h) rfl dX12_byteAt_2 ?_
  refine lv_icmp_ge (tgt := 17) hx hb dX12_byteAt_5 (by decide) (fun h => ?_) (fun h => ?_)
  · replace hf := it_t h hf
    refine lv_iconst (v := (-1)) hx hb dX12_byteAt_17 (by decide) ?_
    exact zreti E hw hr hlk (rt_1 hf) rfl dX12_byteAt_18
  · replace hf := it_f h hf
    refine lv_aload_n hx hb dX12_byteAt_8 rfl (lv_at hl 0 rfl) ?_
    refine zget E hw (Nat.le_of_ble_eq_true rfl) (ceM_0 ad cy _) rfl inX12 20 (by decide) k6_3 (fun _ h => h) rfl dX12_byteAt_9 ?_
    refine lv_iload_n hx hb dX12_byteAt_12 rfl (lv_at hl 1 rfl) ?_
    obtain ⟨vq1, hvq1, hf⟩ := bd_e hf
    refine zaldr E hw (Nat.le_of_ble_eq_true rfl) (ceM_9 ad cy) hvq1 dX12_byteAt_13 ?_
    refine lv_goto (tgt := 18) hx hb dX12_byteAt_14 (by decide) ?_
    exact zreti E hw hr hlk (rt_1 hf) rfl dX12_byteAt_18
set_option maxRecDepth 100000 in
set_option maxHeartbeats 4000000 in
theorem c_X12_isLetter {l : Launch} {D : va_G} {cy : Cy} {ad : Nat → Nat} {A : Nat → Prop} (hA : okAd 17 ad A) (xq0 : Int32) (σ : Sg) {r : Bool} (hf : f_X12_isLetter xq0 σ = r) : Met l yX12_isLetter (.code yX12_isLetter cX12_isLetter 1 (some .boolean) :: TT) ({ frames := 1, cells := 0, slots := 0, locals := 25 } : Room) (zPc D cy 17 (celM ad cy) ad A [.int xq0] σ) (zQi D 17 (celM ad cy) ad A (b2i r) σ) 0 0 A := by
  refine zofW (by decide) hA (Nat.le_of_ble_eq_true rfl) ?_
  intro p e s m args below meth c ls E hw hr hlk hl
  have E : ZE p s m args c cX12_isLetter 1 "KiteSummonsModel" D cy 17 ad A := E
  have hx := E.hx
  have hb := E.hb
  have hl : lv_has ls 1 [(0, .int xq0)] := hl
  unfold f_X12_isLetter at hf
  refine lv_iload_n hx hb dX12_isLetter_0 rfl (lv_at hl 0 rfl) ?_
  refine lv_i2l hx hb dX12_isLetter_1 rfl ?_
  refine lv_ldc2 (v := 97) hx hb E.hown (E.ht _ k7_239) dX12_isLetter_2 ?_
  refine lv_ldc2 (v := 122) hx hb E.hown (E.ht _ k8_0) dX12_isLetter_5 ?_
  refine zcali hw (va_runS (As := [.long xq0.toInt64, .long (97 : Int64), .long (122 : Int64)]) (rest := []) E.fix (c_X12_in (l := l) hA xq0.toInt64 (97 : Int64) (122 : Int64) σ rfl) (zcS E k6_114 k1_14 k6_112 k6_113 mf_X12_in rfl rfl ⟨Nat.le_of_ble_eq_true rfl, Nat.le_of_ble_eq_true rfl⟩) (zPre E hw _) rfl rfl hl.1 rfl (lv_room (Nat.le_of_ble_eq_true rfl)) dX12_isLetter_8 ⟨Nat.zero_le _, Nat.zero_le _⟩) (fun H locs hw => ?_)
  exact zretz E hw hr hlk (b_e hf (by rfl)) rfl dX12_isLetter_11
set_option maxRecDepth 100000 in
set_option maxHeartbeats 4000000 in
theorem c_X12_isDigit {l : Launch} {D : va_G} {cy : Cy} {ad : Nat → Nat} {A : Nat → Prop} (hA : okAd 17 ad A) (xq0 : Int32) (σ : Sg) {r : Bool} (hf : f_X12_isDigit xq0 σ = r) : Met l yX12_isDigit (.code yX12_isDigit cX12_isDigit 1 (some .boolean) :: TT) ({ frames := 1, cells := 0, slots := 0, locals := 25 } : Room) (zPc D cy 17 (celM ad cy) ad A [.int xq0] σ) (zQi D 17 (celM ad cy) ad A (b2i r) σ) 0 0 A := by
  refine zofW (by decide) hA (Nat.le_of_ble_eq_true rfl) ?_
  intro p e s m args below meth c ls E hw hr hlk hl
  have E : ZE p s m args c cX12_isDigit 1 "KiteSummonsModel" D cy 17 ad A := E
  have hx := E.hx
  have hb := E.hb
  have hl : lv_has ls 1 [(0, .int xq0)] := hl
  unfold f_X12_isDigit at hf
  refine lv_iload_n hx hb dX12_isDigit_0 rfl (lv_at hl 0 rfl) ?_
  refine lv_i2l hx hb dX12_isDigit_1 rfl ?_
  refine lv_ldc2 (v := 48) hx hb E.hown (E.ht _ k8_4) dX12_isDigit_2 ?_
  refine lv_ldc2 (v := 57) hx hb E.hown (E.ht _ k8_5) dX12_isDigit_5 ?_
  refine zcali hw (va_runS (As := [.long xq0.toInt64, .long (48 : Int64), .long (57 : Int64)]) (rest := []) E.fix (c_X12_in (l := l) hA xq0.toInt64 (48 : Int64) (57 : Int64) σ rfl) (zcS E k6_114 k1_14 k6_112 k6_113 mf_X12_in rfl rfl ⟨Nat.le_of_ble_eq_true rfl, Nat.le_of_ble_eq_true rfl⟩) (zPre E hw _) rfl rfl hl.1 rfl (lv_room (Nat.le_of_ble_eq_true rfl)) dX12_isDigit_8 ⟨Nat.zero_le _, Nat.zero_le _⟩) (fun H locs hw => ?_)
  exact zretz E hw hr hlk (b_e hf (by rfl)) rfl dX12_isDigit_11
set_option maxRecDepth 100000 in
set_option maxHeartbeats 4000000 in
theorem c_X12_token {l : Launch} {D : va_G} {cy : Cy} {ad : Nat → Nat} {A : Nat → Prop} (hA : okAd 17 ad A) (σ : Sg) {σ9 : Sg} (hf : f_X12_token σ = some σ9) : Met l yX12_token (.code yX12_token cX12_token 3 none :: TT) ({ frames := 2, cells := 0, slots := 0, locals := 45 } : Room) (zPc D cy 17 (celM ad cy) ad A [.ref (ad 0)] σ) (zQv D 17 (celM ad cy) ad A σ9) 0 0 A := by
  refine zofW (by decide) hA (Nat.le_of_ble_eq_true rfl) ?_
  intro p e s m args below meth c ls E hw hr hlk hl
  have E : ZE p s m args c cX12_token 3 "KiteSummonsModel" D cy 17 ad A := E
  have hx := E.hx
  have hb := E.hb
  have hl : lv_has ls 3 [(0, .ref (ad 0))] := hl
  have hB122 : ∀ (xq1 : Int32) (xq2 : Int32) (kq86 : Sg → Option Sg) (hkq86 : ∀ (σ : Sg) (H : Heap) (locs : List Loc) (ls : Array Slot), ZS D 17 (celM ad cy) ad A s σ H locs → lv_has ls 3 [(0, .ref (ad 0)), (1, .int xq1), (2, .int xq2)] → kq86 σ = some σ9 → W p l e ({ frames := 2, cells := 0, slots := 0, locals := 45 } : Room) s m args below meth c H locs 0 0 (MQ below (zQv D 17 (celM ad cy) ad A σ9) args s 0 0 A) (F0 m 86 ls [])) (σ : Sg) (H : Heap) (locs : List Loc) (ls : Array Slot), ZS D 17 (celM ad cy) ad A s σ H locs → lv_has ls 3 [(0, .ref (ad 0)), (1, .int xq1), (2, .int xq2)] → f_X12_token_b122 kq86 xq1 xq2 σ = some σ9 → W p l e ({ frames := 2, cells := 0, slots := 0, locals := 45 } : Room) s m args below meth c H locs 0 0 (MQ below (zQv D 17 (celM ad cy) ad A σ9) args s 0 0 A) (F0 m 122 ls []) := by
    intro xq1 xq2 kq86 hkq86 σ H locs ls hw hl hf
    unfold f_X12_token_b122 at hf
    refine lv_aload_n hx hb dX12_token_122 rfl (lv_at hl 0 rfl) ?_
    refine lv_dup hx hb dX12_token_123 rfl ?_
    refine zget E hw (Nat.le_of_ble_eq_true rfl) (ceM_0 ad cy _) rfl inX12 23 (by decide) k6_6 (fun _ h => h) rfl dX12_token_124 ?_
    refine lv_iconst (v := 1) hx hb dX12_token_127 (by decide) ?_
    refine lv_iadd hx hb dX12_token_128 ?_
    refine zputs E hw (Nat.le_of_ble_eq_true rfl) (ceM_0 ad cy _) rfl inX12 tyX12 tyX12_ok nmX12 23 (by decide) k6_6 (fun _ h => h) rfl rfl rfl (Nat.le_of_ble_eq_true rfl) (j := 23) (Eq.trans (ceM_0 ad cy _) (by rfl)) dX12_token_129 (fun σ10 eσ10 H locs hw => ?_)
    replace hf := lt_i eσ10 hf
    refine lv_goto (tgt := 86) hx hb dX12_token_132 (by decide) ?_
    exact hkq86 σ10 _ _ _ hw (lv_sub hl [0, 1, 2] rfl) hf
  have hB104 : ∀ (xq1 : Int32) (xq2 : Int32) (kq86 : Sg → Option Sg) (hkq86 : ∀ (σ : Sg) (H : Heap) (locs : List Loc) (ls : Array Slot), ZS D 17 (celM ad cy) ad A s σ H locs → lv_has ls 3 [(0, .ref (ad 0)), (1, .int xq1), (2, .int xq2)] → kq86 σ = some σ9 → W p l e ({ frames := 2, cells := 0, slots := 0, locals := 45 } : Room) s m args below meth c H locs 0 0 (MQ below (zQv D 17 (celM ad cy) ad A σ9) args s 0 0 A) (F0 m 86 ls [])) (σ : Sg) (H : Heap) (locs : List Loc) (ls : Array Slot), ZS D 17 (celM ad cy) ad A s σ H locs → lv_has ls 3 [(0, .ref (ad 0)), (1, .int xq1), (2, .int xq2)] → f_X12_token_b104 kq86 xq1 xq2 σ = some σ9 → W p l e ({ frames := 2, cells := 0, slots := 0, locals := 45 } : Room) s m args below meth c H locs 0 0 (MQ below (zQv D 17 (celM ad cy) ad A σ9) args s 0 0 A) (F0 m 104 ls []) := by
    intro xq1 xq2 kq86 hkq86 σ H locs ls hw hl hf
    unfold f_X12_token_b104 at hf
    refine lv_iload_n hx hb dX12_token_104 rfl (lv_at hl 2 rfl) ?_
    refine lv_if_eq (tgt := 135) hx hb dX12_token_105 (by decide) (fun h => ?_) (fun h => ?_)
    · replace hf := it_t h hf
      exact zretv E hw hr hlk (rt_1 hf) dX12_token_135
    · replace hf := it_f h hf
      refine lv_aload_n hx hb dX12_token_108 rfl (lv_at hl 0 rfl) ?_
      refine lv_aload_n hx hb dX12_token_109 rfl (lv_at hl 0 rfl) ?_
      refine zget E hw (Nat.le_of_ble_eq_true rfl) (ceM_0 ad cy _) rfl inX12 23 (by decide) k6_6 (fun _ h => h) rfl dX12_token_110 ?_
      obtain ⟨vq9, hc, hf⟩ := bd_e hf
      refine zcali hw (va_runV (As := [.int (σ 0 23)]) (rest := []) E.fix (c_X12_byteAt (l := l) hA (σ 0 23) σ hc) (zcV E k7_235 k1_14 k7_232 k7_234 kp5_14 mf_X12_byteAt rfl rfl ⟨Nat.le_of_ble_eq_true rfl, Nat.le_of_ble_eq_true rfl⟩) (zPreV E hw (Nat.le_of_ble_eq_true rfl) (ceM_0 ad cy _) rfl _) rfl rfl hl.1 rfl (lv_room (Nat.le_of_ble_eq_true rfl)) dX12_token_113 ⟨Nat.zero_le _, Nat.zero_le _⟩) (fun H locs hw => ?_)
      refine zcali hw (va_runS (As := [.int vq9]) (rest := []) E.fix (c_X12_isDigit (l := l) hA vq9 σ rfl) (zcS E k8_3 k1_14 k8_1 k8_2 mf_X12_isDigit rfl rfl ⟨Nat.le_of_ble_eq_true rfl, Nat.le_of_ble_eq_true rfl⟩) (zPre E hw _) rfl rfl hl.1 rfl (lv_room (Nat.le_of_ble_eq_true rfl)) dX12_token_116 ⟨Nat.zero_le _, Nat.zero_le _⟩) (fun H locs hw => ?_)
      refine lv_if_eq (tgt := 135) hx hb dX12_token_119 (by decide) (fun h => ?_) (fun h => ?_)
      · replace hf := it_f (b2i_0 h) hf
        exact zretv E hw hr hlk (rt_1 hf) dX12_token_135
      · replace hf := it_t (b2i_n h) hf
        exact hB122 xq1 xq2 kq86 hkq86 σ _ _ _ hw (lv_sub hl [0, 1, 2] rfl) hf
  have hB86 : ∀ (xq1 : Int32) (xq2 : Int32) (kq86 : Sg → Option Sg) (hkq86 : ∀ (σ : Sg) (H : Heap) (locs : List Loc) (ls : Array Slot), ZS D 17 (celM ad cy) ad A s σ H locs → lv_has ls 3 [(0, .ref (ad 0)), (1, .int xq1), (2, .int xq2)] → kq86 σ = some σ9 → W p l e ({ frames := 2, cells := 0, slots := 0, locals := 45 } : Room) s m args below meth c H locs 0 0 (MQ below (zQv D 17 (celM ad cy) ad A σ9) args s 0 0 A) (F0 m 86 ls [])) (σ : Sg) (H : Heap) (locs : List Loc) (ls : Array Slot), ZS D 17 (celM ad cy) ad A s σ H locs → lv_has ls 3 [(0, .ref (ad 0)), (1, .int xq1), (2, .int xq2)] → f_X12_token_b86 kq86 xq1 xq2 σ = some σ9 → W p l e ({ frames := 2, cells := 0, slots := 0, locals := 45 } : Room) s m args below meth c H locs 0 0 (MQ below (zQv D 17 (celM ad cy) ad A σ9) args s 0 0 A) (F0 m 86 ls []) := by
    intro xq1 xq2 kq86 hkq86 σ H locs ls hw hl hf
    unfold f_X12_token_b86 at hf
    refine lv_iload_n hx hb dX12_token_86 rfl (lv_at hl 1 rfl) ?_
    refine lv_if_eq (tgt := 104) hx hb dX12_token_87 (by decide) (fun h => ?_) (fun h => ?_)
    · replace hf := it_t h hf
      exact hB104 xq1 xq2 kq86 hkq86 σ _ _ _ hw (lv_sub hl [0, 1, 2] rfl) hf
    · replace hf := it_f h hf
      refine lv_aload_n hx hb dX12_token_90 rfl (lv_at hl 0 rfl) ?_
      refine lv_aload_n hx hb dX12_token_91 rfl (lv_at hl 0 rfl) ?_
      refine zget E hw (Nat.le_of_ble_eq_true rfl) (ceM_0 ad cy _) rfl inX12 23 (by decide) k6_6 (fun _ h => h) rfl dX12_token_92 ?_
      obtain ⟨vq8, hc, hf⟩ := bd_e hf
      refine zcali hw (va_runV (As := [.int (σ 0 23)]) (rest := []) E.fix (c_X12_byteAt (l := l) hA (σ 0 23) σ hc) (zcV E k7_235 k1_14 k7_232 k7_234 kp5_14 mf_X12_byteAt rfl rfl ⟨Nat.le_of_ble_eq_true rfl, Nat.le_of_ble_eq_true rfl⟩) (zPreV E hw (Nat.le_of_ble_eq_true rfl) (ceM_0 ad cy _) rfl _) rfl rfl hl.1 rfl (lv_room (Nat.le_of_ble_eq_true rfl)) dX12_token_95 ⟨Nat.zero_le _, Nat.zero_le _⟩) (fun H locs hw => ?_)
      refine zcali hw (va_runS (As := [.int vq8]) (rest := []) E.fix (c_X12_isLetter (l := l) hA vq8 σ rfl) (zcS E k7_238 k1_14 k7_236 k7_237 mf_X12_isLetter rfl rfl ⟨Nat.le_of_ble_eq_true rfl, Nat.le_of_ble_eq_true rfl⟩) (zPre E hw _) rfl rfl hl.1 rfl (lv_room (Nat.le_of_ble_eq_true rfl)) dX12_token_98 ⟨Nat.zero_le _, Nat.zero_le _⟩) (fun H locs hw => ?_)
      refine lv_if_ne (tgt := 122) hx hb dX12_token_101 (by decide) (fun h => ?_) (fun h => ?_)
      · replace hf := it_t (b2i_n h) hf
        exact hB122 xq1 xq2 kq86 hkq86 σ _ _ _ hw (lv_sub hl [0, 1, 2] rfl) hf
      · replace hf := it_f (b2i_0 h) hf
        exact hB104 xq1 xq2 kq86 hkq86 σ _ _ _ hw (lv_sub hl [0, 1, 2] rfl) hf
  have hL86 : ∀ (xq1 : Int32) (xq2 : Int32) (n : Nat) (σ : Sg) (H : Heap) (locs : List Loc) (ls : Array Slot), ZS D 17 (celM ad cy) ad A s σ H locs → lv_has ls 3 [(0, .ref (ad 0)), (1, .int xq1), (2, .int xq2)] → f_X12_token_l86 xq1 xq2 n σ = some σ9 → W p l e ({ frames := 2, cells := 0, slots := 0, locals := 45 } : Room) s m args below meth c H locs 0 0 (MQ below (zQv D 17 (celM ad cy) ad A σ9) args s 0 0 A) (F0 m 86 ls []) := by
    intro xq1 xq2 n
    induction n with
    | zero =>
      intro σ H locs ls hw hl hf
      exact nn_e hf
    | succ n ih =>
      intro σ H locs ls hw hl hf
      exact hB86 xq1 xq2 (f_X12_token_l86 xq1 xq2 n) ih σ H locs ls hw hl hf
  have hB8 : ∀ (kq8 : Sg → Option Sg) (hkq8 : ∀ (σ : Sg) (H : Heap) (locs : List Loc) (ls : Array Slot), ZS D 17 (celM ad cy) ad A s σ H locs → lv_has ls 3 [(0, .ref (ad 0))] → kq8 σ = some σ9 → W p l e ({ frames := 2, cells := 0, slots := 0, locals := 45 } : Room) s m args below meth c H locs 0 0 (MQ below (zQv D 17 (celM ad cy) ad A σ9) args s 0 0 A) (F0 m 8 ls [])) (σ : Sg) (H : Heap) (locs : List Loc) (ls : Array Slot), ZS D 17 (celM ad cy) ad A s σ H locs → lv_has ls 3 [(0, .ref (ad 0))] → f_X12_token_b8 kq8 σ = some σ9 → W p l e ({ frames := 2, cells := 0, slots := 0, locals := 45 } : Room) s m args below meth c H locs 0 0 (MQ below (zQv D 17 (celM ad cy) ad A σ9) args s 0 0 A) (F0 m 8 ls []) := by
    intro kq8 hkq8 σ H locs ls hw hl hf
    unfold f_X12_token_b8 at hf
    refine lv_aload_n hx hb dX12_token_8 rfl (lv_at hl 0 rfl) ?_
    refine lv_aload_n hx hb dX12_token_9 rfl (lv_at hl 0 rfl) ?_
    refine zget E hw (Nat.le_of_ble_eq_true rfl) (ceM_0 ad cy _) rfl inX12 22 (by decide) k6_5 (fun _ h => h) rfl dX12_token_10 ?_
    obtain ⟨vq2, hc, hf⟩ := bd_e hf
    refine zcali hw (va_runV (As := [.int (σ 0 22)]) (rest := []) E.fix (c_X12_byteAt (l := l) hA (σ 0 22) σ hc) (zcV E k7_235 k1_14 k7_232 k7_234 kp5_14 mf_X12_byteAt rfl rfl ⟨Nat.le_of_ble_eq_true rfl, Nat.le_of_ble_eq_true rfl⟩) (zPreV E hw (Nat.le_of_ble_eq_true rfl) (ceM_0 ad cy _) rfl _) rfl rfl hl.1 rfl (lv_room (Nat.le_of_ble_eq_true rfl)) dX12_token_13 ⟨Nat.zero_le _, Nat.zero_le _⟩) (fun H locs hw => ?_)
    refine lv_bipush (v := 32) hx hb dX12_token_16 (by decide) ?_
    refine lv_icmp_ne (tgt := 34) hx hb dX12_token_18 (by decide) (fun h => ?_) (fun h => ?_)
    · replace hf := it_t h hf
      refine lv_aload_n hx hb dX12_token_34 rfl (lv_at hl 0 rfl) ?_
      refine lv_aload_n hx hb dX12_token_35 rfl (lv_at hl 0 rfl) ?_
      refine zget E hw (Nat.le_of_ble_eq_true rfl) (ceM_0 ad cy _) rfl inX12 22 (by decide) k6_5 (fun _ h => h) rfl dX12_token_36 ?_
      obtain ⟨vq3, hc, hf⟩ := bd_e hf
      refine zcali hw (va_runV (As := [.int (σ 0 22)]) (rest := []) E.fix (c_X12_byteAt (l := l) hA (σ 0 22) σ hc) (zcV E k7_235 k1_14 k7_232 k7_234 kp5_14 mf_X12_byteAt rfl rfl ⟨Nat.le_of_ble_eq_true rfl, Nat.le_of_ble_eq_true rfl⟩) (zPreV E hw (Nat.le_of_ble_eq_true rfl) (ceM_0 ad cy _) rfl _) rfl rfl hl.1 rfl (lv_room (Nat.le_of_ble_eq_true rfl)) dX12_token_39 ⟨Nat.zero_le _, Nat.zero_le _⟩) (fun H locs hw => ?_)
      refine zcali hw (va_runS (As := [.int vq3]) (rest := []) E.fix (c_X12_isLetter (l := l) hA vq3 σ rfl) (zcS E k7_238 k1_14 k7_236 k7_237 mf_X12_isLetter rfl rfl ⟨Nat.le_of_ble_eq_true rfl, Nat.le_of_ble_eq_true rfl⟩) (zPre E hw _) rfl rfl hl.1 rfl (lv_room (Nat.le_of_ble_eq_true rfl)) dX12_token_42 ⟨Nat.zero_le _, Nat.zero_le _⟩) (fun H locs hw => ?_)
      refine lv_istore_n (lv' := [(1, .int (b2i (f_X12_isLetter vq3 σ))), (0, .ref (ad 0))]) hx hb dX12_token_45 rfl hl (by decide) rfl (fun ls hl => ?_)
      refine lv_aload_n hx hb dX12_token_46 rfl (lv_at hl 1 rfl) ?_
      refine lv_aload_n hx hb dX12_token_47 rfl (lv_at hl 1 rfl) ?_
      refine zget E hw (Nat.le_of_ble_eq_true rfl) (ceM_0 ad cy _) rfl inX12 22 (by decide) k6_5 (fun _ h => h) rfl dX12_token_48 ?_
      obtain ⟨vq4, hc, hf⟩ := bd_e hf
      refine zcali hw (va_runV (As := [.int (σ 0 22)]) (rest := []) E.fix (c_X12_byteAt (l := l) hA (σ 0 22) σ hc) (zcV E k7_235 k1_14 k7_232 k7_234 kp5_14 mf_X12_byteAt rfl rfl ⟨Nat.le_of_ble_eq_true rfl, Nat.le_of_ble_eq_true rfl⟩) (zPreV E hw (Nat.le_of_ble_eq_true rfl) (ceM_0 ad cy _) rfl _) rfl rfl hl.1 rfl (lv_room (Nat.le_of_ble_eq_true rfl)) dX12_token_51 ⟨Nat.zero_le _, Nat.zero_le _⟩) (fun H locs hw => ?_)
      refine zcali hw (va_runS (As := [.int vq4]) (rest := []) E.fix (c_X12_isDigit (l := l) hA vq4 σ rfl) (zcS E k8_3 k1_14 k8_1 k8_2 mf_X12_isDigit rfl rfl ⟨Nat.le_of_ble_eq_true rfl, Nat.le_of_ble_eq_true rfl⟩) (zPre E hw _) rfl rfl hl.1 rfl (lv_room (Nat.le_of_ble_eq_true rfl)) dX12_token_54 ⟨Nat.zero_le _, Nat.zero_le _⟩) (fun H locs hw => ?_)
      refine lv_istore_n (lv' := [(2, .int (b2i (f_X12_isDigit vq4 σ))), (1, .int (b2i (f_X12_isLetter vq3 σ))), (0, .ref (ad 0))]) hx hb dX12_token_57 rfl hl (by decide) rfl (fun ls hl => ?_)
      refine lv_aload_n hx hb dX12_token_58 rfl (lv_at hl 2 rfl) ?_
      refine lv_aload_n hx hb dX12_token_59 rfl (lv_at hl 2 rfl) ?_
      refine zget E hw (Nat.le_of_ble_eq_true rfl) (ceM_0 ad cy _) rfl inX12 22 (by decide) k6_5 (fun _ h => h) rfl dX12_token_60 ?_
      refine lv_aload_n hx hb dX12_token_63 rfl (lv_at hl 2 rfl) ?_
      refine zget E hw (Nat.le_of_ble_eq_true rfl) (ceM_0 ad cy _) rfl inX12 21 (by decide) k6_4 (fun _ h => h) rfl dX12_token_64 ?_
      refine lv_icmp_ge (tgt := 79) hx hb dX12_token_67 (by decide) (fun h => ?_) (fun h => ?_)
      · replace hf := it_t h hf
        refine lv_aload_n hx hb dX12_token_79 rfl (lv_at hl 2 rfl) ?_
        refine zget E hw (Nat.le_of_ble_eq_true rfl) (ceM_0 ad cy _) rfl inX12 22 (by decide) k6_5 (fun _ h => h) rfl dX12_token_80 ?_
        refine zputs E hw (Nat.le_of_ble_eq_true rfl) (ceM_0 ad cy _) rfl inX12 tyX12 tyX12_ok nmX12 23 (by decide) k6_6 (fun _ h => h) rfl rfl rfl (Nat.le_of_ble_eq_true rfl) (j := 23) (Eq.trans (ceM_0 ad cy _) (by rfl)) dX12_token_83 (fun σ5 eσ5 H locs hw => ?_)
        replace hf := lt_i eσ5 hf
        exact hL86 (b2i (f_X12_isLetter vq3 σ)) (b2i (f_X12_isDigit vq4 σ)) 400 σ5 _ _ _ hw (lv_sub hl [2, 1, 0] rfl) hf
      · replace hf := it_f h hf
        refine lv_aload_n hx hb dX12_token_70 rfl (lv_at hl 2 rfl) ?_
        refine zget E hw (Nat.le_of_ble_eq_true rfl) (ceM_0 ad cy _) rfl inX12 22 (by decide) k6_5 (fun _ h => h) rfl dX12_token_71 ?_
        refine lv_iconst (v := 1) hx hb dX12_token_74 (by decide) ?_
        refine lv_iadd hx hb dX12_token_75 ?_
        refine lv_goto (tgt := 83) hx hb dX12_token_76 (by decide) ?_
        refine zputs E hw (Nat.le_of_ble_eq_true rfl) (ceM_0 ad cy _) rfl inX12 tyX12 tyX12_ok nmX12 23 (by decide) k6_6 (fun _ h => h) rfl rfl rfl (Nat.le_of_ble_eq_true rfl) (j := 23) (Eq.trans (ceM_0 ad cy _) (by rfl)) dX12_token_83 (fun σ6 eσ6 H locs hw => ?_)
        replace hf := lt_i eσ6 hf
        exact hL86 (b2i (f_X12_isLetter vq3 σ)) (b2i (f_X12_isDigit vq4 σ)) 400 σ6 _ _ _ hw (lv_sub hl [2, 1, 0] rfl) hf
    · replace hf := it_n h hf
      refine lv_aload_n hx hb dX12_token_21 rfl (lv_at hl 0 rfl) ?_
      refine lv_dup hx hb dX12_token_22 rfl ?_
      refine zget E hw (Nat.le_of_ble_eq_true rfl) (ceM_0 ad cy _) rfl inX12 22 (by decide) k6_5 (fun _ h => h) rfl dX12_token_23 ?_
      refine lv_iconst (v := 1) hx hb dX12_token_26 (by decide) ?_
      refine lv_iadd hx hb dX12_token_27 ?_
      refine zputs E hw (Nat.le_of_ble_eq_true rfl) (ceM_0 ad cy _) rfl inX12 tyX12 tyX12_ok nmX12 22 (by decide) k6_5 (fun _ h => h) rfl rfl rfl (Nat.le_of_ble_eq_true rfl) (j := 22) (Eq.trans (ceM_0 ad cy _) (by rfl)) dX12_token_28 (fun σ7 eσ7 H locs hw => ?_)
      replace hf := lt_i eσ7 hf
      refine lv_goto (tgt := 8) hx hb dX12_token_31 (by decide) ?_
      exact hkq8 σ7 _ _ _ hw (lv_sub hl [0] rfl) hf
  have hL8 : ∀ (n : Nat) (σ : Sg) (H : Heap) (locs : List Loc) (ls : Array Slot), ZS D 17 (celM ad cy) ad A s σ H locs → lv_has ls 3 [(0, .ref (ad 0))] → f_X12_token_l8 n σ = some σ9 → W p l e ({ frames := 2, cells := 0, slots := 0, locals := 45 } : Room) s m args below meth c H locs 0 0 (MQ below (zQv D 17 (celM ad cy) ad A σ9) args s 0 0 A) (F0 m 8 ls []) := by
    intro n
    induction n with
    | zero =>
      intro σ H locs ls hw hl hf
      exact nn_e hf
    | succ n ih =>
      intro σ H locs ls hw hl hf
      exact hB8 (f_X12_token_l8 n) ih σ H locs ls hw hl hf
  unfold f_X12_token at hf
  refine lv_aload_n hx hb dX12_token_0 rfl (lv_at hl 0 rfl) ?_
  refine lv_aload_n hx hb dX12_token_1 rfl (lv_at hl 0 rfl) ?_
  refine zget E hw (Nat.le_of_ble_eq_true rfl) (ceM_0 ad cy _) rfl inX12 23 (by decide) k6_6 (fun _ h => h) rfl dX12_token_2 ?_
  refine zputs E hw (Nat.le_of_ble_eq_true rfl) (ceM_0 ad cy _) rfl inX12 tyX12 tyX12_ok nmX12 22 (by decide) k6_5 (fun _ h => h) rfl rfl rfl (Nat.le_of_ble_eq_true rfl) (j := 22) (Eq.trans (ceM_0 ad cy _) (by rfl)) dX12_token_5 (fun σ1 eσ1 H locs hw => ?_)
  replace hf := lt_i eσ1 hf
  exact hL8 400 σ1 _ _ _ hw (lv_sub hl [0] rfl) hf
set_option maxRecDepth 100000 in
set_option maxHeartbeats 4000000 in
theorem c_X12_word {l : Launch} {D : va_G} {cy : Cy} {ad : Nat → Nat} {A : Nat → Prop} (hA : okAd 17 ad A) (σ : Sg) {r : Int64} (hf : f_X12_word σ = some r) : Met l yX12_word (.code yX12_word cX12_word 4 (some .long) :: TT) ({ frames := 2, cells := 0, slots := 0, locals := 45 } : Room) (zPc D cy 17 (celM ad cy) ad A [.ref (ad 0)] σ) (zQl D 17 (celM ad cy) ad A r σ) 0 0 A := by
  refine zofW (by decide) hA (Nat.le_of_ble_eq_true rfl) ?_
  intro p e s m args below meth c ls E hw hr hlk hl
  have E : ZE p s m args c cX12_word 4 "KiteSummonsModel" D cy 17 ad A := E
  have hx := E.hx
  have hb := E.hb
  have hl : lv_has ls 4 [(0, .ref (ad 0))] := hl
  have hB7 : ∀ (kq7 : Int64 → Int32 → Option Int64) (hkq7 : ∀ (xq1 : Int64) (xq3 : Int32) (H : Heap) (locs : List Loc) (ls : Array Slot), ZS D 17 (celM ad cy) ad A s σ H locs → lv_has ls 4 [(0, .ref (ad 0)), (1, .long xq1), (3, .int xq3)] → kq7 xq1 xq3 = some r → W p l e ({ frames := 2, cells := 0, slots := 0, locals := 45 } : Room) s m args below meth c H locs 0 0 (MQ below (zQl D 17 (celM ad cy) ad A r σ) args s 0 0 A) (F0 m 7 ls [])) (xq1 : Int64) (xq3 : Int32) (H : Heap) (locs : List Loc) (ls : Array Slot), ZS D 17 (celM ad cy) ad A s σ H locs → lv_has ls 4 [(0, .ref (ad 0)), (1, .long xq1), (3, .int xq3)] → f_X12_word_b7 kq7 σ xq1 xq3 = some r → W p l e ({ frames := 2, cells := 0, slots := 0, locals := 45 } : Room) s m args below meth c H locs 0 0 (MQ below (zQl D 17 (celM ad cy) ad A r σ) args s 0 0 A) (F0 m 7 ls []) := by
    intro kq7 hkq7 xq1 xq3 H locs ls hw hl hf
    unfold f_X12_word_b7 at hf
    refine lv_iload_n hx hb dX12_word_7 rfl (lv_at hl 2 rfl) ?_
    refine lv_aload_n hx hb dX12_word_8 rfl (lv_at hl 0 rfl) ?_
    refine zget E hw (Nat.le_of_ble_eq_true rfl) (ceM_0 ad cy _) rfl inX12 23 (by decide) k6_6 (fun _ h => h) rfl dX12_word_9 ?_
    refine lv_icmp_ge (tgt := 50) hx hb dX12_word_12 (by decide) (fun h => ?_) (fun h => ?_)
    · replace hf := it_t h hf
      refine lv_aload_n hx hb dX12_word_50 rfl (lv_at hl 0 rfl) ?_
      refine zget E hw (Nat.le_of_ble_eq_true rfl) (ceM_0 ad cy _) rfl inX12 27 (by decide) k6_10 (fun _ h => h) rfl dX12_word_51 ?_
      refine lv_if_ne (tgt := 71) hx hb dX12_word_54 (by decide) (fun h => ?_) (fun h => ?_)
      · replace hf := it_t h hf
        refine lv_lconst (v := 0) hx hb dX12_word_71 (by decide) ?_
        refine lv_goto (tgt := 76) hx hb dX12_word_72 (by decide) ?_
        exact zretl E hw hr hlk (rt_1 hf) rfl dX12_word_76
      · replace hf := it_n h hf
        refine lv_aload_n hx hb dX12_word_57 rfl (lv_at hl 0 rfl) ?_
        refine lv_aload_n hx hb dX12_word_58 rfl (lv_at hl 0 rfl) ?_
        refine zget E hw (Nat.le_of_ble_eq_true rfl) (ceM_0 ad cy _) rfl inX12 22 (by decide) k6_5 (fun _ h => h) rfl dX12_word_59 ?_
        obtain ⟨vq2, hc, hf⟩ := bd_e hf
        refine zcali hw (va_runV (As := [.int (σ 0 22)]) (rest := []) E.fix (c_X12_byteAt (l := l) hA (σ 0 22) σ hc) (zcV E k7_235 k1_14 k7_232 k7_234 kp5_14 mf_X12_byteAt rfl rfl ⟨Nat.le_of_ble_eq_true rfl, Nat.le_of_ble_eq_true rfl⟩) (zPreV E hw (Nat.le_of_ble_eq_true rfl) (ceM_0 ad cy _) rfl _) rfl rfl hl.1 rfl (lv_room (Nat.le_of_ble_eq_true rfl)) dX12_word_62 ⟨Nat.zero_le _, Nat.zero_le _⟩) (fun H locs hw => ?_)
        refine zcali hw (va_runS (As := [.int vq2]) (rest := []) E.fix (c_X12_isLetter (l := l) hA vq2 σ rfl) (zcS E k7_238 k1_14 k7_236 k7_237 mf_X12_isLetter rfl rfl ⟨Nat.le_of_ble_eq_true rfl, Nat.le_of_ble_eq_true rfl⟩) (zPre E hw _) rfl rfl hl.1 rfl (lv_room (Nat.le_of_ble_eq_true rfl)) dX12_word_65 ⟨Nat.zero_le _, Nat.zero_le _⟩) (fun H locs hw => ?_)
        refine lv_if_ne (tgt := 75) hx hb dX12_word_68 (by decide) (fun h => ?_) (fun h => ?_)
        · replace hf := it_t (b2i_n h) hf
          refine lv_lload_n hx hb dX12_word_75 rfl (lv_at hl 1 rfl) ?_
          exact zretl E hw hr hlk (rt_1 hf) rfl dX12_word_76
        · replace hf := it_f (b2i_0 h) hf
          refine lv_lconst (v := 0) hx hb dX12_word_71 (by decide) ?_
          refine lv_goto (tgt := 76) hx hb dX12_word_72 (by decide) ?_
          exact zretl E hw hr hlk (rt_1 hf) rfl dX12_word_76
    · replace hf := it_f h hf
      refine lv_lload_n hx hb dX12_word_15 rfl (lv_at hl 1 rfl) ?_
      refine lv_ldc2 (v := 36028797018963967) hx hb E.hown (E.ht _ k8_18) dX12_word_16 ?_
      refine W.lcmp hx hb dX12_word_19 ?_
      refine lv_if_le (tgt := 27) hx hb dX12_word_20 (by decide) (fun h => ?_) (fun h => ?_)
      · replace hf := it_t h hf
        refine lv_ldc2 (v := 32) hx hb E.hown (E.ht _ k8_19) dX12_word_27 ?_
        refine lv_lload_n hx hb dX12_word_30 rfl (lv_at hl 1 rfl) ?_
        refine lv_lmul hx hb dX12_word_31 ?_
        refine lv_aload_n hx hb dX12_word_32 rfl (lv_at hl 0 rfl) ?_
        refine zget E hw (Nat.le_of_ble_eq_true rfl) (ceM_0 ad cy _) rfl inX12 20 (by decide) k6_3 (fun _ h => h) rfl dX12_word_33 ?_
        refine lv_iload_n hx hb dX12_word_36 rfl (lv_at hl 2 rfl) ?_
        obtain ⟨vq3, hvq3, hf⟩ := bd_e hf
        refine zaldr E hw (Nat.le_of_ble_eq_true rfl) (ceM_9 ad cy) hvq3 dX12_word_37 ?_
        refine lv_bipush (v := 96) hx hb dX12_word_38 (by decide) ?_
        refine lv_isub hx hb dX12_word_40 ?_
        refine lv_i2l hx hb dX12_word_41 rfl ?_
        refine lv_ladd hx hb dX12_word_42 ?_
        refine lv_topl (fun vq4 evq4 => ?_)
        replace hf := lt_i evq4 hf
        refine lv_lstore_n (lv' := [(1, .long vq4), (0, .ref (ad 0)), (3, .int xq3)]) hx hb dX12_word_43 rfl hl (by decide) rfl (fun ls hl => ?_)
        refine lv_iinc (v := (xq3 + 1)) (lv' := [(3, .int (xq3 + 1)), (1, .long vq4), (0, .ref (ad 0))]) hx hb dX12_word_44 hl (k := 2) rfl (by rfl) (by decide) rfl (fun ls hl => ?_)
        refine lv_goto (tgt := 7) hx hb dX12_word_47 (by decide) ?_
        exact hkq7 vq4 (xq3 + 1) _ _ _ hw (lv_sub hl [2, 1, 0] rfl) hf
      · replace hf := it_f h hf
        refine lv_lload_n hx hb dX12_word_23 rfl (lv_at hl 1 rfl) ?_
        refine lv_goto (tgt := 43) hx hb dX12_word_24 (by decide) ?_
        refine lv_lstore_n (lv' := [(1, .long xq1), (0, .ref (ad 0)), (3, .int xq3)]) hx hb dX12_word_43 rfl hl (by decide) rfl (fun ls hl => ?_)
        refine lv_iinc (v := (xq3 + 1)) (lv' := [(3, .int (xq3 + 1)), (1, .long xq1), (0, .ref (ad 0))]) hx hb dX12_word_44 hl (k := 2) rfl (by rfl) (by decide) rfl (fun ls hl => ?_)
        refine lv_goto (tgt := 7) hx hb dX12_word_47 (by decide) ?_
        exact hkq7 xq1 (xq3 + 1) _ _ _ hw (lv_sub hl [2, 1, 0] rfl) hf
  have hL7 : ∀ (n : Nat) (xq1 : Int64) (xq3 : Int32) (H : Heap) (locs : List Loc) (ls : Array Slot), ZS D 17 (celM ad cy) ad A s σ H locs → lv_has ls 4 [(0, .ref (ad 0)), (1, .long xq1), (3, .int xq3)] → f_X12_word_l7 σ n xq1 xq3 = some r → W p l e ({ frames := 2, cells := 0, slots := 0, locals := 45 } : Room) s m args below meth c H locs 0 0 (MQ below (zQl D 17 (celM ad cy) ad A r σ) args s 0 0 A) (F0 m 7 ls []) := by
    intro n
    induction n with
    | zero =>
      intro xq1 xq3 H locs ls hw hl hf
      exact nn_e hf
    | succ n ih =>
      intro xq1 xq3 H locs ls hw hl hf
      exact hB7 (f_X12_word_l7 σ n) ih xq1 xq3 H locs ls hw hl hf
  unfold f_X12_word at hf
  refine lv_lconst (v := 0) hx hb dX12_word_0 (by decide) ?_
  refine lv_lstore_n (lv' := [(1, .long (0 : Int64)), (0, .ref (ad 0))]) hx hb dX12_word_1 rfl hl (by decide) rfl (fun ls hl => ?_)
  refine lv_aload_n hx hb dX12_word_2 rfl (lv_at hl 1 rfl) ?_
  refine zget E hw (Nat.le_of_ble_eq_true rfl) (ceM_0 ad cy _) rfl inX12 22 (by decide) k6_5 (fun _ h => h) rfl dX12_word_3 ?_
  refine lv_topi (fun vq1 evq1 => ?_)
  replace hf := lt_i evq1 hf
  refine lv_istore_n (lv' := [(3, .int vq1), (1, .long (0 : Int64)), (0, .ref (ad 0))]) hx hb dX12_word_6 rfl hl (by decide) rfl (fun ls hl => ?_)
  exact hL7 400 (0 : Int64) vq1 _ _ _ hw (lv_sub hl [2, 1, 0] rfl) hf
set_option maxRecDepth 100000 in
set_option maxHeartbeats 4000000 in
theorem c_X12_kindHere {l : Launch} {D : va_G} {cy : Cy} {ad : Nat → Nat} {A : Nat → Prop} (hA : okAd 17 ad A) (σ : Sg) {r : Int32} (hf : f_X12_kindHere σ = some r) : Met l yX12_kindHere (.code yX12_kindHere cX12_kindHere 3 (some .int) :: TT) ({ frames := 3, cells := 0, slots := 0, locals := 68 } : Room) (zPc D cy 17 (celM ad cy) ad A [.ref (ad 0)] σ) (zQi D 17 (celM ad cy) ad A r σ) 0 0 A := by
  refine zofW (by decide) hA (Nat.le_of_ble_eq_true rfl) ?_
  intro p e s m args below meth c ls E hw hr hlk hl
  have E : ZE p s m args c cX12_kindHere 3 "KiteSummonsModel" D cy 17 ad A := E
  have hx := E.hx
  have hb := E.hb
  have hl : lv_has ls 3 [(0, .ref (ad 0))] := hl
  unfold f_X12_kindHere at hf
  refine lv_aload_n hx hb dX12_kindHere_0 rfl (lv_at hl 0 rfl) ?_
  obtain ⟨vq1, hc, hf⟩ := bd_e hf
  refine zcall hw (va_runV (As := []) (rest := []) E.fix (c_X12_word (l := l) hA σ hc) (zcV E k8_17 k1_14 k8_14 k8_16 kp6_1 mf_X12_word rfl rfl ⟨Nat.le_of_ble_eq_true rfl, Nat.le_of_ble_eq_true rfl⟩) (zPreV E hw (Nat.le_of_ble_eq_true rfl) (ceM_0 ad cy _) rfl _) rfl rfl hl.1 rfl (lv_room (Nat.le_of_ble_eq_true rfl)) dX12_kindHere_1 ⟨Nat.zero_le _, Nat.zero_le _⟩) (fun H locs hw => ?_)
  refine lv_lstore_n (lv' := [(1, .long vq1), (0, .ref (ad 0))]) hx hb dX12_kindHere_4 rfl hl (by decide) rfl (fun ls hl => ?_)
  refine lv_lload_n hx hb dX12_kindHere_5 rfl (lv_at hl 0 rfl) ?_
  refine lv_ldc2 (v := 370309) hx hb E.hown (E.ht _ k8_20) dX12_kindHere_6 ?_
  refine W.lcmp hx hb dX12_kindHere_9 ?_
  refine lv_if_ne (tgt := 17) hx hb dX12_kindHere_10 (by decide) (fun h => ?_) (fun h => ?_)
  · replace hf := it_t h hf
    refine lv_lload_n hx hb dX12_kindHere_17 rfl (lv_at hl 0 rfl) ?_
    refine lv_ldc2 (v := 18596) hx hb E.hown (E.ht _ k8_21) dX12_kindHere_18 ?_
    refine W.lcmp hx hb dX12_kindHere_21 ?_
    refine lv_if_ne (tgt := 29) hx hb dX12_kindHere_22 (by decide) (fun h => ?_) (fun h => ?_)
    · replace hf := it_t h hf
      refine lv_lload_n hx hb dX12_kindHere_29 rfl (lv_at hl 0 rfl) ?_
      refine lv_ldc2 (v := 8554201) hx hb E.hown (E.ht _ k8_22) dX12_kindHere_30 ?_
      refine W.lcmp hx hb dX12_kindHere_33 ?_
      refine lv_if_ne (tgt := 41) hx hb dX12_kindHere_34 (by decide) (fun h => ?_) (fun h => ?_)
      · replace hf := it_t h hf
        refine lv_lload_n hx hb dX12_kindHere_41 rfl (lv_at hl 0 rfl) ?_
        refine lv_ldc2 (v := 11178213) hx hb E.hown (E.ht _ k8_23) dX12_kindHere_42 ?_
        refine W.lcmp hx hb dX12_kindHere_45 ?_
        refine lv_if_ne (tgt := 53) hx hb dX12_kindHere_46 (by decide) (fun h => ?_) (fun h => ?_)
        · replace hf := it_t h hf
          refine lv_lload_n hx hb dX12_kindHere_53 rfl (lv_at hl 0 rfl) ?_
          refine lv_ldc2 (v := 2552) hx hb E.hown (E.ht _ k8_24) dX12_kindHere_54 ?_
          refine W.lcmp hx hb dX12_kindHere_57 ?_
          refine lv_if_ne (tgt := 65) hx hb dX12_kindHere_58 (by decide) (fun h => ?_) (fun h => ?_)
          · replace hf := it_t h hf
            refine lv_lload_n hx hb dX12_kindHere_65 rfl (lv_at hl 0 rfl) ?_
            refine lv_ldc2 (v := 15748) hx hb E.hown (E.ht _ k8_25) dX12_kindHere_66 ?_
            refine W.lcmp hx hb dX12_kindHere_69 ?_
            refine lv_if_ne (tgt := 77) hx hb dX12_kindHere_70 (by decide) (fun h => ?_) (fun h => ?_)
            · replace hf := it_t h hf
              refine lv_iconst (v := (-1)) hx hb dX12_kindHere_77 (by decide) ?_
              exact zreti E hw hr hlk (rt_1 hf) rfl dX12_kindHere_78
            · replace hf := it_n h hf
              refine lv_iconst (v := 5) hx hb dX12_kindHere_73 (by decide) ?_
              refine lv_goto (tgt := 78) hx hb dX12_kindHere_74 (by decide) ?_
              exact zreti E hw hr hlk (rt_1 hf) rfl dX12_kindHere_78
          · replace hf := it_n h hf
            refine lv_iconst (v := 4) hx hb dX12_kindHere_61 (by decide) ?_
            refine lv_goto (tgt := 78) hx hb dX12_kindHere_62 (by decide) ?_
            exact zreti E hw hr hlk (rt_1 hf) rfl dX12_kindHere_78
        · replace hf := it_n h hf
          refine lv_iconst (v := 3) hx hb dX12_kindHere_49 (by decide) ?_
          refine lv_goto (tgt := 78) hx hb dX12_kindHere_50 (by decide) ?_
          exact zreti E hw hr hlk (rt_1 hf) rfl dX12_kindHere_78
      · replace hf := it_n h hf
        refine lv_iconst (v := 2) hx hb dX12_kindHere_37 (by decide) ?_
        refine lv_goto (tgt := 78) hx hb dX12_kindHere_38 (by decide) ?_
        exact zreti E hw hr hlk (rt_1 hf) rfl dX12_kindHere_78
    · replace hf := it_n h hf
      refine lv_iconst (v := 1) hx hb dX12_kindHere_25 (by decide) ?_
      refine lv_goto (tgt := 78) hx hb dX12_kindHere_26 (by decide) ?_
      exact zreti E hw hr hlk (rt_1 hf) rfl dX12_kindHere_78
  · replace hf := it_n h hf
    refine lv_iconst (v := 0) hx hb dX12_kindHere_13 (by decide) ?_
    refine lv_goto (tgt := 78) hx hb dX12_kindHere_14 (by decide) ?_
    exact zreti E hw hr hlk (rt_1 hf) rfl dX12_kindHere_78
set_option maxRecDepth 100000 in
set_option maxHeartbeats 4000000 in
theorem c_X12_wants {l : Launch} {D : va_G} {cy : Cy} {ad : Nat → Nat} {A : Nat → Prop} (hA : okAd 17 ad A) (xq1 : Int32) (σ : Sg) {σ9 : Sg} (hf : f_X12_wants xq1 σ = some σ9) : Met l yX12_wants (.code yX12_wants cX12_wants 2 none :: TT) ({ frames := 3, cells := 0, slots := 0, locals := 67 } : Room) (zPc D cy 17 (celM ad cy) ad A [.ref (ad 0), .int xq1] σ) (zQv D 17 (celM ad cy) ad A σ9) 0 0 A := by
  refine zofW (by decide) hA (Nat.le_of_ble_eq_true rfl) ?_
  intro p e s m args below meth c ls E hw hr hlk hl
  have E : ZE p s m args c cX12_wants 2 "KiteSummonsModel" D cy 17 ad A := E
  have hx := E.hx
  have hb := E.hb
  have hl : lv_has ls 2 [(0, .ref (ad 0)), (1, .int xq1)] := hl
  have hB17 : ∀ (tq1 : Int32) (σ : Sg) (H : Heap) (locs : List Loc) (ls : Array Slot), ZS D 17 (celM ad cy) ad A s σ H locs → lv_has ls 2 [(0, .ref (ad 0))] → f_X12_wants_b17 tq1 σ = some σ9 → W p l e ({ frames := 3, cells := 0, slots := 0, locals := 67 } : Room) s m args below meth c H locs 0 0 (MQ below (zQv D 17 (celM ad cy) ad A σ9) args s 0 0 A) (F0 m 17 ls [.int tq1, .ref (ad 0)]) := by
    intro tq1 σ H locs ls hw hl hf
    unfold f_X12_wants_b17 at hf
    obtain ⟨hgq1, hf⟩ := gd_e hf
    refine zputs E hw (Nat.le_of_ble_eq_true rfl) (ceM_0 ad cy _) rfl inX12 tyX12 tyX12_ok nmX12 27 (by decide) k6_10 (fun _ h => h) rfl (z01_nar hgq1) (z01_fit hgq1) (Nat.le_of_ble_eq_true rfl) (j := 27) (Eq.trans (ceM_0 ad cy _) (by rfl)) dX12_wants_17 (fun σ2 eσ2 H locs hw => ?_)
    replace hf := lt_i eσ2 hf
    refine lv_aload_n hx hb dX12_wants_20 rfl (lv_at hl 0 rfl) ?_
    refine zget E hw (Nat.le_of_ble_eq_true rfl) (ceM_0 ad cy _) rfl inX12 27 (by decide) k6_10 (fun _ h => h) rfl dX12_wants_21 ?_
    refine lv_if_ne (tgt := 31) hx hb dX12_wants_24 (by decide) (fun h => ?_) (fun h => ?_)
    · replace hf := it_t h hf
      exact zretv E hw hr hlk (rt_1 hf) dX12_wants_31
    · replace hf := it_n h hf
      refine lv_aload_n hx hb dX12_wants_27 rfl (lv_at hl 0 rfl) ?_
      obtain ⟨σ3, hc, hf⟩ := bd_e hf
      refine zcalv hw (va_runV (As := []) (rest := []) E.fix (c_X12_token (l := l) hA σ2 hc) (zcV E k7_231 k1_14 k7_228 k7_230 kp5_13 mf_X12_token rfl rfl ⟨Nat.le_of_ble_eq_true rfl, Nat.le_of_ble_eq_true rfl⟩) (zPreV E hw (Nat.le_of_ble_eq_true rfl) (ceM_0 ad cy _) rfl _) rfl rfl hl.1 rfl (lv_room (Nat.le_of_ble_eq_true rfl)) dX12_wants_28 ⟨Nat.zero_le _, Nat.zero_le _⟩) (fun H locs hw => ?_)
      exact zretv E hw hr hlk (rt_1 hf) dX12_wants_31
  unfold f_X12_wants at hf
  refine lv_aload_n hx hb dX12_wants_0 rfl (lv_at hl 0 rfl) ?_
  refine lv_aload_n hx hb dX12_wants_1 rfl (lv_at hl 0 rfl) ?_
  refine zget E hw (Nat.le_of_ble_eq_true rfl) (ceM_0 ad cy _) rfl inX12 27 (by decide) k6_10 (fun _ h => h) rfl dX12_wants_2 ?_
  refine lv_if_ne (tgt := 12) hx hb dX12_wants_5 (by decide) (fun h => ?_) (fun h => ?_)
  · replace hf := it_t h hf
    refine lv_iconst (v := 1) hx hb dX12_wants_12 (by decide) ?_
    refine lv_goto (tgt := 17) hx hb dX12_wants_13 (by decide) ?_
    exact hB17 1 σ _ _ _ hw (lv_sub hl [0] rfl) hf
  · replace hf := it_n h hf
    refine lv_iload_n hx hb dX12_wants_8 rfl (lv_at hl 1 rfl) ?_
    refine lv_if_ne (tgt := 16) hx hb dX12_wants_9 (by decide) (fun h => ?_) (fun h => ?_)
    · replace hf := it_t h hf
      refine lv_iconst (v := 0) hx hb dX12_wants_16 (by decide) ?_
      exact hB17 0 σ _ _ _ hw (lv_sub hl [0] rfl) hf
    · replace hf := it_n h hf
      refine lv_iconst (v := 1) hx hb dX12_wants_12 (by decide) ?_
      refine lv_goto (tgt := 17) hx hb dX12_wants_13 (by decide) ?_
      exact hB17 1 σ _ _ _ hw (lv_sub hl [0] rfl) hf
set_option maxRecDepth 100000 in
set_option maxHeartbeats 4000000 in
theorem c_X12_factHere {l : Launch} {D : va_G} {cy : Cy} {ad : Nat → Nat} {A : Nat → Prop} (hA : okAd 17 ad A) (σ : Sg) {r : Int32} (hf : f_X12_factHere σ = some r) : Met l yX12_factHere (.code yX12_factHere cX12_factHere 3 (some .int) :: TT) ({ frames := 3, cells := 0, slots := 0, locals := 68 } : Room) (zPc D cy 17 (celM ad cy) ad A [.ref (ad 0)] σ) (zQi D 17 (celM ad cy) ad A r σ) 0 0 A := by
  refine zofW (by decide) hA (Nat.le_of_ble_eq_true rfl) ?_
  intro p e s m args below meth c ls E hw hr hlk hl
  have E : ZE p s m args c cX12_factHere 3 "KiteSummonsModel" D cy 17 ad A := E
  have hx := E.hx
  have hb := E.hb
  have hl : lv_has ls 3 [(0, .ref (ad 0))] := hl
  unfold f_X12_factHere at hf
  refine lv_aload_n hx hb dX12_factHere_0 rfl (lv_at hl 0 rfl) ?_
  obtain ⟨vq1, hc, hf⟩ := bd_e hf
  refine zcall hw (va_runV (As := []) (rest := []) E.fix (c_X12_word (l := l) hA σ hc) (zcV E k8_17 k1_14 k8_14 k8_16 kp6_1 mf_X12_word rfl rfl ⟨Nat.le_of_ble_eq_true rfl, Nat.le_of_ble_eq_true rfl⟩) (zPreV E hw (Nat.le_of_ble_eq_true rfl) (ceM_0 ad cy _) rfl _) rfl rfl hl.1 rfl (lv_room (Nat.le_of_ble_eq_true rfl)) dX12_factHere_1 ⟨Nat.zero_le _, Nat.zero_le _⟩) (fun H locs hw => ?_)
  refine lv_lstore_n (lv' := [(1, .long vq1), (0, .ref (ad 0))]) hx hb dX12_factHere_4 rfl hl (by decide) rfl (fun ls hl => ?_)
  refine lv_lload_n hx hb dX12_factHere_5 rfl (lv_at hl 0 rfl) ?_
  refine lv_ldc2 (v := 251508) hx hb E.hown (E.ht _ k8_56) dX12_factHere_6 ?_
  refine W.lcmp hx hb dX12_factHere_9 ?_
  refine lv_if_ne (tgt := 17) hx hb dX12_factHere_10 (by decide) (fun h => ?_) (fun h => ?_)
  · replace hf := it_t h hf
    refine lv_lload_n hx hb dX12_factHere_17 rfl (lv_at hl 0 rfl) ?_
    refine lv_ldc2 (v := 659105223) hx hb E.hown (E.ht _ k8_57) dX12_factHere_18 ?_
    refine W.lcmp hx hb dX12_factHere_21 ?_
    refine lv_if_ne (tgt := 30) hx hb dX12_factHere_22 (by decide) (fun h => ?_) (fun h => ?_)
    · replace hf := it_t h hf
      refine lv_lload_n hx hb dX12_factHere_30 rfl (lv_at hl 0 rfl) ?_
      refine lv_ldc2 (v := 6194) hx hb E.hown (E.ht _ k8_58) dX12_factHere_31 ?_
      refine W.lcmp hx hb dX12_factHere_34 ?_
      refine lv_if_ne (tgt := 43) hx hb dX12_factHere_35 (by decide) (fun h => ?_) (fun h => ?_)
      · replace hf := it_t h hf
        refine lv_lload_n hx hb dX12_factHere_43 rfl (lv_at hl 0 rfl) ?_
        refine lv_ldc2 (v := 460197) hx hb E.hown (E.ht _ k8_59) dX12_factHere_44 ?_
        refine W.lcmp hx hb dX12_factHere_47 ?_
        refine lv_if_ne (tgt := 56) hx hb dX12_factHere_48 (by decide) (fun h => ?_) (fun h => ?_)
        · replace hf := it_t h hf
          refine lv_lload_n hx hb dX12_factHere_56 rfl (lv_at hl 0 rfl) ?_
          refine lv_ldc2 (v := 492210354) hx hb E.hown (E.ht _ k8_60) dX12_factHere_57 ?_
          refine W.lcmp hx hb dX12_factHere_60 ?_
          refine lv_if_ne (tgt := 69) hx hb dX12_factHere_61 (by decide) (fun h => ?_) (fun h => ?_)
          · replace hf := it_t h hf
            refine lv_iconst (v := 0) hx hb dX12_factHere_69 (by decide) ?_
            exact zreti E hw hr hlk (rt_1 hf) rfl dX12_factHere_70
          · replace hf := it_n h hf
            refine lv_bipush (v := (-5)) hx hb dX12_factHere_64 (by decide) ?_
            refine lv_goto (tgt := 70) hx hb dX12_factHere_66 (by decide) ?_
            exact zreti E hw hr hlk (rt_1 hf) rfl dX12_factHere_70
        · replace hf := it_n h hf
          refine lv_bipush (v := (-4)) hx hb dX12_factHere_51 (by decide) ?_
          refine lv_goto (tgt := 70) hx hb dX12_factHere_53 (by decide) ?_
          exact zreti E hw hr hlk (rt_1 hf) rfl dX12_factHere_70
      · replace hf := it_n h hf
        refine lv_bipush (v := (-3)) hx hb dX12_factHere_38 (by decide) ?_
        refine lv_goto (tgt := 70) hx hb dX12_factHere_40 (by decide) ?_
        exact zreti E hw hr hlk (rt_1 hf) rfl dX12_factHere_70
    · replace hf := it_n h hf
      refine lv_bipush (v := (-2)) hx hb dX12_factHere_25 (by decide) ?_
      refine lv_goto (tgt := 70) hx hb dX12_factHere_27 (by decide) ?_
      exact zreti E hw hr hlk (rt_1 hf) rfl dX12_factHere_70
  · replace hf := it_n h hf
    refine lv_iconst (v := (-1)) hx hb dX12_factHere_13 (by decide) ?_
    refine lv_goto (tgt := 70) hx hb dX12_factHere_14 (by decide) ?_
    exact zreti E hw hr hlk (rt_1 hf) rfl dX12_factHere_70
set_option maxRecDepth 100000 in
set_option maxHeartbeats 4000000 in
theorem c_X12_number {l : Launch} {D : va_G} {cy : Cy} {ad : Nat → Nat} {A : Nat → Prop} (hA : okAd 17 ad A) (xq1 : Int32) (σ : Sg) {σ9 : Sg} (hf : f_X12_number xq1 σ = some σ9) : Met l yX12_number (.code yX12_number cX12_number 4 none :: TT) ({ frames := 4, cells := 0, slots := 0, locals := 88 } : Room) (zPc D cy 17 (celM ad cy) ad A [.ref (ad 0), .int xq1] σ) (zQv D 17 (celM ad cy) ad A σ9) 0 0 A := by
  refine zofW (by decide) hA (Nat.le_of_ble_eq_true rfl) ?_
  intro p e s m args below meth c ls E hw hr hlk hl
  have E : ZE p s m args c cX12_number 4 "KiteSummonsModel" D cy 17 ad A := E
  have hx := E.hx
  have hb := E.hb
  have hl : lv_has ls 4 [(0, .ref (ad 0)), (1, .int xq1)] := hl
  have hB82 : ∀ (xq1 : Int32) (xq2 : Int32) (σ : Sg) (H : Heap) (locs : List Loc) (ls : Array Slot), ZS D 17 (celM ad cy) ad A s σ H locs → lv_has ls 4 [(0, .ref (ad 0)), (1, .int xq1), (2, .int xq2)] → f_X12_number_b82 xq1 xq2 σ = some σ9 → W p l e ({ frames := 4, cells := 0, slots := 0, locals := 88 } : Room) s m args below meth c H locs 0 0 (MQ below (zQv D 17 (celM ad cy) ad A σ9) args s 0 0 A) (F0 m 82 ls []) := by
    intro xq1 xq2 σ H locs ls hw hl hf
    unfold f_X12_number_b82 at hf
    refine lv_aload_n hx hb dX12_number_82 rfl (lv_at hl 0 rfl) ?_
    refine lv_iload_n hx hb dX12_number_83 rfl (lv_at hl 2 rfl) ?_
    refine lv_if_eq (tgt := 99) hx hb dX12_number_84 (by decide) (fun h => ?_) (fun h => ?_)
    · replace hf := it_t h hf
      refine lv_iconst (v := 0) hx hb dX12_number_99 (by decide) ?_
      obtain ⟨σ6, hc, hf⟩ := bd_e hf
      refine zcalv hw (va_runV (As := [.int 0]) (rest := []) E.fix (c_X12_wants (l := l) hA 0 σ hc) (zcV E k8_29 k1_14 k8_26 k8_28 kp6_2 mf_X12_wants rfl rfl ⟨Nat.le_of_ble_eq_true rfl, Nat.le_of_ble_eq_true rfl⟩) (zPreV E hw (Nat.le_of_ble_eq_true rfl) (ceM_0 ad cy _) rfl _) rfl rfl hl.1 rfl (lv_room (Nat.le_of_ble_eq_true rfl)) dX12_number_100 ⟨Nat.zero_le _, Nat.zero_le _⟩) (fun H locs hw => ?_)
      exact zretv E hw hr hlk (rt_1 hf) dX12_number_103
    · replace hf := it_f h hf
      refine lv_aload_n hx hb dX12_number_87 rfl (lv_at hl 0 rfl) ?_
      refine zget E hw (Nat.le_of_ble_eq_true rfl) (ceM_0 ad cy _) rfl inX12 24 (by decide) k6_7 (fun _ h => h) rfl dX12_number_88 ?_
      refine lv_iload_n hx hb dX12_number_91 rfl (lv_at hl 1 rfl) ?_
      refine lv_icmp_gt (tgt := 99) hx hb dX12_number_92 (by decide) (fun h => ?_) (fun h => ?_)
      · replace hf := it_t h hf
        refine lv_iconst (v := 0) hx hb dX12_number_99 (by decide) ?_
        obtain ⟨σ7, hc, hf⟩ := bd_e hf
        refine zcalv hw (va_runV (As := [.int 0]) (rest := []) E.fix (c_X12_wants (l := l) hA 0 σ hc) (zcV E k8_29 k1_14 k8_26 k8_28 kp6_2 mf_X12_wants rfl rfl ⟨Nat.le_of_ble_eq_true rfl, Nat.le_of_ble_eq_true rfl⟩) (zPreV E hw (Nat.le_of_ble_eq_true rfl) (ceM_0 ad cy _) rfl _) rfl rfl hl.1 rfl (lv_room (Nat.le_of_ble_eq_true rfl)) dX12_number_100 ⟨Nat.zero_le _, Nat.zero_le _⟩) (fun H locs hw => ?_)
        exact zretv E hw hr hlk (rt_1 hf) dX12_number_103
      · replace hf := it_f h hf
        refine lv_iconst (v := 1) hx hb dX12_number_95 (by decide) ?_
        refine lv_goto (tgt := 100) hx hb dX12_number_96 (by decide) ?_
        obtain ⟨σ8, hc, hf⟩ := bd_e hf
        refine zcalv hw (va_runV (As := [.int 1]) (rest := []) E.fix (c_X12_wants (l := l) hA 1 σ hc) (zcV E k8_29 k1_14 k8_26 k8_28 kp6_2 mf_X12_wants rfl rfl ⟨Nat.le_of_ble_eq_true rfl, Nat.le_of_ble_eq_true rfl⟩) (zPreV E hw (Nat.le_of_ble_eq_true rfl) (ceM_0 ad cy _) rfl _) rfl rfl hl.1 rfl (lv_room (Nat.le_of_ble_eq_true rfl)) dX12_number_100 ⟨Nat.zero_le _, Nat.zero_le _⟩) (fun H locs hw => ?_)
        exact zretv E hw hr hlk (rt_1 hf) dX12_number_103
  have hB43 : ∀ (xq1 : Int32) (xq2 : Int32) (kq43 : Int32 → Sg → Option Sg) (hkq43 : ∀ (xq3 : Int32) (σ : Sg) (H : Heap) (locs : List Loc) (ls : Array Slot), ZS D 17 (celM ad cy) ad A s σ H locs → lv_has ls 4 [(0, .ref (ad 0)), (1, .int xq1), (2, .int xq2), (3, .int xq3)] → kq43 xq3 σ = some σ9 → W p l e ({ frames := 4, cells := 0, slots := 0, locals := 88 } : Room) s m args below meth c H locs 0 0 (MQ below (zQv D 17 (celM ad cy) ad A σ9) args s 0 0 A) (F0 m 43 ls [])) (xq3 : Int32) (σ : Sg) (H : Heap) (locs : List Loc) (ls : Array Slot), ZS D 17 (celM ad cy) ad A s σ H locs → lv_has ls 4 [(0, .ref (ad 0)), (1, .int xq1), (2, .int xq2), (3, .int xq3)] → f_X12_number_b43 kq43 xq1 xq2 xq3 σ = some σ9 → W p l e ({ frames := 4, cells := 0, slots := 0, locals := 88 } : Room) s m args below meth c H locs 0 0 (MQ below (zQv D 17 (celM ad cy) ad A σ9) args s 0 0 A) (F0 m 43 ls []) := by
    intro xq1 xq2 kq43 hkq43 xq3 σ H locs ls hw hl hf
    unfold f_X12_number_b43 at hf
    refine lv_iload_n hx hb dX12_number_43 rfl (lv_at hl 3 rfl) ?_
    refine lv_aload_n hx hb dX12_number_44 rfl (lv_at hl 0 rfl) ?_
    refine zget E hw (Nat.le_of_ble_eq_true rfl) (ceM_0 ad cy _) rfl inX12 23 (by decide) k6_6 (fun _ h => h) rfl dX12_number_45 ?_
    refine lv_icmp_ge (tgt := 82) hx hb dX12_number_48 (by decide) (fun h => ?_) (fun h => ?_)
    · replace hf := it_t h hf
      exact hB82 xq1 xq2 σ _ _ _ hw (lv_sub hl [0, 1, 2] rfl) hf
    · replace hf := it_f h hf
      refine lv_iload_n hx hb dX12_number_51 rfl (lv_at hl 2 rfl) ?_
      refine lv_if_eq (tgt := 82) hx hb dX12_number_52 (by decide) (fun h => ?_) (fun h => ?_)
      · replace hf := it_t h hf
        exact hB82 xq1 xq2 σ _ _ _ hw (lv_sub hl [0, 1, 2] rfl) hf
      · replace hf := it_f h hf
        refine lv_aload_n hx hb dX12_number_55 rfl (lv_at hl 0 rfl) ?_
        refine lv_bipush (v := 10) hx hb dX12_number_56 (by decide) ?_
        refine lv_aload_n hx hb dX12_number_58 rfl (lv_at hl 0 rfl) ?_
        refine zget E hw (Nat.le_of_ble_eq_true rfl) (ceM_0 ad cy _) rfl inX12 24 (by decide) k6_7 (fun _ h => h) rfl dX12_number_59 ?_
        refine lv_imul hx hb dX12_number_62 ?_
        refine lv_aload_n hx hb dX12_number_63 rfl (lv_at hl 0 rfl) ?_
        refine zget E hw (Nat.le_of_ble_eq_true rfl) (ceM_0 ad cy _) rfl inX12 20 (by decide) k6_3 (fun _ h => h) rfl dX12_number_64 ?_
        refine lv_iload_n hx hb dX12_number_67 rfl (lv_at hl 3 rfl) ?_
        obtain ⟨vq4, hvq4, hf⟩ := bd_e hf
        refine zaldr E hw (Nat.le_of_ble_eq_true rfl) (ceM_9 ad cy) hvq4 dX12_number_68 ?_
        refine lv_iadd hx hb dX12_number_69 ?_
        refine lv_bipush (v := 48) hx hb dX12_number_70 (by decide) ?_
        refine lv_isub hx hb dX12_number_72 ?_
        refine zputs E hw (Nat.le_of_ble_eq_true rfl) (ceM_0 ad cy _) rfl inX12 tyX12 tyX12_ok nmX12 24 (by decide) k6_7 (fun _ h => h) rfl rfl rfl (Nat.le_of_ble_eq_true rfl) (j := 24) (Eq.trans (ceM_0 ad cy _) (by rfl)) dX12_number_73 (fun σ5 eσ5 H locs hw => ?_)
        replace hf := lt_i eσ5 hf
        refine lv_iinc (v := (xq3 + 1)) (lv' := [(3, .int (xq3 + 1)), (0, .ref (ad 0)), (1, .int xq1), (2, .int xq2)]) hx hb dX12_number_76 hl (k := 3) rfl (by rfl) (by decide) rfl (fun ls hl => ?_)
        refine lv_goto (tgt := 43) hx hb dX12_number_79 (by decide) ?_
        exact hkq43 (xq3 + 1) σ5 _ _ _ hw (lv_sub hl [1, 2, 3, 0] rfl) hf
  have hL43 : ∀ (xq1 : Int32) (xq2 : Int32) (n : Nat) (xq3 : Int32) (σ : Sg) (H : Heap) (locs : List Loc) (ls : Array Slot), ZS D 17 (celM ad cy) ad A s σ H locs → lv_has ls 4 [(0, .ref (ad 0)), (1, .int xq1), (2, .int xq2), (3, .int xq3)] → f_X12_number_l43 xq1 xq2 n xq3 σ = some σ9 → W p l e ({ frames := 4, cells := 0, slots := 0, locals := 88 } : Room) s m args below meth c H locs 0 0 (MQ below (zQv D 17 (celM ad cy) ad A σ9) args s 0 0 A) (F0 m 43 ls []) := by
    intro xq1 xq2 n
    induction n with
    | zero =>
      intro xq3 σ H locs ls hw hl hf
      exact nn_e hf
    | succ n ih =>
      intro xq3 σ H locs ls hw hl hf
      exact hB43 xq1 xq2 (f_X12_number_l43 xq1 xq2 n) ih xq3 σ H locs ls hw hl hf
  have hB32 : ∀ (xq1 : Int32) (tq0 : Int32) (σ : Sg) (H : Heap) (locs : List Loc) (ls : Array Slot), ZS D 17 (celM ad cy) ad A s σ H locs → lv_has ls 4 [(0, .ref (ad 0)), (1, .int xq1)] → f_X12_number_b32 xq1 tq0 σ = some σ9 → W p l e ({ frames := 4, cells := 0, slots := 0, locals := 88 } : Room) s m args below meth c H locs 0 0 (MQ below (zQv D 17 (celM ad cy) ad A σ9) args s 0 0 A) (F0 m 32 ls [.int tq0]) := by
    intro xq1 tq0 σ H locs ls hw hl hf
    unfold f_X12_number_b32 at hf
    refine lv_istore_n (lv' := [(2, .int tq0), (0, .ref (ad 0)), (1, .int xq1)]) hx hb dX12_number_32 rfl hl (by decide) rfl (fun ls hl => ?_)
    refine lv_aload_n hx hb dX12_number_33 rfl (lv_at hl 1 rfl) ?_
    refine lv_iconst (v := 0) hx hb dX12_number_34 (by decide) ?_
    refine zputs E hw (Nat.le_of_ble_eq_true rfl) (ceM_0 ad cy _) rfl inX12 tyX12 tyX12_ok nmX12 24 (by decide) k6_7 (fun _ h => h) rfl rfl rfl (Nat.le_of_ble_eq_true rfl) (j := 24) (Eq.trans (ceM_0 ad cy _) (by rfl)) dX12_number_35 (fun σ2 eσ2 H locs hw => ?_)
    replace hf := lt_i eσ2 hf
    refine lv_aload_n hx hb dX12_number_38 rfl (lv_at hl 1 rfl) ?_
    refine zget E hw (Nat.le_of_ble_eq_true rfl) (ceM_0 ad cy _) rfl inX12 22 (by decide) k6_5 (fun _ h => h) rfl dX12_number_39 ?_
    refine lv_topi (fun vq3 evq3 => ?_)
    replace hf := lt_i evq3 hf
    refine lv_istore_n (lv' := [(3, .int vq3), (2, .int tq0), (0, .ref (ad 0)), (1, .int xq1)]) hx hb dX12_number_42 rfl hl (by decide) rfl (fun ls hl => ?_)
    exact hL43 xq1 tq0 400 vq3 σ2 _ _ _ hw (lv_sub hl [2, 3, 1, 0] rfl) hf
  unfold f_X12_number at hf
  refine lv_aload_n hx hb dX12_number_0 rfl (lv_at hl 0 rfl) ?_
  refine lv_aload_n hx hb dX12_number_1 rfl (lv_at hl 0 rfl) ?_
  refine zget E hw (Nat.le_of_ble_eq_true rfl) (ceM_0 ad cy _) rfl inX12 22 (by decide) k6_5 (fun _ h => h) rfl dX12_number_2 ?_
  obtain ⟨vq1, hc, hf⟩ := bd_e hf
  refine zcali hw (va_runV (As := [.int (σ 0 22)]) (rest := []) E.fix (c_X12_byteAt (l := l) hA (σ 0 22) σ hc) (zcV E k7_235 k1_14 k7_232 k7_234 kp5_14 mf_X12_byteAt rfl rfl ⟨Nat.le_of_ble_eq_true rfl, Nat.le_of_ble_eq_true rfl⟩) (zPreV E hw (Nat.le_of_ble_eq_true rfl) (ceM_0 ad cy _) rfl _) rfl rfl hl.1 rfl (lv_room (Nat.le_of_ble_eq_true rfl)) dX12_number_5 ⟨Nat.zero_le _, Nat.zero_le _⟩) (fun H locs hw => ?_)
  refine zcali hw (va_runS (As := [.int vq1]) (rest := []) E.fix (c_X12_isDigit (l := l) hA vq1 σ rfl) (zcS E k8_3 k1_14 k8_1 k8_2 mf_X12_isDigit rfl rfl ⟨Nat.le_of_ble_eq_true rfl, Nat.le_of_ble_eq_true rfl⟩) (zPre E hw _) rfl rfl hl.1 rfl (lv_room (Nat.le_of_ble_eq_true rfl)) dX12_number_8 ⟨Nat.zero_le _, Nat.zero_le _⟩) (fun H locs hw => ?_)
  refine lv_if_eq (tgt := 31) hx hb dX12_number_11 (by decide) (fun h => ?_) (fun h => ?_)
  · replace hf := it_f (b2i_0 h) hf
    refine lv_iconst (v := 0) hx hb dX12_number_31 (by decide) ?_
    exact hB32 xq1 0 σ _ _ _ hw (lv_sub hl [0, 1] rfl) hf
  · replace hf := it_t (b2i_n h) hf
    refine lv_aload_n hx hb dX12_number_14 rfl (lv_at hl 0 rfl) ?_
    refine zget E hw (Nat.le_of_ble_eq_true rfl) (ceM_0 ad cy _) rfl inX12 23 (by decide) k6_6 (fun _ h => h) rfl dX12_number_15 ?_
    refine lv_aload_n hx hb dX12_number_18 rfl (lv_at hl 0 rfl) ?_
    refine zget E hw (Nat.le_of_ble_eq_true rfl) (ceM_0 ad cy _) rfl inX12 22 (by decide) k6_5 (fun _ h => h) rfl dX12_number_19 ?_
    refine lv_isub hx hb dX12_number_22 ?_
    refine lv_iconst (v := 5) hx hb dX12_number_23 (by decide) ?_
    refine lv_icmp_ge (tgt := 31) hx hb dX12_number_24 (by decide) (fun h => ?_) (fun h => ?_)
    · replace hf := it_t h hf
      refine lv_iconst (v := 0) hx hb dX12_number_31 (by decide) ?_
      exact hB32 xq1 0 σ _ _ _ hw (lv_sub hl [0, 1] rfl) hf
    · replace hf := it_f h hf
      refine lv_iconst (v := 1) hx hb dX12_number_27 (by decide) ?_
      refine lv_goto (tgt := 32) hx hb dX12_number_28 (by decide) ?_
      exact hB32 xq1 1 σ _ _ _ hw (lv_sub hl [0, 1] rfl) hf
set_option maxRecDepth 100000 in
set_option maxHeartbeats 4000000 in
theorem c_X12_writes {l : Launch} {D : va_G} {cy : Cy} {ad : Nat → Nat} {A : Nat → Prop} (hA : okAd 17 ad A) (xq1 : Int32) (σ : Sg) {σ9 : Sg} (hf : f_X12_writes xq1 σ = some σ9) : Met l yX12_writes (.code yX12_writes cX12_writes 2 none :: TT) ({ frames := 0, cells := 0, slots := 0, locals := 0 } : Room) (zPc D cy 17 (celM ad cy) ad A [.ref (ad 0), .int xq1] σ) (zQv D 17 (celM ad cy) ad A σ9) 0 0 A := by
  refine zofW (by decide) hA (Nat.le_of_ble_eq_true rfl) ?_
  intro p e s m args below meth c ls E hw hr hlk hl
  have E : ZE p s m args c cX12_writes 2 "KiteSummonsModel" D cy 17 ad A := E
  have hx := E.hx
  have hb := E.hb
  have hl : lv_has ls 2 [(0, .ref (ad 0)), (1, .int xq1)] := hl
  unfold f_X12_writes at hf
  refine lv_aload_n hx hb dX12_writes_0 rfl (lv_at hl 0 rfl) ?_
  refine zget E hw (Nat.le_of_ble_eq_true rfl) (ceM_0 ad cy _) rfl inX12 27 (by decide) k6_10 (fun _ h => h) rfl dX12_writes_1 ?_
  refine lv_if_ne (tgt := 30) hx hb dX12_writes_4 (by decide) (fun h => ?_) (fun h => ?_)
  · replace hf := it_t h hf
    exact zretv E hw hr hlk (rt_1 hf) dX12_writes_30
  · replace hf := it_n h hf
    refine lv_aload_n hx hb dX12_writes_7 rfl (lv_at hl 0 rfl) ?_
    refine zget E hw (Nat.le_of_ble_eq_true rfl) (ceM_0 ad cy _) rfl inX12 0 (by decide) k5_223 (fun _ h => h) rfl dX12_writes_8 ?_
    refine lv_bipush (v := 119) hx hb dX12_writes_11 (by decide) ?_
    refine lv_aload_n hx hb dX12_writes_13 rfl (lv_at hl 0 rfl) ?_
    refine zget E hw (Nat.le_of_ble_eq_true rfl) (ceM_0 ad cy _) rfl inX12 26 (by decide) k6_9 (fun _ h => h) rfl dX12_writes_14 ?_
    refine lv_iadd hx hb dX12_writes_17 ?_
    refine lv_iload_n hx hb dX12_writes_18 rfl (lv_at hl 1 rfl) ?_
    obtain ⟨σ1, hσ1, hf⟩ := bd_e hf
    refine zastr E hw (Nat.le_of_ble_eq_true rfl) (ceM_1 ad cy) hσ1 dX12_writes_19 (fun H locs hw => ?_)
    refine lv_aload_n hx hb dX12_writes_20 rfl (lv_at hl 0 rfl) ?_
    refine lv_dup hx hb dX12_writes_21 rfl ?_
    refine zget E hw (Nat.le_of_ble_eq_true rfl) (ceM_0 ad cy _) rfl inX12 26 (by decide) k6_9 (fun _ h => h) rfl dX12_writes_22 ?_
    refine lv_iconst (v := 1) hx hb dX12_writes_25 (by decide) ?_
    refine lv_iadd hx hb dX12_writes_26 ?_
    refine zputs E hw (Nat.le_of_ble_eq_true rfl) (ceM_0 ad cy _) rfl inX12 tyX12 tyX12_ok nmX12 26 (by decide) k6_9 (fun _ h => h) rfl rfl rfl (Nat.le_of_ble_eq_true rfl) (j := 26) (Eq.trans (ceM_0 ad cy _) (by rfl)) dX12_writes_27 (fun σ2 eσ2 H locs hw => ?_)
    replace hf := lt_i eσ2 hf
    exact zretv E hw hr hlk (rt_1 hf) dX12_writes_30
