set_option maxRecDepth 100000 in
set_option maxHeartbeats 4000000 in
theorem c_X11_wind {l : Launch} {D : va_G} {cy : Cy} {ad : Nat → Nat} {A : Nat → Prop} (hA : okAd 97 ad A) (xq1 : Int32) (xq2 : Int32) (σ : Sg) {r : Int32} {σ9 : Sg} (hf : f_X11_wind xq1 xq2 σ = some (r, σ9)) : Met l yX11_wind (.code yX11_wind cX11_wind 4 (some .int) :: TT) ({ frames := 1, cells := 0, slots := 0, locals := 22 } : Room) (zPc D cy 97 (celC ad cy) ad A [.ref (ad 0), .int xq1, .int xq2] σ) (zQi D 97 (celC ad cy) ad A r σ9) 0 0 A := by
  refine zofW (by decide) hA (Nat.le_of_ble_eq_true rfl) ?_
  intro p e s m args below meth c ls E hw hr hlk hl
  have E : ZE p s m args c cX11_wind 4 "KiteSummons" D cy 97 ad A := E
  have hx := E.hx
  have hb := E.hb
  have hl : lv_has ls 4 [(0, .ref (ad 0)), (1, .int xq1), (2, .int xq2)] := hl
  unfold f_X11_wind at hf
  refine lv_iload_n hx hb dX11_wind_0 rfl (lv_at hl 1 rfl) ?_
  refine lv_iconst (v := 0) hx hb dX11_wind_1 (by decide) ?_
  refine lv_bipush (v := 15) hx hb dX11_wind_2 (by decide) ?_
  refine zcali hw (va_runS (As := [.int xq1, .int 0, .int 15]) (rest := []) E.fix (c_X11_within (l := l) hA xq1 0 15 σ rfl) (zcS E k2_179 k1_1 k2_177 k2_178 mf_X11_within rfl rfl ⟨Nat.le_of_ble_eq_true rfl, Nat.le_of_ble_eq_true rfl⟩) (zPre E hw _) rfl rfl hl.1 rfl (lv_room (Nat.le_of_ble_eq_true rfl)) dX11_wind_4 ⟨Nat.zero_le _, Nat.zero_le _⟩) (fun H locs hw => ?_)
  refine lv_if_eq (tgt := 20) hx hb dX11_wind_7 (by decide) (fun h => ?_) (fun h => ?_)
  · replace hf := it_f (b2i_0 h) hf
    refine lv_iconst (v := (-1)) hx hb dX11_wind_20 (by decide) ?_
    exact zreti E hw hr hlk (rt_a hf) (rt_b hf) dX11_wind_21
  · replace hf := it_t (b2i_n h) hf
    refine lv_iload_n hx hb dX11_wind_10 rfl (lv_at hl 2 rfl) ?_
    refine lv_iconst (v := 0) hx hb dX11_wind_11 (by decide) ?_
    refine lv_bipush (v := 15) hx hb dX11_wind_12 (by decide) ?_
    refine zcali hw (va_runS (As := [.int xq2, .int 0, .int 15]) (rest := []) E.fix (c_X11_within (l := l) hA xq2 0 15 σ rfl) (zcS E k2_179 k1_1 k2_177 k2_178 mf_X11_within rfl rfl ⟨Nat.le_of_ble_eq_true rfl, Nat.le_of_ble_eq_true rfl⟩) (zPre E hw _) rfl rfl hl.1 rfl (lv_room (Nat.le_of_ble_eq_true rfl)) dX11_wind_14 ⟨Nat.zero_le _, Nat.zero_le _⟩) (fun H locs hw => ?_)
    refine lv_if_ne (tgt := 22) hx hb dX11_wind_17 (by decide) (fun h => ?_) (fun h => ?_)
    · replace hf := it_t (b2i_n h) hf
      refine lv_aload_n hx hb dX11_wind_22 rfl (lv_at hl 0 rfl) ?_
      refine zget E hw (Nat.le_of_ble_eq_true rfl) (ceC_0 ad cy _) rfl inX11 2 (by decide) k2_123 (fun _ h => h) rfl dX11_wind_23 ?_
      refine zget E hw (Nat.le_of_ble_eq_true rfl) (ceC_24 ad cy _) rfl inX1 7 (by decide) k2_23 (fun _ h => h) rfl dX11_wind_26 ?_
      refine lv_iload_n hx hb dX11_wind_29 rfl (lv_at hl 1 rfl) ?_
      obtain ⟨vq1, hvq1, hf⟩ := bd_e hf
      refine zaldr E hw (Nat.le_of_ble_eq_true rfl) (ceC_27 ad cy) hvq1 dX11_wind_30 ?_
      refine lv_istore_n (lv' := [(3, .int vq1), (0, .ref (ad 0)), (1, .int xq1), (2, .int xq2)]) hx hb dX11_wind_31 rfl hl (by decide) rfl (fun ls hl => ?_)
      refine lv_aload_n hx hb dX11_wind_32 rfl (lv_at hl 1 rfl) ?_
      refine zget E hw (Nat.le_of_ble_eq_true rfl) (ceC_0 ad cy _) rfl inX11 2 (by decide) k2_123 (fun _ h => h) rfl dX11_wind_33 ?_
      refine zget E hw (Nat.le_of_ble_eq_true rfl) (ceC_24 ad cy _) rfl inX1 7 (by decide) k2_23 (fun _ h => h) rfl dX11_wind_36 ?_
      refine lv_iload_n hx hb dX11_wind_39 rfl (lv_at hl 2 rfl) ?_
      refine lv_iload_n hx hb dX11_wind_40 rfl (lv_at hl 3 rfl) ?_
      obtain ⟨σ2, hσ2, hf⟩ := bd_e hf
      refine zastr E hw (Nat.le_of_ble_eq_true rfl) (ceC_27 ad cy) hσ2 dX11_wind_41 (fun H locs hw => ?_)
      refine lv_iload_n hx hb dX11_wind_42 rfl (lv_at hl 0 rfl) ?_
      exact zreti E hw hr hlk (rt_a hf) (rt_b hf) dX11_wind_43
    · replace hf := it_f (b2i_0 h) hf
      refine lv_iconst (v := (-1)) hx hb dX11_wind_20 (by decide) ?_
      exact zreti E hw hr hlk (rt_a hf) (rt_b hf) dX11_wind_21
set_option maxRecDepth 100000 in
set_option maxHeartbeats 4000000 in
theorem c_X11_farmOf {l : Launch} {D : va_G} {cy : Cy} {ad : Nat → Nat} {A : Nat → Prop} (hA : okAd 97 ad A) (xq1 : Int32) (xq2 : Int32) (σ : Sg) {r : Int32} (hf : f_X11_farmOf xq1 xq2 σ = some r) : Met l yX11_farmOf (.code yX11_farmOf cX11_farmOf 3 (some .int) :: TT) ({ frames := 1, cells := 0, slots := 0, locals := 22 } : Room) (zPc D cy 97 (celC ad cy) ad A [.ref (ad 0), .int xq1, .int xq2] σ) (zQi D 97 (celC ad cy) ad A r σ) 0 0 A := by
  refine zofW (by decide) hA (Nat.le_of_ble_eq_true rfl) ?_
  intro p e s m args below meth c ls E hw hr hlk hl
  have E : ZE p s m args c cX11_farmOf 3 "KiteSummons" D cy 97 ad A := E
  have hx := E.hx
  have hb := E.hb
  have hl : lv_has ls 3 [(0, .ref (ad 0)), (1, .int xq1), (2, .int xq2)] := hl
  unfold f_X11_farmOf at hf
  refine lv_iload_n hx hb dX11_farmOf_0 rfl (lv_at hl 1 rfl) ?_
  refine lv_iconst (v := 0) hx hb dX11_farmOf_1 (by decide) ?_
  refine lv_iconst (v := 5) hx hb dX11_farmOf_2 (by decide) ?_
  refine zcali hw (va_runS (As := [.int xq1, .int 0, .int 5]) (rest := []) E.fix (c_X11_within (l := l) hA xq1 0 5 σ rfl) (zcS E k2_179 k1_1 k2_177 k2_178 mf_X11_within rfl rfl ⟨Nat.le_of_ble_eq_true rfl, Nat.le_of_ble_eq_true rfl⟩) (zPre E hw _) rfl rfl hl.1 rfl (lv_room (Nat.le_of_ble_eq_true rfl)) dX11_farmOf_3 ⟨Nat.zero_le _, Nat.zero_le _⟩) (fun H locs hw => ?_)
  refine lv_if_eq (tgt := 18) hx hb dX11_farmOf_6 (by decide) (fun h => ?_) (fun h => ?_)
  · replace hf := it_f (b2i_0 h) hf
    refine lv_iconst (v := (-1)) hx hb dX11_farmOf_18 (by decide) ?_
    exact zreti E hw hr hlk (rt_1 hf) rfl dX11_farmOf_19
  · replace hf := it_t (b2i_n h) hf
    refine lv_iload_n hx hb dX11_farmOf_9 rfl (lv_at hl 2 rfl) ?_
    refine lv_iconst (v := 0) hx hb dX11_farmOf_10 (by decide) ?_
    refine lv_iconst (v := 1) hx hb dX11_farmOf_11 (by decide) ?_
    refine zcali hw (va_runS (As := [.int xq2, .int 0, .int 1]) (rest := []) E.fix (c_X11_within (l := l) hA xq2 0 1 σ rfl) (zcS E k2_179 k1_1 k2_177 k2_178 mf_X11_within rfl rfl ⟨Nat.le_of_ble_eq_true rfl, Nat.le_of_ble_eq_true rfl⟩) (zPre E hw _) rfl rfl hl.1 rfl (lv_room (Nat.le_of_ble_eq_true rfl)) dX11_farmOf_12 ⟨Nat.zero_le _, Nat.zero_le _⟩) (fun H locs hw => ?_)
    refine lv_if_ne (tgt := 20) hx hb dX11_farmOf_15 (by decide) (fun h => ?_) (fun h => ?_)
    · replace hf := it_t (b2i_n h) hf
      refine lv_iload_n hx hb dX11_farmOf_20 rfl (lv_at hl 2 rfl) ?_
      refine lv_if_ne (tgt := 36) hx hb dX11_farmOf_21 (by decide) (fun h => ?_) (fun h => ?_)
      · replace hf := it_t h hf
        refine lv_aload_n hx hb dX11_farmOf_36 rfl (lv_at hl 0 rfl) ?_
        refine zget E hw (Nat.le_of_ble_eq_true rfl) (ceC_0 ad cy _) rfl inX11 2 (by decide) k2_123 (fun _ h => h) rfl dX11_farmOf_37 ?_
        refine zget E hw (Nat.le_of_ble_eq_true rfl) (ceC_24 ad cy _) rfl inX1 9 (by decide) k2_27 (fun _ h => h) rfl dX11_farmOf_40 ?_
        refine lv_iload_n hx hb dX11_farmOf_43 rfl (lv_at hl 1 rfl) ?_
        obtain ⟨vq1, hvq1, hf⟩ := bd_e hf
        refine zaldr E hw (Nat.le_of_ble_eq_true rfl) (ceC_29 ad cy) hvq1 dX11_farmOf_44 ?_
        exact zreti E hw hr hlk (rt_1 hf) rfl dX11_farmOf_45
      · replace hf := it_n h hf
        refine lv_aload_n hx hb dX11_farmOf_24 rfl (lv_at hl 0 rfl) ?_
        refine zget E hw (Nat.le_of_ble_eq_true rfl) (ceC_0 ad cy _) rfl inX11 2 (by decide) k2_123 (fun _ h => h) rfl dX11_farmOf_25 ?_
        refine zget E hw (Nat.le_of_ble_eq_true rfl) (ceC_24 ad cy _) rfl inX1 8 (by decide) k2_25 (fun _ h => h) rfl dX11_farmOf_28 ?_
        refine lv_iload_n hx hb dX11_farmOf_31 rfl (lv_at hl 1 rfl) ?_
        obtain ⟨vq2, hvq2, hf⟩ := bd_e hf
        refine zaldr E hw (Nat.le_of_ble_eq_true rfl) (ceC_28 ad cy) hvq2 dX11_farmOf_32 ?_
        refine lv_goto (tgt := 45) hx hb dX11_farmOf_33 (by decide) ?_
        exact zreti E hw hr hlk (rt_1 hf) rfl dX11_farmOf_45
    · replace hf := it_f (b2i_0 h) hf
      refine lv_iconst (v := (-1)) hx hb dX11_farmOf_18 (by decide) ?_
      exact zreti E hw hr hlk (rt_1 hf) rfl dX11_farmOf_19
set_option maxRecDepth 100000 in
set_option maxHeartbeats 4000000 in
theorem c_X11_farm {l : Launch} {D : va_G} {cy : Cy} {ad : Nat → Nat} {A : Nat → Prop} (hA : okAd 97 ad A) (xq1 : Int32) (xq2 : Int32) (xq3 : Int32) (σ : Sg) {r : Int32} {σ9 : Sg} (hf : f_X11_farm xq1 xq2 xq3 σ = some (r, σ9)) : Met l yX11_farm (.code yX11_farm cX11_farm 5 (some .int) :: TT) ({ frames := 2, cells := 0, slots := 0, locals := 44 } : Room) (zPc D cy 97 (celC ad cy) ad A [.ref (ad 0), .int xq1, .int xq2, .int xq3] σ) (zQi D 97 (celC ad cy) ad A r σ9) 0 0 A := by
  refine zofW (by decide) hA (Nat.le_of_ble_eq_true rfl) ?_
  intro p e s m args below meth c ls E hw hr hlk hl
  have E : ZE p s m args c cX11_farm 5 "KiteSummons" D cy 97 ad A := E
  have hx := E.hx
  have hb := E.hb
  have hl : lv_has ls 5 [(0, .ref (ad 0)), (1, .int xq1), (2, .int xq2), (3, .int xq3)] := hl
  have hB27 : ∀ (xq1 : Int32) (xq2 : Int32) (xq3 : Int32) (xq4 : Int32) (tq0 : Int32) (tq1 : Int32) (tq2 : Int32) (σ : Sg) (H : Heap) (locs : List Loc) (ls : Array Slot), ZS D 97 (celC ad cy) ad A s σ H locs → lv_has ls 5 [(0, .ref (ad 0)), (1, .int xq1), (2, .int xq2), (3, .int xq3), (4, .int xq4)] → f_X11_farm_b27 xq1 xq2 xq3 xq4 tq0 tq1 tq2 σ = some (r, σ9) → W p l e ({ frames := 2, cells := 0, slots := 0, locals := 44 } : Room) s m args below meth c H locs 0 0 (MQ below (zQi D 97 (celC ad cy) ad A r σ9) args s 0 0 A) (F0 m 27 ls [.int tq2, .int tq1, .int tq0]) := by
    intro xq1 xq2 xq3 xq4 tq0 tq1 tq2 σ H locs ls hw hl hf
    unfold f_X11_farm_b27 at hf
    refine zcali hw (va_runS (As := [.int tq0, .int tq1, .int tq2]) (rest := []) E.fix (c_X11_within (l := l) hA tq0 tq1 tq2 σ rfl) (zcS E k2_179 k1_1 k2_177 k2_178 mf_X11_within rfl rfl ⟨Nat.le_of_ble_eq_true rfl, Nat.le_of_ble_eq_true rfl⟩) (zPre E hw _) rfl rfl hl.1 rfl (lv_room (Nat.le_of_ble_eq_true rfl)) dX11_farm_27 ⟨Nat.zero_le _, Nat.zero_le _⟩) (fun H locs hw => ?_)
    refine lv_if_ne (tgt := 35) hx hb dX11_farm_30 (by decide) (fun h => ?_) (fun h => ?_)
    · replace hf := it_t (b2i_n h) hf
      refine lv_iload_n hx hb dX11_farm_35 rfl (lv_at hl 2 rfl) ?_
      refine lv_if_ne (tgt := 52) hx hb dX11_farm_36 (by decide) (fun h => ?_) (fun h => ?_)
      · replace hf := it_t h hf
        refine lv_aload_n hx hb dX11_farm_52 rfl (lv_at hl 0 rfl) ?_
        refine zget E hw (Nat.le_of_ble_eq_true rfl) (ceC_0 ad cy _) rfl inX11 2 (by decide) k2_123 (fun _ h => h) rfl dX11_farm_53 ?_
        refine zget E hw (Nat.le_of_ble_eq_true rfl) (ceC_24 ad cy _) rfl inX1 9 (by decide) k2_27 (fun _ h => h) rfl dX11_farm_56 ?_
        refine lv_iload_n hx hb dX11_farm_59 rfl (lv_at hl 1 rfl) ?_
        refine lv_iload_n hx hb dX11_farm_60 rfl (lv_at hl 3 rfl) ?_
        obtain ⟨σ2, hσ2, hf⟩ := bd_e hf
        refine zastr E hw (Nat.le_of_ble_eq_true rfl) (ceC_29 ad cy) hσ2 dX11_farm_61 (fun H locs hw => ?_)
        refine lv_iload hx hb dX11_farm_62 (lv_at hl 4 rfl) ?_
        exact zreti E hw hr hlk (rt_a hf) (rt_b hf) dX11_farm_64
      · replace hf := it_n h hf
        refine lv_aload_n hx hb dX11_farm_39 rfl (lv_at hl 0 rfl) ?_
        refine zget E hw (Nat.le_of_ble_eq_true rfl) (ceC_0 ad cy _) rfl inX11 2 (by decide) k2_123 (fun _ h => h) rfl dX11_farm_40 ?_
        refine zget E hw (Nat.le_of_ble_eq_true rfl) (ceC_24 ad cy _) rfl inX1 8 (by decide) k2_25 (fun _ h => h) rfl dX11_farm_43 ?_
        refine lv_iload_n hx hb dX11_farm_46 rfl (lv_at hl 1 rfl) ?_
        refine lv_iload_n hx hb dX11_farm_47 rfl (lv_at hl 3 rfl) ?_
        obtain ⟨σ3, hσ3, hf⟩ := bd_e hf
        refine zastr E hw (Nat.le_of_ble_eq_true rfl) (ceC_28 ad cy) hσ3 dX11_farm_48 (fun H locs hw => ?_)
        refine lv_goto (tgt := 62) hx hb dX11_farm_49 (by decide) ?_
        refine lv_iload hx hb dX11_farm_62 (lv_at hl 4 rfl) ?_
        exact zreti E hw hr hlk (rt_a hf) (rt_b hf) dX11_farm_64
    · replace hf := it_f (b2i_0 h) hf
      refine lv_iconst (v := (-1)) hx hb dX11_farm_33 (by decide) ?_
      exact zreti E hw hr hlk (rt_a hf) (rt_b hf) dX11_farm_34
  unfold f_X11_farm at hf
  refine lv_aload_n hx hb dX11_farm_0 rfl (lv_at hl 0 rfl) ?_
  refine lv_iload_n hx hb dX11_farm_1 rfl (lv_at hl 1 rfl) ?_
  refine lv_iload_n hx hb dX11_farm_2 rfl (lv_at hl 2 rfl) ?_
  obtain ⟨vq1, hc, hf⟩ := bd_e hf
  refine zcali hw (va_runV (As := [.int xq1, .int xq2]) (rest := []) E.fix (c_X11_farmOf (l := l) hA xq1 xq2 σ hc) (zcV E k3_85 k1_1 k3_82 k3_83 k3_84 mf_X11_farmOf rfl rfl ⟨Nat.le_of_ble_eq_true rfl, Nat.le_of_ble_eq_true rfl⟩) (zPreV E hw (Nat.le_of_ble_eq_true rfl) (ceC_0 ad cy _) rfl _) rfl rfl hl.1 rfl (lv_room (Nat.le_of_ble_eq_true rfl)) dX11_farm_3 ⟨Nat.zero_le _, Nat.zero_le _⟩) (fun H locs hw => ?_)
  refine lv_istore (lv' := [(4, .int vq1), (0, .ref (ad 0)), (1, .int xq1), (2, .int xq2), (3, .int xq3)]) hx hb dX11_farm_6 hl (by decide) rfl (fun ls hl => ?_)
  refine lv_iload hx hb dX11_farm_8 (lv_at hl 0 rfl) ?_
  refine lv_iconst (v := (-1)) hx hb dX11_farm_10 (by decide) ?_
  refine lv_icmp_eq (tgt := 33) hx hb dX11_farm_11 (by decide) (fun h => ?_) (fun h => ?_)
  · replace hf := it_t h hf
    refine lv_iconst (v := (-1)) hx hb dX11_farm_33 (by decide) ?_
    exact zreti E hw hr hlk (rt_a hf) (rt_b hf) dX11_farm_34
  · replace hf := it_f h hf
    refine lv_iload_n hx hb dX11_farm_14 rfl (lv_at hl 4 rfl) ?_
    refine lv_iconst (v := 0) hx hb dX11_farm_15 (by decide) ?_
    refine lv_iload_n hx hb dX11_farm_16 rfl (lv_at hl 3 rfl) ?_
    refine lv_if_ne (tgt := 25) hx hb dX11_farm_17 (by decide) (fun h => ?_) (fun h => ?_)
    · replace hf := it_t h hf
      refine lv_bipush (v := 14) hx hb dX11_farm_25 (by decide) ?_
      exact hB27 xq1 xq2 xq3 vq1 xq3 0 14 σ _ _ _ hw (lv_sub hl [1, 2, 3, 4, 0] rfl) hf
    · replace hf := it_n h hf
      refine lv_bipush (v := 63) hx hb dX11_farm_20 (by decide) ?_
      refine lv_goto (tgt := 27) hx hb dX11_farm_22 (by decide) ?_
      exact hB27 xq1 xq2 xq3 vq1 xq3 0 63 σ _ _ _ hw (lv_sub hl [1, 2, 3, 4, 0] rfl) hf
set_option maxRecDepth 100000 in
set_option maxHeartbeats 4000000 in
theorem c_X11_ends {l : Launch} {D : va_G} {cy : Cy} {ad : Nat → Nat} {A : Nat → Prop} (hA : okAd 97 ad A) (xq1 : Int32) (σ : Sg) {r : Int32} {σ9 : Sg} (hf : f_X11_ends xq1 σ = (r, σ9)) : Met l yX11_ends (.code yX11_ends cX11_ends 3 (some .int) :: TT) ({ frames := 1, cells := 0, slots := 0, locals := 22 } : Room) (zPc D cy 97 (celC ad cy) ad A [.ref (ad 0), .int xq1] σ) (zQi D 97 (celC ad cy) ad A r σ9) 0 0 A := by
  refine zofW (by decide) hA (Nat.le_of_ble_eq_true rfl) ?_
  intro p e s m args below meth c ls E hw hr hlk hl
  have E : ZE p s m args c cX11_ends 3 "KiteSummons" D cy 97 ad A := E
  have hx := E.hx
  have hb := E.hb
  have hl : lv_has ls 3 [(0, .ref (ad 0)), (1, .int xq1)] := hl
  unfold f_X11_ends at hf
  refine lv_iload_n hx hb dX11_ends_0 rfl (lv_at hl 1 rfl) ?_
  refine lv_iconst (v := 1) hx hb dX11_ends_1 (by decide) ?_
  refine lv_bipush (v := 16) hx hb dX11_ends_2 (by decide) ?_
  refine zcali hw (va_runS (As := [.int xq1, .int 1, .int 16]) (rest := []) E.fix (c_X11_within (l := l) hA xq1 1 16 σ rfl) (zcS E k2_179 k1_1 k2_177 k2_178 mf_X11_within rfl rfl ⟨Nat.le_of_ble_eq_true rfl, Nat.le_of_ble_eq_true rfl⟩) (zPre E hw _) rfl rfl hl.1 rfl (lv_room (Nat.le_of_ble_eq_true rfl)) dX11_ends_4 ⟨Nat.zero_le _, Nat.zero_le _⟩) (fun H locs hw => ?_)
  refine lv_if_ne (tgt := 12) hx hb dX11_ends_7 (by decide) (fun h => ?_) (fun h => ?_)
  · replace hf := it_t (b2i_n h) hf
    refine lv_iload_n hx hb dX11_ends_12 rfl (lv_at hl 1 rfl) ?_
    refine lv_aload_n hx hb dX11_ends_13 rfl (lv_at hl 0 rfl) ?_
    refine zget E hw (Nat.le_of_ble_eq_true rfl) (ceC_0 ad cy _) rfl inX11 2 (by decide) k2_123 (fun _ h => h) rfl dX11_ends_14 ?_
    refine zget E hw (Nat.le_of_ble_eq_true rfl) (ceC_24 ad cy _) rfl inX1 15 (by decide) k2_36 (fun _ h => h) rfl dX11_ends_17 ?_
    refine zget E hw (Nat.le_of_ble_eq_true rfl) (ceC_41 ad cy _) rfl inX10 0 (by decide) k1_109 (fun _ h => h) rfl dX11_ends_20 ?_
    refine lv_icmp_ge (tgt := 29) hx hb dX11_ends_23 (by decide) (fun h => ?_) (fun h => ?_)
    · replace hf := it_t h hf
      refine lv_aload_n hx hb dX11_ends_29 rfl (lv_at hl 0 rfl) ?_
      refine zget E hw (Nat.le_of_ble_eq_true rfl) (ceC_0 ad cy _) rfl inX11 2 (by decide) k2_123 (fun _ h => h) rfl dX11_ends_30 ?_
      refine zget E hw (Nat.le_of_ble_eq_true rfl) (ceC_24 ad cy _) rfl inX1 2 (by decide) k2_13 (fun _ h => h) rfl dX11_ends_33 ?_
      refine lv_topi (fun vq1 evq1 => ?_)
      replace hf := lt_i evq1 hf
      refine lv_istore_n (lv' := [(2, .int vq1), (0, .ref (ad 0)), (1, .int xq1)]) hx hb dX11_ends_36 rfl hl (by decide) rfl (fun ls hl => ?_)
      refine lv_aload_n hx hb dX11_ends_37 rfl (lv_at hl 1 rfl) ?_
      refine zget E hw (Nat.le_of_ble_eq_true rfl) (ceC_0 ad cy _) rfl inX11 2 (by decide) k2_123 (fun _ h => h) rfl dX11_ends_38 ?_
      refine lv_iload_n hx hb dX11_ends_41 rfl (lv_at hl 2 rfl) ?_
      refine zputs E hw (Nat.le_of_ble_eq_true rfl) (ceC_24 ad cy _) rfl inX1 tyX1 tyX1_ok nmX1 2 (by decide) k2_13 (fun _ h => h) rfl rfl rfl (Nat.le_of_ble_eq_true rfl) (j := 2) (Eq.trans (ceC_24 ad cy _) (by rfl)) dX11_ends_42 (fun σ2 eσ2 H locs hw => ?_)
      replace hf := lt_i eσ2 hf
      refine lv_iload_n hx hb dX11_ends_45 rfl (lv_at hl 0 rfl) ?_
      exact zreti E hw hr hlk (rp_a hf) (rp_b hf) dX11_ends_46
    · replace hf := it_f h hf
      refine lv_bipush (v := (-4)) hx hb dX11_ends_26 (by decide) ?_
      exact zreti E hw hr hlk (rp_a hf) (rp_b hf) dX11_ends_28
  · replace hf := it_f (b2i_0 h) hf
    refine lv_iconst (v := (-1)) hx hb dX11_ends_10 (by decide) ?_
    exact zreti E hw hr hlk (rp_a hf) (rp_b hf) dX11_ends_11
set_option maxRecDepth 100000 in
set_option maxHeartbeats 4000000 in
theorem c_X1_allKites {l : Launch} {D : va_G} {cy : Cy} {ad : Nat → Nat} {A : Nat → Prop} (hA : okAd 97 ad A) (σ : Sg) {r : Int32} (hf : f_X1_allKites σ = r) : Met l yX1_allKites (.code yX1_allKites cX1_allKites 1 (some .int) :: TT) ({ frames := 0, cells := 0, slots := 0, locals := 0 } : Room) (zPc D cy 97 (celC ad cy) ad A [.ref (ad 24)] σ) (zQi D 97 (celC ad cy) ad A r σ) 0 0 A := by
  refine zofW (by decide) hA (Nat.le_of_ble_eq_true rfl) ?_
  intro p e s m args below meth c ls E hw hr hlk hl
  have E : ZE p s m args c cX1_allKites 1 "KiteSummons$County" D cy 97 ad A := E
  have hx := E.hx
  have hb := E.hb
  have hl : lv_has ls 1 [(0, .ref (ad 24))] := hl
  unfold f_X1_allKites at hf
  refine lv_iconst (v := 1) hx hb dX1_allKites_0 (by decide) ?_
  refine lv_aload_n hx hb dX1_allKites_1 rfl (lv_at hl 0 rfl) ?_
  refine zget E hw (Nat.le_of_ble_eq_true rfl) (ceC_24 ad cy _) rfl inX1 1 (by decide) k2_9 (fun _ h => h) rfl dX1_allKites_2 ?_
  refine zishl hx hb dX1_allKites_5 ?_
  refine lv_iconst (v := 1) hx hb dX1_allKites_6 (by decide) ?_
  refine lv_isub hx hb dX1_allKites_7 ?_
  exact zreti E hw hr hlk hf rfl dX1_allKites_8
set_option maxRecDepth 100000 in
set_option maxHeartbeats 4000000 in
theorem c_X11_anew {l : Launch} {D : va_G} {cy : Cy} {ad : Nat → Nat} {A : Nat → Prop} (hA : okAd 97 ad A) (σ : Sg) {r : Int32} {σ9 : Sg} (hf : f_X11_anew σ = (r, σ9)) : Met l yX11_anew (.code yX11_anew cX11_anew 3 (some .int) :: TT) ({ frames := 1, cells := 0, slots := 0, locals := 20 } : Room) (zPc D cy 97 (celC ad cy) ad A [.ref (ad 0)] σ) (zQi D 97 (celC ad cy) ad A r σ9) 0 0 A := by
  refine zofW (by decide) hA (Nat.le_of_ble_eq_true rfl) ?_
  intro p e s m args below meth c ls E hw hr hlk hl
  have E : ZE p s m args c cX11_anew 3 "KiteSummons" D cy 97 ad A := E
  have hx := E.hx
  have hb := E.hb
  have hl : lv_has ls 3 [(0, .ref (ad 0))] := hl
  unfold f_X11_anew at hf
  refine lv_aload_n hx hb dX11_anew_0 rfl (lv_at hl 0 rfl) ?_
  refine zget E hw (Nat.le_of_ble_eq_true rfl) (ceC_0 ad cy _) rfl inX11 2 (by decide) k2_123 (fun _ h => h) rfl dX11_anew_1 ?_
  refine zget E hw (Nat.le_of_ble_eq_true rfl) (ceC_24 ad cy _) rfl inX1 15 (by decide) k2_36 (fun _ h => h) rfl dX11_anew_4 ?_
  refine lv_astore_n (lv' := [(1, .ref (ad 41)), (0, .ref (ad 0))]) hx hb dX11_anew_7 rfl hl (by decide) rfl (fun ls hl => ?_)
  refine lv_aload_n hx hb dX11_anew_8 rfl (lv_at hl 0 rfl) ?_
  refine zget E hw (Nat.le_of_ble_eq_true rfl) (ceC_41 ad cy _) rfl inX10 0 (by decide) k1_109 (fun _ h => h) rfl dX11_anew_9 ?_
  refine lv_topi (fun vq1 evq1 => ?_)
  replace hf := lt_i evq1 hf
  refine lv_istore_n (lv' := [(2, .int vq1), (1, .ref (ad 41)), (0, .ref (ad 0))]) hx hb dX11_anew_12 rfl hl (by decide) rfl (fun ls hl => ?_)
  refine lv_aload_n hx hb dX11_anew_13 rfl (lv_at hl 1 rfl) ?_
  refine lv_iconst (v := 0) hx hb dX11_anew_14 (by decide) ?_
  refine zputs E hw (Nat.le_of_ble_eq_true rfl) (ceC_41 ad cy _) rfl inX10 tyX10 tyX10_ok nmX10 0 (by decide) k1_109 (fun _ h => h) rfl rfl rfl (Nat.le_of_ble_eq_true rfl) (j := 0) (Eq.trans (ceC_41 ad cy _) (by rfl)) dX11_anew_15 (fun σ2 eσ2 H locs hw => ?_)
  replace hf := lt_i eσ2 hf
  refine lv_aload_n hx hb dX11_anew_18 rfl (lv_at hl 1 rfl) ?_
  refine lv_iconst (v := 0) hx hb dX11_anew_19 (by decide) ?_
  refine zputs E hw (Nat.le_of_ble_eq_true rfl) (ceC_41 ad cy _) rfl inX10 tyX10 tyX10_ok nmX10 1 (by decide) k1_111 (fun _ h => h) rfl rfl rfl (Nat.le_of_ble_eq_true rfl) (j := 1) (Eq.trans (ceC_41 ad cy _) (by rfl)) dX11_anew_20 (fun σ3 eσ3 H locs hw => ?_)
  replace hf := lt_i eσ3 hf
  refine lv_aload_n hx hb dX11_anew_23 rfl (lv_at hl 1 rfl) ?_
  refine lv_aload_n hx hb dX11_anew_24 rfl (lv_at hl 2 rfl) ?_
  refine zget E hw (Nat.le_of_ble_eq_true rfl) (ceC_0 ad cy _) rfl inX11 2 (by decide) k2_123 (fun _ h => h) rfl dX11_anew_25 ?_
  refine zcali hw (va_runV (As := []) (rest := [.ref (ad 41)]) E.fix (c_X1_allKites (l := l) hA σ3 rfl) (zcV E k3_98 k1_11 k3_95 k3_96 k3_97 mf_X1_allKites rfl rfl ⟨Nat.le_of_ble_eq_true rfl, Nat.le_of_ble_eq_true rfl⟩) (zPreV E hw (Nat.le_of_ble_eq_true rfl) (ceC_24 ad cy _) rfl _) rfl rfl hl.1 rfl (lv_room (Nat.le_of_ble_eq_true rfl)) dX11_anew_28 ⟨Nat.zero_le _, Nat.zero_le _⟩) (fun H locs hw => ?_)
  refine zputs E hw (Nat.le_of_ble_eq_true rfl) (ceC_41 ad cy _) rfl inX10 tyX10 tyX10_ok nmX10 2 (by decide) k1_115 (fun _ h => h) rfl rfl rfl (Nat.le_of_ble_eq_true rfl) (j := 2) (Eq.trans (ceC_41 ad cy _) (by rfl)) dX11_anew_31 (fun σ4 eσ4 H locs hw => ?_)
  replace hf := lt_i eσ4 hf
  refine lv_aload_n hx hb dX11_anew_34 rfl (lv_at hl 1 rfl) ?_
  refine lv_iconst (v := 0) hx hb dX11_anew_35 (by decide) ?_
  refine zputs E hw (Nat.le_of_ble_eq_true rfl) (ceC_41 ad cy _) rfl inX10 tyX10 tyX10_ok nmX10 3 (by decide) k1_118 (fun _ h => h) rfl rfl rfl (Nat.le_of_ble_eq_true rfl) (j := 3) (Eq.trans (ceC_41 ad cy _) (by rfl)) dX11_anew_36 (fun σ5 eσ5 H locs hw => ?_)
  replace hf := lt_i eσ5 hf
  refine lv_iload_n hx hb dX11_anew_39 rfl (lv_at hl 0 rfl) ?_
  exact zreti E hw hr hlk (rp_a hf) (rp_b hf) dX11_anew_40
set_option maxRecDepth 100000 in
set_option maxHeartbeats 4000000 in
theorem c_X1_isOver {l : Launch} {D : va_G} {cy : Cy} {ad : Nat → Nat} {A : Nat → Prop} (hA : okAd 97 ad A) (nq1 : Nat) (hnq1 : isSky nq1) (σ : Sg) {r : Bool} (hf : f_X1_isOver nq1 σ = r) : Met l yX1_isOver (.code yX1_isOver cX1_isOver 2 (some .boolean) :: TT) ({ frames := 0, cells := 0, slots := 0, locals := 0 } : Room) (zPc D cy 97 (celC ad cy) ad A [.ref (ad 24), .ref (ad nq1)] σ) (zQi D 97 (celC ad cy) ad A (b2i r) σ) 0 0 A := by
  refine zofW (by decide) hA (Nat.le_of_ble_eq_true rfl) ?_
  intro p e s m args below meth c ls E hw hr hlk hl
  have E : ZE p s m args c cX1_isOver 2 "KiteSummons$County" D cy 97 ad A := E
  have hx := E.hx
  have hb := E.hb
  have hl : lv_has ls 2 [(0, .ref (ad 24)), (1, .ref (ad nq1))] := hl
  unfold f_X1_isOver at hf
  refine lv_aload_n hx hb dX1_isOver_0 rfl (lv_at hl 1 rfl) ?_
  refine zget E hw (ltSky hnq1) (ceSky ad cy _ hnq1) rfl inX10 0 (by decide) k1_108 (fun _ h => h) rfl dX1_isOver_1 ?_
  refine lv_aload_n hx hb dX1_isOver_4 rfl (lv_at hl 0 rfl) ?_
  refine zget E hw (Nat.le_of_ble_eq_true rfl) (ceC_24 ad cy _) rfl inX1 2 (by decide) k2_12 (fun _ h => h) rfl dX1_isOver_5 ?_
  refine lv_icmp_lt (tgt := 15) hx hb dX1_isOver_8 (by decide) (fun h => ?_) (fun h => ?_)
  · replace hf := it_t h hf
    refine lv_iconst (v := 0) hx hb dX1_isOver_15 (by decide) ?_
    exact zretz E hw hr hlk (b_e hf (by rfl)) rfl dX1_isOver_16
  · replace hf := it_f h hf
    refine lv_iconst (v := 1) hx hb dX1_isOver_11 (by decide) ?_
    refine lv_goto (tgt := 16) hx hb dX1_isOver_12 (by decide) ?_
    exact zretz E hw hr hlk (b_e hf (by rfl)) rfl dX1_isOver_16
set_option maxRecDepth 100000 in
set_option maxHeartbeats 4000000 in
theorem c_X11_state {l : Launch} {D : va_G} {cy : Cy} {ad : Nat → Nat} {A : Nat → Prop} (hA : okAd 97 ad A) (xq1 : Int32) (σ : Sg) {r : Int32} (hf : f_X11_state xq1 σ = some r) : Met l yX11_state (.code yX11_state cX11_state 3 (some .int) :: TT) ({ frames := 2, cells := 0, slots := 0, locals := 43 } : Room) (zPc D cy 97 (celC ad cy) ad A [.ref (ad 0), .int xq1] σ) (zQi D 97 (celC ad cy) ad A r σ) 0 0 A := by
  refine zofW (by decide) hA (Nat.le_of_ble_eq_true rfl) ?_
  intro p e s m args below meth c ls E hw hr hlk hl
  have E : ZE p s m args c cX11_state 3 "KiteSummons" D cy 97 ad A := E
  have hx := E.hx
  have hb := E.hb
  have hl : lv_has ls 3 [(0, .ref (ad 0)), (1, .int xq1)] := hl
  unfold f_X11_state at hf
  refine lv_aload_n hx hb dX11_state_0 rfl (lv_at hl 0 rfl) ?_
  refine zget E hw (Nat.le_of_ble_eq_true rfl) (ceC_0 ad cy _) rfl inX11 2 (by decide) k2_123 (fun _ h => h) rfl dX11_state_1 ?_
  refine zget E hw (Nat.le_of_ble_eq_true rfl) (ceC_24 ad cy _) rfl inX1 15 (by decide) k2_36 (fun _ h => h) rfl dX11_state_4 ?_
  refine lv_astore_n (lv' := [(2, .ref (ad 41)), (0, .ref (ad 0)), (1, .int xq1)]) hx hb dX11_state_7 rfl hl (by decide) rfl (fun ls hl => ?_)
  refine lv_iload_n hx hb dX11_state_8 rfl (lv_at hl 2 rfl) ?_
  by_cases hc9_0 : xq1 = 0
  · replace hf := it_t hc9_0 hf
    refine lv_tableIn (tgt := 52) (off := 43) hx hb dX11_state_9 (by rw [hc9_0]; decide) (by rw [hc9_0]; decide) (by rw [hc9_0]; rfl) (by decide) ?_
    refine lv_aload_n hx hb dX11_state_52 rfl (lv_at hl 0 rfl) ?_
    refine zget E hw (Nat.le_of_ble_eq_true rfl) (ceC_41 ad cy _) rfl inX10 0 (by decide) k1_109 (fun _ h => h) rfl dX11_state_53 ?_
    exact zreti E hw hr hlk (rt_1 hf) rfl dX11_state_56
  · replace hf := it_f hc9_0 hf
    by_cases hc9_1 : xq1 = 1
    · replace hf := it_t hc9_1 hf
      refine lv_tableIn (tgt := 57) (off := 48) hx hb dX11_state_9 (by rw [hc9_1]; decide) (by rw [hc9_1]; decide) (by rw [hc9_1]; rfl) (by decide) ?_
      refine lv_aload_n hx hb dX11_state_57 rfl (lv_at hl 1 rfl) ?_
      refine zget E hw (Nat.le_of_ble_eq_true rfl) (ceC_0 ad cy _) rfl inX11 2 (by decide) k2_123 (fun _ h => h) rfl dX11_state_58 ?_
      refine zget E hw (Nat.le_of_ble_eq_true rfl) (ceC_24 ad cy _) rfl inX1 2 (by decide) k2_13 (fun _ h => h) rfl dX11_state_61 ?_
      exact zreti E hw hr hlk (rt_1 hf) rfl dX11_state_64
    · replace hf := it_f hc9_1 hf
      by_cases hc9_2 : xq1 = 2
      · replace hf := it_t hc9_2 hf
        refine lv_tableIn (tgt := 65) (off := 56) hx hb dX11_state_9 (by rw [hc9_2]; decide) (by rw [hc9_2]; decide) (by rw [hc9_2]; rfl) (by decide) ?_
        refine lv_aload_n hx hb dX11_state_65 rfl (lv_at hl 0 rfl) ?_
        refine zget E hw (Nat.le_of_ble_eq_true rfl) (ceC_41 ad cy _) rfl inX10 1 (by decide) k1_111 (fun _ h => h) rfl dX11_state_66 ?_
        exact zreti E hw hr hlk (rt_1 hf) rfl dX11_state_69
      · replace hf := it_f hc9_2 hf
        by_cases hc9_3 : xq1 = 3
        · replace hf := it_t hc9_3 hf
          refine lv_tableIn (tgt := 70) (off := 61) hx hb dX11_state_9 (by rw [hc9_3]; decide) (by rw [hc9_3]; decide) (by rw [hc9_3]; rfl) (by decide) ?_
          refine lv_aload_n hx hb dX11_state_70 rfl (lv_at hl 1 rfl) ?_
          refine zget E hw (Nat.le_of_ble_eq_true rfl) (ceC_0 ad cy _) rfl inX11 2 (by decide) k2_123 (fun _ h => h) rfl dX11_state_71 ?_
          refine lv_aload_n hx hb dX11_state_74 rfl (lv_at hl 0 rfl) ?_
          refine zcali hw (va_runV (As := [.ref (ad 41)]) (rest := []) E.fix (c_X1_isOver (l := l) hA 41 (by unfold isSky; omega) σ rfl) (zcV E k3_106 k1_11 k3_103 k3_104 k3_105 mf_X1_isOver rfl rfl ⟨Nat.le_of_ble_eq_true rfl, Nat.le_of_ble_eq_true rfl⟩) (zPreV E hw (Nat.le_of_ble_eq_true rfl) (ceC_24 ad cy _) rfl _) rfl rfl hl.1 rfl (lv_room (Nat.le_of_ble_eq_true rfl)) dX11_state_75 ⟨Nat.zero_le _, Nat.zero_le _⟩) (fun H locs hw => ?_)
          refine lv_if_eq (tgt := 85) hx hb dX11_state_78 (by decide) (fun h => ?_) (fun h => ?_)
          · replace hf := it_f (b2i_0 h) hf
            refine lv_iconst (v := 0) hx hb dX11_state_85 (by decide) ?_
            exact zreti E hw hr hlk (rt_1 hf) rfl dX11_state_86
          · replace hf := it_t (b2i_n h) hf
            refine lv_iconst (v := 1) hx hb dX11_state_81 (by decide) ?_
            refine lv_goto (tgt := 86) hx hb dX11_state_82 (by decide) ?_
            exact zreti E hw hr hlk (rt_1 hf) rfl dX11_state_86
        · replace hf := it_f hc9_3 hf
          by_cases hc9_4 : xq1 = 4
          · replace hf := it_t hc9_4 hf
            refine lv_tableIn (tgt := 87) (off := 78) hx hb dX11_state_9 (by rw [hc9_4]; decide) (by rw [hc9_4]; decide) (by rw [hc9_4]; rfl) (by decide) ?_
            refine lv_aload_n hx hb dX11_state_87 rfl (lv_at hl 0 rfl) ?_
            refine zget E hw (Nat.le_of_ble_eq_true rfl) (ceC_41 ad cy _) rfl inX10 2 (by decide) k1_115 (fun _ h => h) rfl dX11_state_88 ?_
            exact zreti E hw hr hlk (rt_1 hf) rfl dX11_state_91
          · replace hf := it_f hc9_4 hf
            by_cases hc9_5 : xq1 = 5
            · replace hf := it_t hc9_5 hf
              refine lv_tableIn (tgt := 92) (off := 83) hx hb dX11_state_9 (by rw [hc9_5]; decide) (by rw [hc9_5]; decide) (by rw [hc9_5]; rfl) (by decide) ?_
              refine lv_aload_n hx hb dX11_state_92 rfl (lv_at hl 0 rfl) ?_
              refine zget E hw (Nat.le_of_ble_eq_true rfl) (ceC_41 ad cy _) rfl inX10 3 (by decide) k1_118 (fun _ h => h) rfl dX11_state_93 ?_
              exact zreti E hw hr hlk (rt_1 hf) rfl dX11_state_96
            · replace hf := it_f hc9_5 hf
              by_cases hc9_6 : xq1 = 6
              · replace hf := it_t hc9_6 hf
                refine lv_tableIn (tgt := 97) (off := 88) hx hb dX11_state_9 (by rw [hc9_6]; decide) (by rw [hc9_6]; decide) (by rw [hc9_6]; rfl) (by decide) ?_
                refine lv_aload_n hx hb dX11_state_97 rfl (lv_at hl 1 rfl) ?_
                refine zget E hw (Nat.le_of_ble_eq_true rfl) (ceC_0 ad cy _) rfl inX11 2 (by decide) k2_123 (fun _ h => h) rfl dX11_state_98 ?_
                refine lv_aload_n hx hb dX11_state_101 rfl (lv_at hl 0 rfl) ?_
                refine zget E hw (Nat.le_of_ble_eq_true rfl) (ceC_41 ad cy _) rfl inX10 0 (by decide) k1_109 (fun _ h => h) rfl dX11_state_102 ?_
                obtain ⟨vq1, hc, hf⟩ := bd_e hf
                refine zcali hw (va_runV (As := [.int (σ 41 0)]) (rest := []) E.fix (c_X1_windOf (l := l) hA (σ 41 0) σ hc) (zcV E k2_205 k1_11 k3_107 k2_203 k2_204 mf_X1_windOf rfl rfl ⟨Nat.le_of_ble_eq_true rfl, Nat.le_of_ble_eq_true rfl⟩) (zPreV E hw (Nat.le_of_ble_eq_true rfl) (ceC_24 ad cy _) rfl _) rfl rfl hl.1 rfl (lv_room (Nat.le_of_ble_eq_true rfl)) dX11_state_105 ⟨Nat.zero_le _, Nat.zero_le _⟩) (fun H locs hw => ?_)
                exact zreti E hw hr hlk (rt_1 hf) rfl dX11_state_108
              · replace hf := it_f hc9_6 hf
                refine lv_tableOut (tgt := 109) hx hb dX11_state_9 (by have := lv_neT hc9_0 (a := 0) rfl; have := lv_neT hc9_1 (a := 1) rfl; have := lv_neT hc9_2 (a := 2) rfl; have := lv_neT hc9_3 (a := 3) rfl; have := lv_neT hc9_4 (a := 4) rfl; have := lv_neT hc9_5 (a := 5) rfl; have := lv_neT hc9_6 (a := 6) rfl; omega) (by decide) ?_
                refine lv_iconst (v := (-1)) hx hb dX11_state_109 (by decide) ?_
                exact zreti E hw hr hlk (rt_1 hf) rfl dX11_state_110
set_option maxRecDepth 100000 in
set_option maxHeartbeats 4000000 in
theorem c_X8_take {l : Launch} {D : va_G} {cy : Cy} {ad : Nat → Nat} {A : Nat → Prop} (hA : okAd 97 ad A) (xq1 : Int64) (xq3 : Int32) (σ : Sg) {r : Int32} {σ9 : Sg} (hf : f_X8_take xq1 xq3 σ = some (r, σ9)) : Met l yX8_take (.code yX8_take cX8_take 5 (some .int) :: TT) ({ frames := 0, cells := 0, slots := 0, locals := 0 } : Room) (zPc D cy 97 (celC ad cy) ad A [.ref (ad 67), .long xq1, .int xq3] σ) (zQi D 97 (celC ad cy) ad A r σ9) 0 0 A := by
  refine zofW (by decide) hA (Nat.le_of_ble_eq_true rfl) ?_
  intro p e s m args below meth c ls E hw hr hlk hl
  have E : ZE p s m args c cX8_take 5 "KiteSummons$RuleReader" D cy 97 ad A := E
  have hx := E.hx
  have hb := E.hb
  have hl : lv_has ls 5 [(0, .ref (ad 67)), (1, .long xq1), (3, .int xq3)] := hl
  have hB3 : ∀ (xq1 : Int64) (xq3 : Int32) (kq3 : Int32 → Sg → Option (Int32 × Sg)) (hkq3 : ∀ (xq4 : Int32) (σ : Sg) (H : Heap) (locs : List Loc) (ls : Array Slot), ZS D 97 (celC ad cy) ad A s σ H locs → lv_has ls 5 [(0, .ref (ad 67)), (1, .long xq1), (3, .int xq3), (4, .int xq4)] → kq3 xq4 σ = some (r, σ9) → W p l e ({ frames := 0, cells := 0, slots := 0, locals := 0 } : Room) s m args below meth c H locs 0 0 (MQ below (zQi D 97 (celC ad cy) ad A r σ9) args s 0 0 A) (F0 m 3 ls [])) (xq4 : Int32) (σ : Sg) (H : Heap) (locs : List Loc) (ls : Array Slot), ZS D 97 (celC ad cy) ad A s σ H locs → lv_has ls 5 [(0, .ref (ad 67)), (1, .long xq1), (3, .int xq3), (4, .int xq4)] → f_X8_take_b3 kq3 xq1 xq3 xq4 σ = some (r, σ9) → W p l e ({ frames := 0, cells := 0, slots := 0, locals := 0 } : Room) s m args below meth c H locs 0 0 (MQ below (zQi D 97 (celC ad cy) ad A r σ9) args s 0 0 A) (F0 m 3 ls []) := by
    intro xq1 xq3 kq3 hkq3 xq4 σ H locs ls hw hl hf
    unfold f_X8_take_b3 at hf
    refine lv_iload hx hb dX8_take_3 (lv_at hl 3 rfl) ?_
    refine lv_iload_n hx hb dX8_take_5 rfl (lv_at hl 2 rfl) ?_
    refine lv_icmp_ge (tgt := 53) hx hb dX8_take_6 (by decide) (fun h => ?_) (fun h => ?_)
    · replace hf := it_t h hf
      refine lv_aload_n hx hb dX8_take_53 rfl (lv_at hl 0 rfl) ?_
      refine zget E hw (Nat.le_of_ble_eq_true rfl) (ceC_67 ad cy _) rfl inX8 0 (by decide) k1_75 (fun _ h => h) rfl dX8_take_54 ?_
      exact zreti E hw hr hlk (rt_a hf) (rt_b hf) dX8_take_57
    · replace hf := it_f h hf
      refine lv_aload_n hx hb dX8_take_9 rfl (lv_at hl 0 rfl) ?_
      refine zget E hw (Nat.le_of_ble_eq_true rfl) (ceC_67 ad cy _) rfl inX8 0 (by decide) k1_75 (fun _ h => h) rfl dX8_take_10 ?_
      refine lv_sipush (v := 200) hx hb dX8_take_13 (by decide) ?_
      refine lv_icmp_ge (tgt := 53) hx hb dX8_take_16 (by decide) (fun h => ?_) (fun h => ?_)
      · replace hf := it_t h hf
        refine lv_aload_n hx hb dX8_take_53 rfl (lv_at hl 0 rfl) ?_
        refine zget E hw (Nat.le_of_ble_eq_true rfl) (ceC_67 ad cy _) rfl inX8 0 (by decide) k1_75 (fun _ h => h) rfl dX8_take_54 ?_
        exact zreti E hw hr hlk (rt_a hf) (rt_b hf) dX8_take_57
      · replace hf := it_f h hf
        refine lv_aload_n hx hb dX8_take_19 rfl (lv_at hl 0 rfl) ?_
        refine zget E hw (Nat.le_of_ble_eq_true rfl) (ceC_67 ad cy _) rfl inX8 1 (by decide) k1_77 (fun _ h => h) rfl dX8_take_20 ?_
        refine lv_aload_n hx hb dX8_take_23 rfl (lv_at hl 0 rfl) ?_
        refine zget E hw (Nat.le_of_ble_eq_true rfl) (ceC_67 ad cy _) rfl inX8 0 (by decide) k1_75 (fun _ h => h) rfl dX8_take_24 ?_
        refine lv_lload_n hx hb dX8_take_27 rfl (lv_at hl 1 rfl) ?_
        refine lv_bipush (v := 8) hx hb dX8_take_28 (by decide) ?_
        refine lv_iload hx hb dX8_take_30 (lv_at hl 3 rfl) ?_
        refine lv_imul hx hb dX8_take_32 ?_
        refine zlushr hx hb dX8_take_33 ?_
        refine lv_l2i hx hb dX8_take_34 rfl ?_
        refine lv_i2b hx hb dX8_take_35 rfl ?_
        obtain ⟨σ1, hσ1, hf⟩ := bd_e hf
        refine zbastr E hw (Nat.le_of_ble_eq_true rfl) (ceC_68 ad cy) hσ1 dX8_take_36 (fun H locs hw => ?_)
        refine lv_aload_n hx hb dX8_take_37 rfl (lv_at hl 0 rfl) ?_
        refine lv_dup hx hb dX8_take_38 rfl ?_
        refine zget E hw (Nat.le_of_ble_eq_true rfl) (ceC_67 ad cy _) rfl inX8 0 (by decide) k1_75 (fun _ h => h) rfl dX8_take_39 ?_
        refine lv_iconst (v := 1) hx hb dX8_take_42 (by decide) ?_
        refine lv_iadd hx hb dX8_take_43 ?_
        refine zputs E hw (Nat.le_of_ble_eq_true rfl) (ceC_67 ad cy _) rfl inX8 tyX8 tyX8_ok nmX8 0 (by decide) k1_75 (fun _ h => h) rfl rfl rfl (Nat.le_of_ble_eq_true rfl) (j := 0) (Eq.trans (ceC_67 ad cy _) (by rfl)) dX8_take_44 (fun σ2 eσ2 H locs hw => ?_)
        replace hf := lt_i eσ2 hf
        refine lv_iinc (v := (xq4 + 1)) (lv' := [(4, .int (xq4 + 1)), (0, .ref (ad 67)), (1, .long xq1), (3, .int xq3)]) hx hb dX8_take_47 hl (k := 3) rfl (by rfl) (by decide) rfl (fun ls hl => ?_)
        refine lv_goto (tgt := 3) hx hb dX8_take_50 (by decide) ?_
        exact hkq3 (xq4 + 1) σ2 _ _ _ hw (lv_sub hl [1, 2, 3, 0] rfl) hf
  have hL3 : ∀ (xq1 : Int64) (xq3 : Int32) (n : Nat) (xq4 : Int32) (σ : Sg) (H : Heap) (locs : List Loc) (ls : Array Slot), ZS D 97 (celC ad cy) ad A s σ H locs → lv_has ls 5 [(0, .ref (ad 67)), (1, .long xq1), (3, .int xq3), (4, .int xq4)] → f_X8_take_l3 xq1 xq3 n xq4 σ = some (r, σ9) → W p l e ({ frames := 0, cells := 0, slots := 0, locals := 0 } : Room) s m args below meth c H locs 0 0 (MQ below (zQi D 97 (celC ad cy) ad A r σ9) args s 0 0 A) (F0 m 3 ls []) := by
    intro xq1 xq3 n
    induction n with
    | zero =>
      intro xq4 σ H locs ls hw hl hf
      exact nn_e hf
    | succ n ih =>
      intro xq4 σ H locs ls hw hl hf
      exact hB3 xq1 xq3 (f_X8_take_l3 xq1 xq3 n) ih xq4 σ H locs ls hw hl hf
  unfold f_X8_take at hf
  refine lv_iconst (v := 0) hx hb dX8_take_0 (by decide) ?_
  refine lv_istore (lv' := [(4, .int 0), (0, .ref (ad 67)), (1, .long xq1), (3, .int xq3)]) hx hb dX8_take_1 hl (by decide) rfl (fun ls hl => ?_)
  exact hL3 xq1 xq3 400 0 σ _ _ _ hw (lv_sub hl [1, 2, 3, 0] rfl) hf
set_option maxRecDepth 100000 in
set_option maxHeartbeats 4000000 in
theorem c_X11_feed {l : Launch} {D : va_G} {cy : Cy} {ad : Nat → Nat} {A : Nat → Prop} (hA : okAd 97 ad A) (xq1 : Int64) (xq3 : Int32) (σ : Sg) {r : Int32} {σ9 : Sg} (hf : f_X11_feed xq1 xq3 σ = some (r, σ9)) : Met l yX11_feed (.code yX11_feed cX11_feed 4 (some .int) :: TT) ({ frames := 1, cells := 0, slots := 0, locals := 24 } : Room) (zPc D cy 97 (celC ad cy) ad A [.ref (ad 0), .long xq1, .int xq3] σ) (zQi D 97 (celC ad cy) ad A r σ9) 0 0 A := by
  refine zofW (by decide) hA (Nat.le_of_ble_eq_true rfl) ?_
  intro p e s m args below meth c ls E hw hr hlk hl
  have E : ZE p s m args c cX11_feed 4 "KiteSummons" D cy 97 ad A := E
  have hx := E.hx
  have hb := E.hb
  have hl : lv_has ls 4 [(0, .ref (ad 0)), (1, .long xq1), (3, .int xq3)] := hl
  unfold f_X11_feed at hf
  refine lv_iload_n hx hb dX11_feed_0 rfl (lv_at hl 2 rfl) ?_
  refine lv_iconst (v := 1) hx hb dX11_feed_1 (by decide) ?_
  refine lv_bipush (v := 8) hx hb dX11_feed_2 (by decide) ?_
  refine zcali hw (va_runS (As := [.int xq3, .int 1, .int 8]) (rest := []) E.fix (c_X11_within (l := l) hA xq3 1 8 σ rfl) (zcS E k2_179 k1_1 k2_177 k2_178 mf_X11_within rfl rfl ⟨Nat.le_of_ble_eq_true rfl, Nat.le_of_ble_eq_true rfl⟩) (zPre E hw _) rfl rfl hl.1 rfl (lv_room (Nat.le_of_ble_eq_true rfl)) dX11_feed_4 ⟨Nat.zero_le _, Nat.zero_le _⟩) (fun H locs hw => ?_)
  refine lv_if_ne (tgt := 12) hx hb dX11_feed_7 (by decide) (fun h => ?_) (fun h => ?_)
  · replace hf := it_t (b2i_n h) hf
    refine lv_aload_n hx hb dX11_feed_12 rfl (lv_at hl 0 rfl) ?_
    refine zget E hw (Nat.le_of_ble_eq_true rfl) (ceC_0 ad cy _) rfl inX11 4 (by decide) k2_125 (fun _ h => h) rfl dX11_feed_13 ?_
    refine zget E hw (Nat.le_of_ble_eq_true rfl) (ceC_67 ad cy _) rfl inX8 0 (by decide) k1_76 (fun _ h => h) rfl dX11_feed_16 ?_
    refine lv_iload_n hx hb dX11_feed_19 rfl (lv_at hl 2 rfl) ?_
    refine lv_iadd hx hb dX11_feed_20 ?_
    refine lv_sipush (v := 200) hx hb dX11_feed_21 (by decide) ?_
    refine lv_icmp_le (tgt := 32) hx hb dX11_feed_24 (by decide) (fun h => ?_) (fun h => ?_)
    · replace hf := it_t h hf
      refine lv_aload_n hx hb dX11_feed_32 rfl (lv_at hl 0 rfl) ?_
      refine zget E hw (Nat.le_of_ble_eq_true rfl) (ceC_0 ad cy _) rfl inX11 4 (by decide) k2_125 (fun _ h => h) rfl dX11_feed_33 ?_
      refine lv_lload_n hx hb dX11_feed_36 rfl (lv_at hl 1 rfl) ?_
      refine lv_iload_n hx hb dX11_feed_37 rfl (lv_at hl 2 rfl) ?_
      obtain ⟨vq1, σ2, hc, hf⟩ := bd2_e hf
      refine zcali hw (va_runV (As := [.long xq1, .int xq3]) (rest := []) E.fix (c_X8_take (l := l) hA xq1 xq3 σ hc) (zcV E k3_115 k1_2 k3_112 k3_113 k3_114 mf_X8_take rfl rfl ⟨Nat.le_of_ble_eq_true rfl, Nat.le_of_ble_eq_true rfl⟩) (zPreV E hw (Nat.le_of_ble_eq_true rfl) (ceC_67 ad cy _) rfl _) rfl rfl hl.1 rfl (lv_room (Nat.le_of_ble_eq_true rfl)) dX11_feed_38 ⟨Nat.zero_le _, Nat.zero_le _⟩) (fun H locs hw => ?_)
      exact zreti E hw hr hlk (rt_a hf) (rt_b hf) dX11_feed_41
    · replace hf := it_f h hf
      refine lv_bipush (v := (-2)) hx hb dX11_feed_27 (by decide) ?_
      refine lv_goto (tgt := 41) hx hb dX11_feed_29 (by decide) ?_
      exact zreti E hw hr hlk (rt_a hf) (rt_b hf) dX11_feed_41
  · replace hf := it_f (b2i_0 h) hf
    refine lv_iconst (v := (-1)) hx hb dX11_feed_10 (by decide) ?_
    exact zreti E hw hr hlk (rt_a hf) (rt_b hf) dX11_feed_11
set_option maxRecDepth 100000 in
set_option maxHeartbeats 4000000 in
theorem c_X8_isLetter {l : Launch} {D : va_G} {cy : Cy} {ad : Nat → Nat} {A : Nat → Prop} (hA : okAd 97 ad A) (xq1 : Int32) (σ : Sg) {r : Bool} (hf : f_X8_isLetter xq1 σ = some r) : Met l yX8_isLetter (.code yX8_isLetter cX8_isLetter 2 (some .boolean) :: TT) ({ frames := 1, cells := 0, slots := 0, locals := 22 } : Room) (zPc D cy 97 (celC ad cy) ad A [.ref (ad 67), .int xq1] σ) (zQi D 97 (celC ad cy) ad A (b2i r) σ) 0 0 A := by
  refine zofW (by decide) hA (Nat.le_of_ble_eq_true rfl) ?_
  intro p e s m args below meth c ls E hw hr hlk hl
  have E : ZE p s m args c cX8_isLetter 2 "KiteSummons$RuleReader" D cy 97 ad A := E
  have hx := E.hx
  have hb := E.hb
  have hl : lv_has ls 2 [(0, .ref (ad 67)), (1, .int xq1)] := hl
  unfold f_X8_isLetter at hf
  refine lv_aload_n hx hb dX8_isLetter_0 rfl (lv_at hl 0 rfl) ?_
  refine zget E hw (Nat.le_of_ble_eq_true rfl) (ceC_67 ad cy _) rfl inX8 1 (by decide) k1_77 (fun _ h => h) rfl dX8_isLetter_1 ?_
  refine lv_iload_n hx hb dX8_isLetter_4 rfl (lv_at hl 1 rfl) ?_
  obtain ⟨vq1, hvq1, hf⟩ := bd_e hf
  refine zbaldr E hw (Nat.le_of_ble_eq_true rfl) (ceC_68 ad cy) hvq1 dX8_isLetter_5 ?_
  refine lv_bipush (v := 97) hx hb dX8_isLetter_6 (by decide) ?_
  refine lv_bipush (v := 122) hx hb dX8_isLetter_8 (by decide) ?_
  refine zcali hw (va_runSN (As := [.int vq1, .int 97, .int 122]) (rest := []) E.fix (c_X11_within (l := l) hA vq1 97 122 σ rfl) (zcN E k2_179 k1_1 k3_136 k2_178 mf_X11_within rfl rfl ⟨Nat.le_of_ble_eq_true rfl, Nat.le_of_ble_eq_true rfl⟩) (zPre E hw _) rfl rfl hl.1 rfl (lv_room (Nat.le_of_ble_eq_true rfl)) dX8_isLetter_10 ⟨Nat.zero_le _, Nat.zero_le _⟩) (fun H locs hw => ?_)
  exact zretz E hw hr hlk (b_e (rt_1 hf) (by rfl)) rfl dX8_isLetter_13
set_option maxRecDepth 100000 in
set_option maxHeartbeats 4000000 in
theorem c_X8_isDigit {l : Launch} {D : va_G} {cy : Cy} {ad : Nat → Nat} {A : Nat → Prop} (hA : okAd 97 ad A) (xq1 : Int32) (σ : Sg) {r : Bool} (hf : f_X8_isDigit xq1 σ = some r) : Met l yX8_isDigit (.code yX8_isDigit cX8_isDigit 2 (some .boolean) :: TT) ({ frames := 1, cells := 0, slots := 0, locals := 22 } : Room) (zPc D cy 97 (celC ad cy) ad A [.ref (ad 67), .int xq1] σ) (zQi D 97 (celC ad cy) ad A (b2i r) σ) 0 0 A := by
  refine zofW (by decide) hA (Nat.le_of_ble_eq_true rfl) ?_
  intro p e s m args below meth c ls E hw hr hlk hl
  have E : ZE p s m args c cX8_isDigit 2 "KiteSummons$RuleReader" D cy 97 ad A := E
  have hx := E.hx
  have hb := E.hb
  have hl : lv_has ls 2 [(0, .ref (ad 67)), (1, .int xq1)] := hl
  unfold f_X8_isDigit at hf
  refine lv_aload_n hx hb dX8_isDigit_0 rfl (lv_at hl 0 rfl) ?_
  refine zget E hw (Nat.le_of_ble_eq_true rfl) (ceC_67 ad cy _) rfl inX8 1 (by decide) k1_77 (fun _ h => h) rfl dX8_isDigit_1 ?_
  refine lv_iload_n hx hb dX8_isDigit_4 rfl (lv_at hl 1 rfl) ?_
  obtain ⟨vq1, hvq1, hf⟩ := bd_e hf
  refine zbaldr E hw (Nat.le_of_ble_eq_true rfl) (ceC_68 ad cy) hvq1 dX8_isDigit_5 ?_
  refine lv_bipush (v := 48) hx hb dX8_isDigit_6 (by decide) ?_
  refine lv_bipush (v := 57) hx hb dX8_isDigit_8 (by decide) ?_
  refine zcali hw (va_runSN (As := [.int vq1, .int 48, .int 57]) (rest := []) E.fix (c_X11_within (l := l) hA vq1 48 57 σ rfl) (zcN E k2_179 k1_1 k3_136 k2_178 mf_X11_within rfl rfl ⟨Nat.le_of_ble_eq_true rfl, Nat.le_of_ble_eq_true rfl⟩) (zPre E hw _) rfl rfl hl.1 rfl (lv_room (Nat.le_of_ble_eq_true rfl)) dX8_isDigit_10 ⟨Nat.zero_le _, Nat.zero_le _⟩) (fun H locs hw => ?_)
  exact zretz E hw hr hlk (b_e (rt_1 hf) (by rfl)) rfl dX8_isDigit_13
set_option maxRecDepth 100000 in
set_option maxHeartbeats 4000000 in
theorem c_X8_isOneRow {l : Launch} {D : va_G} {cy : Cy} {ad : Nat → Nat} {A : Nat → Prop} (hA : okAd 97 ad A) (xq1 : Int32) (xq2 : Int32) (σ : Sg) {r : Bool} (hf : f_X8_isOneRow xq1 xq2 σ = some r) : Met l yX8_isOneRow (.code yX8_isOneRow cX8_isOneRow 3 (some .boolean) :: TT) ({ frames := 2, cells := 0, slots := 0, locals := 43 } : Room) (zPc D cy 97 (celC ad cy) ad A [.ref (ad 67), .int xq1, .int xq2] σ) (zQi D 97 (celC ad cy) ad A (b2i r) σ) 0 0 A := by
  refine zofW (by decide) hA (Nat.le_of_ble_eq_true rfl) ?_
  intro p e s m args below meth c ls E hw hr hlk hl
  have E : ZE p s m args c cX8_isOneRow 3 "KiteSummons$RuleReader" D cy 97 ad A := E
  have hx := E.hx
  have hb := E.hb
  have hl : lv_has ls 3 [(0, .ref (ad 67)), (1, .int xq1), (2, .int xq2)] := hl
  have hB16 : ∀ (xq1 : Int32) (xq2 : Int32) (H : Heap) (locs : List Loc) (ls : Array Slot), ZS D 97 (celC ad cy) ad A s σ H locs → lv_has ls 3 [(0, .ref (ad 67)), (1, .int xq1), (2, .int xq2)] → f_X8_isOneRow_b16 xq1 xq2 σ = some r → W p l e ({ frames := 2, cells := 0, slots := 0, locals := 43 } : Room) s m args below meth c H locs 0 0 (MQ below (zQi D 97 (celC ad cy) ad A (b2i r) σ) args s 0 0 A) (F0 m 16 ls []) := by
    intro xq1 xq2 H locs ls hw hl hf
    unfold f_X8_isOneRow_b16 at hf
    refine lv_aload_n hx hb dX8_isOneRow_16 rfl (lv_at hl 0 rfl) ?_
    refine lv_iload_n hx hb dX8_isOneRow_17 rfl (lv_at hl 1 rfl) ?_
    obtain ⟨vq3, hc, hf⟩ := bd_e hf
    refine zcali hw (va_runV (As := [.int xq1]) (rest := []) E.fix (c_X8_isDigit (l := l) hA xq1 σ hc) (zcV E k3_140 k1_2 k3_137 k3_139 kp1_7 mf_X8_isDigit rfl rfl ⟨Nat.le_of_ble_eq_true rfl, Nat.le_of_ble_eq_true rfl⟩) (zPreV E hw (Nat.le_of_ble_eq_true rfl) (ceC_67 ad cy _) rfl _) rfl rfl hl.1 rfl (lv_room (Nat.le_of_ble_eq_true rfl)) dX8_isOneRow_18 ⟨Nat.zero_le _, Nat.zero_le _⟩) (fun H locs hw => ?_)
    refine lv_if_eq (tgt := 36) hx hb dX8_isOneRow_21 (by decide) (fun h => ?_) (fun h => ?_)
    · replace hf := it_f (b2i_0 h) hf
      refine lv_iconst (v := 0) hx hb dX8_isOneRow_36 (by decide) ?_
      exact zretz E hw hr hlk (b_e (rt_1 hf) (by rfl)) rfl dX8_isOneRow_37
    · replace hf := it_t (b2i_n h) hf
      refine lv_aload_n hx hb dX8_isOneRow_24 rfl (lv_at hl 0 rfl) ?_
      refine lv_iload_n hx hb dX8_isOneRow_25 rfl (lv_at hl 2 rfl) ?_
      obtain ⟨vq4, hc, hf⟩ := bd_e hf
      refine zcali hw (va_runV (As := [.int xq2]) (rest := []) E.fix (c_X8_isDigit (l := l) hA xq2 σ hc) (zcV E k3_140 k1_2 k3_137 k3_139 kp1_7 mf_X8_isDigit rfl rfl ⟨Nat.le_of_ble_eq_true rfl, Nat.le_of_ble_eq_true rfl⟩) (zPreV E hw (Nat.le_of_ble_eq_true rfl) (ceC_67 ad cy _) rfl _) rfl rfl hl.1 rfl (lv_room (Nat.le_of_ble_eq_true rfl)) dX8_isOneRow_26 ⟨Nat.zero_le _, Nat.zero_le _⟩) (fun H locs hw => ?_)
      refine lv_if_eq (tgt := 36) hx hb dX8_isOneRow_29 (by decide) (fun h => ?_) (fun h => ?_)
      · replace hf := it_f (b2i_0 h) hf
        refine lv_iconst (v := 0) hx hb dX8_isOneRow_36 (by decide) ?_
        exact zretz E hw hr hlk (b_e (rt_1 hf) (by rfl)) rfl dX8_isOneRow_37
      · replace hf := it_t (b2i_n h) hf
        refine lv_iconst (v := 1) hx hb dX8_isOneRow_32 (by decide) ?_
        refine lv_goto (tgt := 37) hx hb dX8_isOneRow_33 (by decide) ?_
        exact zretz E hw hr hlk (b_e (rt_1 hf) (by rfl)) rfl dX8_isOneRow_37
  unfold f_X8_isOneRow at hf
  refine lv_aload_n hx hb dX8_isOneRow_0 rfl (lv_at hl 0 rfl) ?_
  refine lv_iload_n hx hb dX8_isOneRow_1 rfl (lv_at hl 1 rfl) ?_
  obtain ⟨vq1, hc, hf⟩ := bd_e hf
  refine zcali hw (va_runV (As := [.int xq1]) (rest := []) E.fix (c_X8_isLetter (l := l) hA xq1 σ hc) (zcV E k3_135 k1_2 k3_132 k3_134 kp1_6 mf_X8_isLetter rfl rfl ⟨Nat.le_of_ble_eq_true rfl, Nat.le_of_ble_eq_true rfl⟩) (zPreV E hw (Nat.le_of_ble_eq_true rfl) (ceC_67 ad cy _) rfl _) rfl rfl hl.1 rfl (lv_room (Nat.le_of_ble_eq_true rfl)) dX8_isOneRow_2 ⟨Nat.zero_le _, Nat.zero_le _⟩) (fun H locs hw => ?_)
  refine lv_if_eq (tgt := 16) hx hb dX8_isOneRow_5 (by decide) (fun h => ?_) (fun h => ?_)
  · replace hf := it_f (b2i_0 h) hf
    exact hB16 xq1 xq2 _ _ _ hw (lv_sub hl [0, 1, 2] rfl) hf
  · replace hf := it_t (b2i_n h) hf
    refine lv_aload_n hx hb dX8_isOneRow_8 rfl (lv_at hl 0 rfl) ?_
    refine lv_iload_n hx hb dX8_isOneRow_9 rfl (lv_at hl 2 rfl) ?_
    obtain ⟨vq2, hc, hf⟩ := bd_e hf
    refine zcali hw (va_runV (As := [.int xq2]) (rest := []) E.fix (c_X8_isLetter (l := l) hA xq2 σ hc) (zcV E k3_135 k1_2 k3_132 k3_134 kp1_6 mf_X8_isLetter rfl rfl ⟨Nat.le_of_ble_eq_true rfl, Nat.le_of_ble_eq_true rfl⟩) (zPreV E hw (Nat.le_of_ble_eq_true rfl) (ceC_67 ad cy _) rfl _) rfl rfl hl.1 rfl (lv_room (Nat.le_of_ble_eq_true rfl)) dX8_isOneRow_10 ⟨Nat.zero_le _, Nat.zero_le _⟩) (fun H locs hw => ?_)
    refine lv_if_ne (tgt := 32) hx hb dX8_isOneRow_13 (by decide) (fun h => ?_) (fun h => ?_)
    · replace hf := it_t (b2i_n h) hf
      refine lv_iconst (v := 1) hx hb dX8_isOneRow_32 (by decide) ?_
      refine lv_goto (tgt := 37) hx hb dX8_isOneRow_33 (by decide) ?_
      exact zretz E hw hr hlk (b_e (rt_1 hf) (by rfl)) rfl dX8_isOneRow_37
    · replace hf := it_f (b2i_0 h) hf
      exact hB16 xq1 xq2 _ _ _ hw (lv_sub hl [0, 1, 2] rfl) hf
set_option maxRecDepth 100000 in
set_option maxHeartbeats 4000000 in
theorem c_X8_endOfRow {l : Launch} {D : va_G} {cy : Cy} {ad : Nat → Nat} {A : Nat → Prop} (hA : okAd 97 ad A) (xq1 : Int32) (σ : Sg) {r : Int32} (hf : f_X8_endOfRow xq1 σ = some r) : Met l yX8_endOfRow (.code yX8_endOfRow cX8_endOfRow 3 (some .int) :: TT) ({ frames := 3, cells := 0, slots := 0, locals := 65 } : Room) (zPc D cy 97 (celC ad cy) ad A [.ref (ad 67), .int xq1] σ) (zQi D 97 (celC ad cy) ad A r σ) 0 0 A := by
  refine zofW (by decide) hA (Nat.le_of_ble_eq_true rfl) ?_
  intro p e s m args below meth c ls E hw hr hlk hl
  have E : ZE p s m args c cX8_endOfRow 3 "KiteSummons$RuleReader" D cy 97 ad A := E
  have hx := E.hx
  have hb := E.hb
  have hl : lv_has ls 3 [(0, .ref (ad 67)), (1, .int xq1)] := hl
  have hB4 : ∀ (kq4 : Int32 → Option Int32) (hkq4 : ∀ (xq2 : Int32) (H : Heap) (locs : List Loc) (ls : Array Slot), ZS D 97 (celC ad cy) ad A s σ H locs → lv_has ls 3 [(0, .ref (ad 67)), (2, .int xq2)] → kq4 xq2 = some r → W p l e ({ frames := 3, cells := 0, slots := 0, locals := 65 } : Room) s m args below meth c H locs 0 0 (MQ below (zQi D 97 (celC ad cy) ad A r σ) args s 0 0 A) (F0 m 4 ls [])) (xq2 : Int32) (H : Heap) (locs : List Loc) (ls : Array Slot), ZS D 97 (celC ad cy) ad A s σ H locs → lv_has ls 3 [(0, .ref (ad 67)), (2, .int xq2)] → f_X8_endOfRow_b4 kq4 σ xq2 = some r → W p l e ({ frames := 3, cells := 0, slots := 0, locals := 65 } : Room) s m args below meth c H locs 0 0 (MQ below (zQi D 97 (celC ad cy) ad A r σ) args s 0 0 A) (F0 m 4 ls []) := by
    intro kq4 hkq4 xq2 H locs ls hw hl hf
    unfold f_X8_endOfRow_b4 at hf
    refine lv_iload_n hx hb dX8_endOfRow_4 rfl (lv_at hl 1 rfl) ?_
    refine lv_aload_n hx hb dX8_endOfRow_5 rfl (lv_at hl 0 rfl) ?_
    refine zget E hw (Nat.le_of_ble_eq_true rfl) (ceC_67 ad cy _) rfl inX8 0 (by decide) k1_75 (fun _ h => h) rfl dX8_endOfRow_6 ?_
    refine lv_icmp_ge (tgt := 31) hx hb dX8_endOfRow_9 (by decide) (fun h => ?_) (fun h => ?_)
    · replace hf := it_t h hf
      refine lv_aload_n hx hb dX8_endOfRow_31 rfl (lv_at hl 0 rfl) ?_
      refine zget E hw (Nat.le_of_ble_eq_true rfl) (ceC_67 ad cy _) rfl inX8 0 (by decide) k1_75 (fun _ h => h) rfl dX8_endOfRow_32 ?_
      exact zreti E hw hr hlk (rt_1 hf) rfl dX8_endOfRow_35
    · replace hf := it_f h hf
      refine lv_aload_n hx hb dX8_endOfRow_12 rfl (lv_at hl 0 rfl) ?_
      refine lv_iload_n hx hb dX8_endOfRow_13 rfl (lv_at hl 1 rfl) ?_
      refine lv_iconst (v := 1) hx hb dX8_endOfRow_14 (by decide) ?_
      refine lv_isub hx hb dX8_endOfRow_15 ?_
      refine lv_iload_n hx hb dX8_endOfRow_16 rfl (lv_at hl 1 rfl) ?_
      obtain ⟨vq2, hc, hf⟩ := bd_e hf
      refine zcali hw (va_runV (As := [.int (xq2 - 1), .int xq2]) (rest := []) E.fix (c_X8_isOneRow (l := l) hA (xq2 - 1) xq2 σ hc) (zcV E k3_131 k1_2 k3_128 k3_130 kp1_5 mf_X8_isOneRow rfl rfl ⟨Nat.le_of_ble_eq_true rfl, Nat.le_of_ble_eq_true rfl⟩) (zPreV E hw (Nat.le_of_ble_eq_true rfl) (ceC_67 ad cy _) rfl _) rfl rfl hl.1 rfl (lv_room (Nat.le_of_ble_eq_true rfl)) dX8_endOfRow_17 ⟨Nat.zero_le _, Nat.zero_le _⟩) (fun H locs hw => ?_)
      refine lv_if_ne (tgt := 25) hx hb dX8_endOfRow_20 (by decide) (fun h => ?_) (fun h => ?_)
      · replace hf := it_t (b2i_n h) hf
        refine lv_iinc (v := (xq2 + 1)) (lv' := [(2, .int (xq2 + 1)), (0, .ref (ad 67))]) hx hb dX8_endOfRow_25 hl (k := 1) rfl (by rfl) (by decide) rfl (fun ls hl => ?_)
        refine lv_goto (tgt := 4) hx hb dX8_endOfRow_28 (by decide) ?_
        exact hkq4 (xq2 + 1) _ _ _ hw (lv_sub hl [1, 0] rfl) hf
      · replace hf := it_f (b2i_0 h) hf
        refine lv_iload_n hx hb dX8_endOfRow_23 rfl (lv_at hl 1 rfl) ?_
        exact zreti E hw hr hlk (rt_1 hf) rfl dX8_endOfRow_24
  have hL4 : ∀ (n : Nat) (xq2 : Int32) (H : Heap) (locs : List Loc) (ls : Array Slot), ZS D 97 (celC ad cy) ad A s σ H locs → lv_has ls 3 [(0, .ref (ad 67)), (2, .int xq2)] → f_X8_endOfRow_l4 σ n xq2 = some r → W p l e ({ frames := 3, cells := 0, slots := 0, locals := 65 } : Room) s m args below meth c H locs 0 0 (MQ below (zQi D 97 (celC ad cy) ad A r σ) args s 0 0 A) (F0 m 4 ls []) := by
    intro n
    induction n with
    | zero =>
      intro xq2 H locs ls hw hl hf
      exact nn_e hf
    | succ n ih =>
      intro xq2 H locs ls hw hl hf
      exact hB4 (f_X8_endOfRow_l4 σ n) ih xq2 H locs ls hw hl hf
  unfold f_X8_endOfRow at hf
  refine lv_iload_n hx hb dX8_endOfRow_0 rfl (lv_at hl 1 rfl) ?_
  refine lv_iconst (v := 1) hx hb dX8_endOfRow_1 (by decide) ?_
  refine lv_iadd hx hb dX8_endOfRow_2 ?_
  refine lv_topi (fun vq1 evq1 => ?_)
  replace hf := lt_i evq1 hf
  refine lv_istore_n (lv' := [(2, .int vq1), (0, .ref (ad 67)), (1, .int xq1)]) hx hb dX8_endOfRow_3 rfl hl (by decide) rfl (fun ls hl => ?_)
  exact hL4 400 vq1 _ _ _ hw (lv_sub hl [1, 0] rfl) hf
set_option maxRecDepth 100000 in
set_option maxHeartbeats 4000000 in
theorem c_X8_numberOf {l : Launch} {D : va_G} {cy : Cy} {ad : Nat → Nat} {A : Nat → Prop} (hA : okAd 97 ad A) (xq1 : Int32) (xq2 : Int32) (σ : Sg) {r : Int32} (hf : f_X8_numberOf xq1 xq2 σ = some r) : Met l yX8_numberOf (.code yX8_numberOf cX8_numberOf 5 (some .int) :: TT) ({ frames := 0, cells := 0, slots := 0, locals := 0 } : Room) (zPc D cy 97 (celC ad cy) ad A [.ref (ad 67), .int xq1, .int xq2] σ) (zQi D 97 (celC ad cy) ad A r σ) 0 0 A := by
  refine zofW (by decide) hA (Nat.le_of_ble_eq_true rfl) ?_
  intro p e s m args below meth c ls E hw hr hlk hl
  have E : ZE p s m args c cX8_numberOf 5 "KiteSummons$RuleReader" D cy 97 ad A := E
  have hx := E.hx
  have hb := E.hb
  have hl : lv_has ls 5 [(0, .ref (ad 67)), (1, .int xq1), (2, .int xq2)] := hl
  have hB15 : ∀ (xq2 : Int32) (kq15 : Int32 → Int32 → Option Int32) (hkq15 : ∀ (xq3 : Int32) (xq4 : Int32) (H : Heap) (locs : List Loc) (ls : Array Slot), ZS D 97 (celC ad cy) ad A s σ H locs → lv_has ls 5 [(0, .ref (ad 67)), (2, .int xq2), (3, .int xq3), (4, .int xq4)] → kq15 xq3 xq4 = some r → W p l e ({ frames := 0, cells := 0, slots := 0, locals := 0 } : Room) s m args below meth c H locs 0 0 (MQ below (zQi D 97 (celC ad cy) ad A r σ) args s 0 0 A) (F0 m 15 ls [])) (xq3 : Int32) (xq4 : Int32) (H : Heap) (locs : List Loc) (ls : Array Slot), ZS D 97 (celC ad cy) ad A s σ H locs → lv_has ls 5 [(0, .ref (ad 67)), (2, .int xq2), (3, .int xq3), (4, .int xq4)] → f_X8_numberOf_b15 kq15 xq2 σ xq3 xq4 = some r → W p l e ({ frames := 0, cells := 0, slots := 0, locals := 0 } : Room) s m args below meth c H locs 0 0 (MQ below (zQi D 97 (celC ad cy) ad A r σ) args s 0 0 A) (F0 m 15 ls []) := by
    intro xq2 kq15 hkq15 xq3 xq4 H locs ls hw hl hf
    unfold f_X8_numberOf_b15 at hf
    refine lv_iload hx hb dX8_numberOf_15 (lv_at hl 3 rfl) ?_
    refine lv_iload_n hx hb dX8_numberOf_17 rfl (lv_at hl 1 rfl) ?_
    refine lv_icmp_ge (tgt := 43) hx hb dX8_numberOf_18 (by decide) (fun h => ?_) (fun h => ?_)
    · replace hf := it_t h hf
      refine lv_bipush (v := 100) hx hb dX8_numberOf_43 (by decide) ?_
      refine lv_iload_n hx hb dX8_numberOf_45 rfl (lv_at hl 2 rfl) ?_
      refine lv_iadd hx hb dX8_numberOf_46 ?_
      exact zreti E hw hr hlk (rt_1 hf) rfl dX8_numberOf_47
    · replace hf := it_f h hf
      refine lv_iload_n hx hb dX8_numberOf_21 rfl (lv_at hl 2 rfl) ?_
      refine lv_bipush (v := 10) hx hb dX8_numberOf_22 (by decide) ?_
      refine lv_imul hx hb dX8_numberOf_24 ?_
      refine lv_aload_n hx hb dX8_numberOf_25 rfl (lv_at hl 0 rfl) ?_
      refine zget E hw (Nat.le_of_ble_eq_true rfl) (ceC_67 ad cy _) rfl inX8 1 (by decide) k1_77 (fun _ h => h) rfl dX8_numberOf_26 ?_
      refine lv_iload hx hb dX8_numberOf_29 (lv_at hl 3 rfl) ?_
      obtain ⟨vq1, hvq1, hf⟩ := bd_e hf
      refine zbaldr E hw (Nat.le_of_ble_eq_true rfl) (ceC_68 ad cy) hvq1 dX8_numberOf_31 ?_
      refine lv_iadd hx hb dX8_numberOf_32 ?_
      refine lv_bipush (v := 48) hx hb dX8_numberOf_33 (by decide) ?_
      refine lv_isub hx hb dX8_numberOf_35 ?_
      refine lv_topi (fun vq2 evq2 => ?_)
      replace hf := lt_i evq2 hf
      refine lv_istore_n (lv' := [(3, .int vq2), (0, .ref (ad 67)), (2, .int xq2), (4, .int xq4)]) hx hb dX8_numberOf_36 rfl hl (by decide) rfl (fun ls hl => ?_)
      refine lv_iinc (v := (xq4 + 1)) (lv' := [(4, .int (xq4 + 1)), (3, .int vq2), (0, .ref (ad 67)), (2, .int xq2)]) hx hb dX8_numberOf_37 hl (k := 3) rfl (by rfl) (by decide) rfl (fun ls hl => ?_)
      refine lv_goto (tgt := 15) hx hb dX8_numberOf_40 (by decide) ?_
      exact hkq15 vq2 (xq4 + 1) _ _ _ hw (lv_sub hl [2, 3, 1, 0] rfl) hf
  have hL15 : ∀ (xq2 : Int32) (n : Nat) (xq3 : Int32) (xq4 : Int32) (H : Heap) (locs : List Loc) (ls : Array Slot), ZS D 97 (celC ad cy) ad A s σ H locs → lv_has ls 5 [(0, .ref (ad 67)), (2, .int xq2), (3, .int xq3), (4, .int xq4)] → f_X8_numberOf_l15 xq2 σ n xq3 xq4 = some r → W p l e ({ frames := 0, cells := 0, slots := 0, locals := 0 } : Room) s m args below meth c H locs 0 0 (MQ below (zQi D 97 (celC ad cy) ad A r σ) args s 0 0 A) (F0 m 15 ls []) := by
    intro xq2 n
    induction n with
    | zero =>
      intro xq3 xq4 H locs ls hw hl hf
      exact nn_e hf
    | succ n ih =>
      intro xq3 xq4 H locs ls hw hl hf
      exact hB15 xq2 (f_X8_numberOf_l15 xq2 σ n) ih xq3 xq4 H locs ls hw hl hf
  unfold f_X8_numberOf at hf
  refine lv_iload_n hx hb dX8_numberOf_0 rfl (lv_at hl 2 rfl) ?_
  refine lv_iload_n hx hb dX8_numberOf_1 rfl (lv_at hl 1 rfl) ?_
  refine lv_isub hx hb dX8_numberOf_2 ?_
  refine lv_iconst (v := 4) hx hb dX8_numberOf_3 (by decide) ?_
  refine lv_icmp_le (tgt := 10) hx hb dX8_numberOf_4 (by decide) (fun h => ?_) (fun h => ?_)
  · replace hf := it_t h hf
    refine lv_iconst (v := 0) hx hb dX8_numberOf_10 (by decide) ?_
    refine lv_istore_n (lv' := [(3, .int 0), (0, .ref (ad 67)), (1, .int xq1), (2, .int xq2)]) hx hb dX8_numberOf_11 rfl hl (by decide) rfl (fun ls hl => ?_)
    refine lv_iload_n hx hb dX8_numberOf_12 rfl (lv_at hl 2 rfl) ?_
    refine lv_istore (lv' := [(4, .int xq1), (3, .int 0), (0, .ref (ad 67)), (1, .int xq1), (2, .int xq2)]) hx hb dX8_numberOf_13 hl (by decide) rfl (fun ls hl => ?_)
    exact hL15 xq2 400 0 xq1 _ _ _ hw (lv_sub hl [2, 4, 1, 0] rfl) hf
  · replace hf := it_f h hf
    refine lv_bipush (v := 26) hx hb dX8_numberOf_7 (by decide) ?_
    exact zreti E hw hr hlk (rt_1 hf) rfl dX8_numberOf_9
set_option maxRecDepth 100000 in
set_option maxHeartbeats 4000000 in
theorem c_X8_wordOf {l : Launch} {D : va_G} {cy : Cy} {ad : Nat → Nat} {A : Nat → Prop} (hA : okAd 97 ad A) (xq1 : Int32) (xq2 : Int32) (σ : Sg) {r : Int32} (hf : f_X8_wordOf xq1 xq2 σ = some r) : Met l yX8_wordOf (.code yX8_wordOf cX8_wordOf 8 (some .int) :: TT) ({ frames := 6, cells := 0, slots := 0, locals := 300 } : Room) (zPc D cy 97 (celC ad cy) ad A [.ref (ad 67), .int xq1, .int xq2] σ) (zQi D 97 (celC ad cy) ad A r σ) 0 0 A := by
  refine zofW (by decide) hA (Nat.le_of_ble_eq_true rfl) ?_
  intro p e s m args below meth c ls E hw hr hlk hl
  have E : ZE p s m args c cX8_wordOf 8 "KiteSummons$RuleReader" D cy 97 ad A := E
  have hx := E.hx
  have hb := E.hb
  have hl : lv_has ls 8 [(0, .ref (ad 67)), (1, .int xq1), (2, .int xq2)] := hl
  obtain ⟨⟨aK, aV, hsR, hsS⟩, -⟩ := id E.hX
  have hB64 : ∀ (xq1 : Int32) (xq2 : Int32) (xq3 : Int32) (xq4 : Int32) (xq6 : Int32) (kq11 : Int32 → Int32 → Int32 → Int32 → Option Int32) (hkq11 : ∀ (xq3 : Int32) (xq4 : Int32) (xq5 : Int32) (xq6 : Int32) (H : Heap) (locs : List Loc) (ls : Array Slot), ZS D 97 (celC ad cy) ad A s σ H locs → lv_has ls 8 [(0, .ref (ad 67)), (1, .int xq1), (2, .int xq2), (3, .int xq3), (4, .int xq4), (5, .int xq5), (6, .int xq6)] → kq11 xq3 xq4 xq5 xq6 = some r → W p l e ({ frames := 6, cells := 0, slots := 0, locals := 300 } : Room) s m args below meth c H locs 0 0 (MQ below (zQi D 97 (celC ad cy) ad A r σ) args s 0 0 A) (F0 m 11 ls [])) (H : Heap) (locs : List Loc) (ls : Array Slot), ZS D 97 (celC ad cy) ad A s σ H locs → lv_has ls 8 [(0, .ref (ad 67)), (1, .int xq1), (2, .int xq2), (3, .int xq3), (4, .int xq4), (6, .int xq6)] → f_X8_wordOf_b64 kq11 xq1 xq2 xq3 xq4 xq6 σ = some r → W p l e ({ frames := 6, cells := 0, slots := 0, locals := 300 } : Room) s m args below meth c H locs 0 0 (MQ below (zQi D 97 (celC ad cy) ad A r σ) args s 0 0 A) (F0 m 64 ls []) := by
    intro xq1 xq2 xq3 xq4 xq6 kq11 hkq11 H locs ls hw hl hf
    unfold f_X8_wordOf_b64 at hf
    refine lv_iconst (v := 0) hx hb dX8_wordOf_64 (by decide) ?_
    refine lv_istore (lv' := [(5, .int 0), (0, .ref (ad 67)), (1, .int xq1), (2, .int xq2), (3, .int xq3), (4, .int xq4), (6, .int xq6)]) hx hb dX8_wordOf_65 hl (by decide) rfl (fun ls hl => ?_)
    refine lv_iinc (v := (xq4 + 1)) (lv' := [(4, .int (xq4 + 1)), (5, .int 0), (0, .ref (ad 67)), (1, .int xq1), (2, .int xq2), (3, .int xq3), (6, .int xq6)]) hx hb dX8_wordOf_67 hl (k := 5) rfl (by rfl) (by decide) rfl (fun ls hl => ?_)
    refine lv_goto (tgt := 95) hx hb dX8_wordOf_70 (by decide) ?_
    refine lv_iinc (v := (xq6 + 1)) (lv' := [(6, .int (xq6 + 1)), (4, .int (xq4 + 1)), (5, .int 0), (0, .ref (ad 67)), (1, .int xq1), (2, .int xq2), (3, .int xq3)]) hx hb dX8_wordOf_95 hl (k := 6) rfl (by rfl) (by decide) rfl (fun ls hl => ?_)
    refine lv_goto (tgt := 11) hx hb dX8_wordOf_98 (by decide) ?_
    exact hkq11 xq3 (xq4 + 1) 0 (xq6 + 1) _ _ _ hw (lv_sub hl [3, 4, 5, 6, 1, 2, 0] rfl) hf
  have hB86 : ∀ (xq1 : Int32) (xq2 : Int32) (xq3 : Int32) (xq6 : Int32) (kq11 : Int32 → Int32 → Int32 → Int32 → Option Int32) (hkq11 : ∀ (xq3 : Int32) (xq4 : Int32) (xq5 : Int32) (xq6 : Int32) (H : Heap) (locs : List Loc) (ls : Array Slot), ZS D 97 (celC ad cy) ad A s σ H locs → lv_has ls 8 [(0, .ref (ad 67)), (1, .int xq1), (2, .int xq2), (3, .int xq3), (4, .int xq4), (5, .int xq5), (6, .int xq6)] → kq11 xq3 xq4 xq5 xq6 = some r → W p l e ({ frames := 6, cells := 0, slots := 0, locals := 300 } : Room) s m args below meth c H locs 0 0 (MQ below (zQi D 97 (celC ad cy) ad A r σ) args s 0 0 A) (F0 m 11 ls [])) (H : Heap) (locs : List Loc) (ls : Array Slot), ZS D 97 (celC ad cy) ad A s σ H locs → lv_has ls 8 [(0, .ref (ad 67)), (1, .int xq1), (2, .int xq2), (3, .int xq3), (6, .int xq6)] → f_X8_wordOf_b86 kq11 xq1 xq2 xq3 xq6 σ = some r → W p l e ({ frames := 6, cells := 0, slots := 0, locals := 300 } : Room) s m args below meth c H locs 0 0 (MQ below (zQi D 97 (celC ad cy) ad A r σ) args s 0 0 A) (F0 m 86 ls []) := by
    intro xq1 xq2 xq3 xq6 kq11 hkq11 H locs ls hw hl hf
    unfold f_X8_wordOf_b86 at hf
    refine lv_iinc (v := (xq3 + 1)) (lv' := [(3, .int (xq3 + 1)), (0, .ref (ad 67)), (1, .int xq1), (2, .int xq2), (6, .int xq6)]) hx hb dX8_wordOf_86 hl (k := 3) rfl (by rfl) (by decide) rfl (fun ls hl => ?_)
    refine lv_iload_n hx hb dX8_wordOf_89 rfl (lv_at hl 2 rfl) ?_
    refine lv_istore (lv' := [(4, .int xq1), (3, .int (xq3 + 1)), (0, .ref (ad 67)), (1, .int xq1), (2, .int xq2), (6, .int xq6)]) hx hb dX8_wordOf_90 hl (by decide) rfl (fun ls hl => ?_)
    refine lv_iconst (v := 1) hx hb dX8_wordOf_92 (by decide) ?_
    refine lv_istore (lv' := [(5, .int 1), (4, .int xq1), (3, .int (xq3 + 1)), (0, .ref (ad 67)), (1, .int xq1), (2, .int xq2), (6, .int xq6)]) hx hb dX8_wordOf_93 hl (by decide) rfl (fun ls hl => ?_)
    refine lv_iinc (v := (xq6 + 1)) (lv' := [(6, .int (xq6 + 1)), (5, .int 1), (4, .int xq1), (3, .int (xq3 + 1)), (0, .ref (ad 67)), (1, .int xq1), (2, .int xq2)]) hx hb dX8_wordOf_95 hl (k := 6) rfl (by rfl) (by decide) rfl (fun ls hl => ?_)
    refine lv_goto (tgt := 11) hx hb dX8_wordOf_98 (by decide) ?_
    exact hkq11 (xq3 + 1) xq1 1 (xq6 + 1) _ _ _ hw (lv_sub hl [4, 5, 6, 3, 2, 1, 0] rfl) hf
  have hB11 : ∀ (xq1 : Int32) (xq2 : Int32) (kq11 : Int32 → Int32 → Int32 → Int32 → Option Int32) (hkq11 : ∀ (xq3 : Int32) (xq4 : Int32) (xq5 : Int32) (xq6 : Int32) (H : Heap) (locs : List Loc) (ls : Array Slot), ZS D 97 (celC ad cy) ad A s σ H locs → lv_has ls 8 [(0, .ref (ad 67)), (1, .int xq1), (2, .int xq2), (3, .int xq3), (4, .int xq4), (5, .int xq5), (6, .int xq6)] → kq11 xq3 xq4 xq5 xq6 = some r → W p l e ({ frames := 6, cells := 0, slots := 0, locals := 300 } : Room) s m args below meth c H locs 0 0 (MQ below (zQi D 97 (celC ad cy) ad A r σ) args s 0 0 A) (F0 m 11 ls [])) (xq3 : Int32) (xq4 : Int32) (xq5 : Int32) (xq6 : Int32) (H : Heap) (locs : List Loc) (ls : Array Slot), ZS D 97 (celC ad cy) ad A s σ H locs → lv_has ls 8 [(0, .ref (ad 67)), (1, .int xq1), (2, .int xq2), (3, .int xq3), (4, .int xq4), (5, .int xq5), (6, .int xq6)] → f_X8_wordOf_b11 kq11 xq1 xq2 σ xq3 xq4 xq5 xq6 = some r → W p l e ({ frames := 6, cells := 0, slots := 0, locals := 300 } : Room) s m args below meth c H locs 0 0 (MQ below (zQi D 97 (celC ad cy) ad A r σ) args s 0 0 A) (F0 m 11 ls []) := by
    intro xq1 xq2 kq11 hkq11 xq3 xq4 xq5 xq6 H locs ls hw hl hf
    unfold f_X8_wordOf_b11 at hf
    refine lv_iload hx hb dX8_wordOf_11 (lv_at hl 6 rfl) ?_
    refine va_ldcS hx hb E.hown hsR dX8_wordOf_13 ?_
    refine zstrlen E hw hsS (Nat.le_of_ble_eq_true rfl) (Nat.le_of_ble_eq_true rfl) hl.1 (Nat.le_of_ble_eq_true rfl) dX8_wordOf_15 (fun H locs hw => ?_)
    refine lv_icmp_ge (tgt := 101) hx hb dX8_wordOf_18 (by decide) (fun h => ?_) (fun h => ?_)
    · replace hf := it_t h hf
      refine lv_bipush (v := 26) hx hb dX8_wordOf_101 (by decide) ?_
      exact zreti E hw hr hlk (rt_1 hf) rfl dX8_wordOf_103
    · replace hf := it_f h hf
      refine va_ldcS hx hb E.hown hsR dX8_wordOf_21 ?_
      refine lv_iload hx hb dX8_wordOf_23 (lv_at hl 6 rfl) ?_
      obtain ⟨vq1, hvq1, hf⟩ := bd_e hf
      refine zstrat E hw hsS (Nat.le_of_ble_eq_true rfl) (Nat.le_of_ble_eq_true rfl) hl.1 (Nat.le_of_ble_eq_true rfl) hvq1 dX8_wordOf_25 (fun H locs hw => ?_)
      refine lv_istore (lv' := [(7, .int vq1), (0, .ref (ad 67)), (1, .int xq1), (2, .int xq2), (3, .int xq3), (4, .int xq4), (5, .int xq5), (6, .int xq6)]) hx hb dX8_wordOf_28 hl (by decide) rfl (fun ls hl => ?_)
      refine lv_iload hx hb dX8_wordOf_30 (lv_at hl 0 rfl) ?_
      refine lv_bipush (v := 32) hx hb dX8_wordOf_32 (by decide) ?_
      refine lv_icmp_eq (tgt := 73) hx hb dX8_wordOf_34 (by decide) (fun h => ?_) (fun h => ?_)
      · replace hf := it_t h hf
        refine lv_iload hx hb dX8_wordOf_73 (lv_at hl 6 rfl) ?_
        refine lv_if_eq (tgt := 86) hx hb dX8_wordOf_75 (by decide) (fun h => ?_) (fun h => ?_)
        · replace hf := it_t h hf
          exact hB86 xq1 xq2 xq3 xq6 kq11 hkq11 _ _ _ hw (lv_sub hl [1, 2, 3, 4, 7] rfl) hf
        · replace hf := it_f h hf
          refine lv_iload hx hb dX8_wordOf_78 (lv_at hl 5 rfl) ?_
          refine lv_iload_n hx hb dX8_wordOf_80 rfl (lv_at hl 3 rfl) ?_
          refine lv_icmp_ne (tgt := 86) hx hb dX8_wordOf_81 (by decide) (fun h => ?_) (fun h => ?_)
          · replace hf := it_t h hf
            exact hB86 xq1 xq2 xq3 xq6 kq11 hkq11 _ _ _ hw (lv_sub hl [1, 2, 3, 4, 7] rfl) hf
          · replace hf := it_n h hf
            refine lv_iload_n hx hb dX8_wordOf_84 rfl (lv_at hl 4 rfl) ?_
            exact zreti E hw hr hlk (rt_1 hf) rfl dX8_wordOf_85
      · replace hf := it_f h hf
        refine lv_iload hx hb dX8_wordOf_37 (lv_at hl 6 rfl) ?_
        refine lv_if_eq (tgt := 64) hx hb dX8_wordOf_39 (by decide) (fun h => ?_) (fun h => ?_)
        · replace hf := it_t h hf
          exact hB64 xq1 xq2 xq3 xq4 xq6 kq11 hkq11 _ _ _ hw (lv_sub hl [1, 2, 3, 4, 5, 7] rfl) hf
        · replace hf := it_f h hf
          refine lv_iload hx hb dX8_wordOf_42 (lv_at hl 5 rfl) ?_
          refine lv_iload_n hx hb dX8_wordOf_44 rfl (lv_at hl 3 rfl) ?_
          refine lv_icmp_ge (tgt := 64) hx hb dX8_wordOf_45 (by decide) (fun h => ?_) (fun h => ?_)
          · replace hf := it_t h hf
            exact hB64 xq1 xq2 xq3 xq4 xq6 kq11 hkq11 _ _ _ hw (lv_sub hl [1, 2, 3, 4, 5, 7] rfl) hf
          · replace hf := it_f h hf
            refine lv_aload_n hx hb dX8_wordOf_48 rfl (lv_at hl 1 rfl) ?_
            refine zget E hw (Nat.le_of_ble_eq_true rfl) (ceC_67 ad cy _) rfl inX8 1 (by decide) k1_77 (fun _ h => h) rfl dX8_wordOf_49 ?_
            refine lv_iload hx hb dX8_wordOf_52 (lv_at hl 5 rfl) ?_
            obtain ⟨vq2, hvq2, hf⟩ := bd_e hf
            refine zbaldr E hw (Nat.le_of_ble_eq_true rfl) (ceC_68 ad cy) hvq2 dX8_wordOf_54 ?_
            refine lv_iload hx hb dX8_wordOf_55 (lv_at hl 0 rfl) ?_
            refine lv_icmp_ne (tgt := 64) hx hb dX8_wordOf_57 (by decide) (fun h => ?_) (fun h => ?_)
            · replace hf := it_t h hf
              exact hB64 xq1 xq2 xq3 xq4 xq6 kq11 hkq11 _ _ _ hw (lv_sub hl [1, 2, 3, 4, 5, 7] rfl) hf
            · replace hf := it_n h hf
              refine lv_iconst (v := 1) hx hb dX8_wordOf_60 (by decide) ?_
              refine lv_goto (tgt := 65) hx hb dX8_wordOf_61 (by decide) ?_
              refine lv_istore (lv' := [(5, .int 1), (7, .int vq1), (0, .ref (ad 67)), (1, .int xq1), (2, .int xq2), (3, .int xq3), (4, .int xq4), (6, .int xq6)]) hx hb dX8_wordOf_65 hl (by decide) rfl (fun ls hl => ?_)
              refine lv_iinc (v := (xq4 + 1)) (lv' := [(4, .int (xq4 + 1)), (5, .int 1), (7, .int vq1), (0, .ref (ad 67)), (1, .int xq1), (2, .int xq2), (3, .int xq3), (6, .int xq6)]) hx hb dX8_wordOf_67 hl (k := 6) rfl (by rfl) (by decide) rfl (fun ls hl => ?_)
              refine lv_goto (tgt := 95) hx hb dX8_wordOf_70 (by decide) ?_
              refine lv_iinc (v := (xq6 + 1)) (lv' := [(6, .int (xq6 + 1)), (4, .int (xq4 + 1)), (5, .int 1), (7, .int vq1), (0, .ref (ad 67)), (1, .int xq1), (2, .int xq2), (3, .int xq3)]) hx hb dX8_wordOf_95 hl (k := 7) rfl (by rfl) (by decide) rfl (fun ls hl => ?_)
              refine lv_goto (tgt := 11) hx hb dX8_wordOf_98 (by decide) ?_
              exact hkq11 xq3 (xq4 + 1) 1 (xq6 + 1) _ _ _ hw (lv_sub hl [4, 5, 6, 7, 1, 2, 0] rfl) hf
  have hL11 : ∀ (xq1 : Int32) (xq2 : Int32) (n : Nat) (xq3 : Int32) (xq4 : Int32) (xq5 : Int32) (xq6 : Int32) (H : Heap) (locs : List Loc) (ls : Array Slot), ZS D 97 (celC ad cy) ad A s σ H locs → lv_has ls 8 [(0, .ref (ad 67)), (1, .int xq1), (2, .int xq2), (3, .int xq3), (4, .int xq4), (5, .int xq5), (6, .int xq6)] → f_X8_wordOf_l11 xq1 xq2 σ n xq3 xq4 xq5 xq6 = some r → W p l e ({ frames := 6, cells := 0, slots := 0, locals := 300 } : Room) s m args below meth c H locs 0 0 (MQ below (zQi D 97 (celC ad cy) ad A r σ) args s 0 0 A) (F0 m 11 ls []) := by
    intro xq1 xq2 n
    induction n with
    | zero =>
      intro xq3 xq4 xq5 xq6 H locs ls hw hl hf
      exact nn_e hf
    | succ n ih =>
      intro xq3 xq4 xq5 xq6 H locs ls hw hl hf
      exact hB11 xq1 xq2 (f_X8_wordOf_l11 xq1 xq2 σ n) ih xq3 xq4 xq5 xq6 H locs ls hw hl hf
  unfold f_X8_wordOf at hf
  refine lv_iconst (v := 0) hx hb dX8_wordOf_0 (by decide) ?_
  refine lv_istore_n (lv' := [(3, .int 0), (0, .ref (ad 67)), (1, .int xq1), (2, .int xq2)]) hx hb dX8_wordOf_1 rfl hl (by decide) rfl (fun ls hl => ?_)
  refine lv_iload_n hx hb dX8_wordOf_2 rfl (lv_at hl 2 rfl) ?_
  refine lv_istore (lv' := [(4, .int xq1), (3, .int 0), (0, .ref (ad 67)), (1, .int xq1), (2, .int xq2)]) hx hb dX8_wordOf_3 hl (by decide) rfl (fun ls hl => ?_)
  refine lv_iconst (v := 1) hx hb dX8_wordOf_5 (by decide) ?_
  refine lv_istore (lv' := [(5, .int 1), (4, .int xq1), (3, .int 0), (0, .ref (ad 67)), (1, .int xq1), (2, .int xq2)]) hx hb dX8_wordOf_6 hl (by decide) rfl (fun ls hl => ?_)
  refine lv_iconst (v := 0) hx hb dX8_wordOf_8 (by decide) ?_
  refine lv_istore (lv' := [(6, .int 0), (5, .int 1), (4, .int xq1), (3, .int 0), (0, .ref (ad 67)), (1, .int xq1), (2, .int xq2)]) hx hb dX8_wordOf_9 hl (by decide) rfl (fun ls hl => ?_)
  exact hL11 xq1 xq2 400 0 xq1 1 0 _ _ _ hw (lv_sub hl [4, 5, 6, 3, 2, 1, 0] rfl) hf
set_option maxRecDepth 100000 in
set_option maxHeartbeats 4000000 in
theorem c_X8_tokenOf {l : Launch} {D : va_G} {cy : Cy} {ad : Nat → Nat} {A : Nat → Prop} (hA : okAd 97 ad A) (xq1 : Int32) (xq2 : Int32) (σ : Sg) {r : Int32} (hf : f_X8_tokenOf xq1 xq2 σ = some r) : Met l yX8_tokenOf (.code yX8_tokenOf cX8_tokenOf 3 (some .int) :: TT) ({ frames := 7, cells := 0, slots := 0, locals := 327 } : Room) (zPc D cy 97 (celC ad cy) ad A [.ref (ad 67), .int xq1, .int xq2] σ) (zQi D 97 (celC ad cy) ad A r σ) 0 0 A := by
  refine zofW (by decide) hA (Nat.le_of_ble_eq_true rfl) ?_
  intro p e s m args below meth c ls E hw hr hlk hl
  have E : ZE p s m args c cX8_tokenOf 3 "KiteSummons$RuleReader" D cy 97 ad A := E
  have hx := E.hx
  have hb := E.hb
  have hl : lv_has ls 3 [(0, .ref (ad 67)), (1, .int xq1), (2, .int xq2)] := hl
  unfold f_X8_tokenOf at hf
  refine lv_aload_n hx hb dX8_tokenOf_0 rfl (lv_at hl 0 rfl) ?_
  refine lv_iload_n hx hb dX8_tokenOf_1 rfl (lv_at hl 1 rfl) ?_
  obtain ⟨vq1, hc, hf⟩ := bd_e hf
  refine zcali hw (va_runV (As := [.int xq1]) (rest := []) E.fix (c_X8_isLetter (l := l) hA xq1 σ hc) (zcV E k3_135 k1_2 k3_132 k3_134 kp1_6 mf_X8_isLetter rfl rfl ⟨Nat.le_of_ble_eq_true rfl, Nat.le_of_ble_eq_true rfl⟩) (zPreV E hw (Nat.le_of_ble_eq_true rfl) (ceC_67 ad cy _) rfl _) rfl rfl hl.1 rfl (lv_room (Nat.le_of_ble_eq_true rfl)) dX8_tokenOf_2 ⟨Nat.zero_le _, Nat.zero_le _⟩) (fun H locs hw => ?_)
  refine lv_if_eq (tgt := 15) hx hb dX8_tokenOf_5 (by decide) (fun h => ?_) (fun h => ?_)
  · replace hf := it_f (b2i_0 h) hf
    refine lv_aload_n hx hb dX8_tokenOf_15 rfl (lv_at hl 0 rfl) ?_
    refine lv_iload_n hx hb dX8_tokenOf_16 rfl (lv_at hl 1 rfl) ?_
    obtain ⟨vq2, hc, hf⟩ := bd_e hf
    refine zcali hw (va_runV (As := [.int xq1]) (rest := []) E.fix (c_X8_isDigit (l := l) hA xq1 σ hc) (zcV E k3_140 k1_2 k3_137 k3_139 kp1_7 mf_X8_isDigit rfl rfl ⟨Nat.le_of_ble_eq_true rfl, Nat.le_of_ble_eq_true rfl⟩) (zPreV E hw (Nat.le_of_ble_eq_true rfl) (ceC_67 ad cy _) rfl _) rfl rfl hl.1 rfl (lv_room (Nat.le_of_ble_eq_true rfl)) dX8_tokenOf_17 ⟨Nat.zero_le _, Nat.zero_le _⟩) (fun H locs hw => ?_)
    refine lv_if_eq (tgt := 30) hx hb dX8_tokenOf_20 (by decide) (fun h => ?_) (fun h => ?_)
    · replace hf := it_f (b2i_0 h) hf
      refine lv_aload_n hx hb dX8_tokenOf_30 rfl (lv_at hl 0 rfl) ?_
      refine zget E hw (Nat.le_of_ble_eq_true rfl) (ceC_67 ad cy _) rfl inX8 1 (by decide) k1_77 (fun _ h => h) rfl dX8_tokenOf_31 ?_
      refine lv_iload_n hx hb dX8_tokenOf_34 rfl (lv_at hl 1 rfl) ?_
      obtain ⟨vq3, hvq3, hf⟩ := bd_e hf
      refine zbaldr E hw (Nat.le_of_ble_eq_true rfl) (ceC_68 ad cy) hvq3 dX8_tokenOf_35 ?_
      by_cases hc36_0 : vq3 = 40
      · replace hf := it_t hc36_0 hf
        refine lv_lookup (tgt := 99) (off := 63) hx hb dX8_tokenOf_36 (by decide +kernel) (by rw [hc36_0]; decide +kernel) (by decide) ?_
        refine lv_bipush (v := 21) hx hb dX8_tokenOf_99 (by decide) ?_
        exact zreti E hw hr hlk (rt_1 hf) rfl dX8_tokenOf_101
      · replace hf := it_f hc36_0 hf
        by_cases hc36_1 : vq3 = 41
        · replace hf := it_t hc36_1 hf
          refine lv_lookup (tgt := 102) (off := 66) hx hb dX8_tokenOf_36 (by decide +kernel) (by rw [hc36_1]; decide +kernel) (by decide) ?_
          refine lv_bipush (v := 22) hx hb dX8_tokenOf_102 (by decide) ?_
          exact zreti E hw hr hlk (rt_1 hf) rfl dX8_tokenOf_104
        · replace hf := it_f hc36_1 hf
          by_cases hc36_2 : vq3 = 59
          · replace hf := it_t hc36_2 hf
            refine lv_lookup (tgt := 96) (off := 60) hx hb dX8_tokenOf_36 (by decide +kernel) (by rw [hc36_2]; decide +kernel) (by decide) ?_
            refine lv_bipush (v := 20) hx hb dX8_tokenOf_96 (by decide) ?_
            exact zreti E hw hr hlk (rt_1 hf) rfl dX8_tokenOf_98
          · replace hf := it_f hc36_2 hf
            by_cases hc36_3 : vq3 = 60
            · replace hf := it_t hc36_3 hf
              refine lv_lookup (tgt := 105) (off := 69) hx hb dX8_tokenOf_36 (by decide +kernel) (by rw [hc36_3]; decide +kernel) (by decide) ?_
              refine lv_bipush (v := 23) hx hb dX8_tokenOf_105 (by decide) ?_
              exact zreti E hw hr hlk (rt_1 hf) rfl dX8_tokenOf_107
            · replace hf := it_f hc36_3 hf
              by_cases hc36_4 : vq3 = 61
              · replace hf := it_t hc36_4 hf
                refine lv_lookup (tgt := 108) (off := 72) hx hb dX8_tokenOf_36 (by decide +kernel) (by rw [hc36_4]; decide +kernel) (by decide) ?_
                refine lv_bipush (v := 24) hx hb dX8_tokenOf_108 (by decide) ?_
                exact zreti E hw hr hlk (rt_1 hf) rfl dX8_tokenOf_110
              · replace hf := it_f hc36_4 hf
                by_cases hc36_5 : vq3 = 62
                · replace hf := it_t hc36_5 hf
                  refine lv_lookup (tgt := 111) (off := 75) hx hb dX8_tokenOf_36 (by decide +kernel) (by rw [hc36_5]; decide +kernel) (by decide) ?_
                  refine lv_bipush (v := 25) hx hb dX8_tokenOf_111 (by decide) ?_
                  exact zreti E hw hr hlk (rt_1 hf) rfl dX8_tokenOf_113
                · replace hf := it_f hc36_5 hf
                  refine lv_lookup (tgt := 114) (off := 78) hx hb dX8_tokenOf_36 (by decide +kernel) (by rw [show Op.lookupswitch.offset _ _ _ = _ from lv_osw hc36_0 (by rfl)]; rw [show Op.lookupswitch.offset _ _ _ = _ from lv_osw hc36_1 (by rfl)]; rw [show Op.lookupswitch.offset _ _ _ = _ from lv_osw hc36_2 (by rfl)]; rw [show Op.lookupswitch.offset _ _ _ = _ from lv_osw hc36_3 (by rfl)]; rw [show Op.lookupswitch.offset _ _ _ = _ from lv_osw hc36_4 (by rfl)]; rw [show Op.lookupswitch.offset _ _ _ = _ from lv_osw hc36_5 (by rfl)]; rfl) (by decide) ?_
                  refine lv_bipush (v := 26) hx hb dX8_tokenOf_114 (by decide) ?_
                  exact zreti E hw hr hlk (rt_1 hf) rfl dX8_tokenOf_116
    · replace hf := it_t (b2i_n h) hf
      refine lv_aload_n hx hb dX8_tokenOf_23 rfl (lv_at hl 0 rfl) ?_
      refine lv_iload_n hx hb dX8_tokenOf_24 rfl (lv_at hl 1 rfl) ?_
      refine lv_iload_n hx hb dX8_tokenOf_25 rfl (lv_at hl 2 rfl) ?_
      obtain ⟨vq4, hc, hf⟩ := bd_e hf
      refine zcali hw (va_runV (As := [.int xq1, .int xq2]) (rest := []) E.fix (c_X8_numberOf (l := l) hA xq1 xq2 σ hc) (zcV E k3_205 k1_2 k3_202 k3_204 kp1_11 mf_X8_numberOf rfl rfl ⟨Nat.le_of_ble_eq_true rfl, Nat.le_of_ble_eq_true rfl⟩) (zPreV E hw (Nat.le_of_ble_eq_true rfl) (ceC_67 ad cy _) rfl _) rfl rfl hl.1 rfl (lv_room (Nat.le_of_ble_eq_true rfl)) dX8_tokenOf_26 ⟨Nat.zero_le _, Nat.zero_le _⟩) (fun H locs hw => ?_)
      exact zreti E hw hr hlk (rt_1 hf) rfl dX8_tokenOf_29
  · replace hf := it_t (b2i_n h) hf
    refine lv_aload_n hx hb dX8_tokenOf_8 rfl (lv_at hl 0 rfl) ?_
    refine lv_iload_n hx hb dX8_tokenOf_9 rfl (lv_at hl 1 rfl) ?_
    refine lv_iload_n hx hb dX8_tokenOf_10 rfl (lv_at hl 2 rfl) ?_
    obtain ⟨vq5, hc, hf⟩ := bd_e hf
    refine zcali hw (va_runV (As := [.int xq1, .int xq2]) (rest := []) E.fix (c_X8_wordOf (l := l) hA xq1 xq2 σ hc) (zcV E k3_152 k1_2 k3_149 k3_151 kp1_10 mf_X8_wordOf rfl rfl ⟨Nat.le_of_ble_eq_true rfl, Nat.le_of_ble_eq_true rfl⟩) (zPreV E hw (Nat.le_of_ble_eq_true rfl) (ceC_67 ad cy _) rfl _) rfl rfl hl.1 rfl (lv_room (Nat.le_of_ble_eq_true rfl)) dX8_tokenOf_11 ⟨Nat.zero_le _, Nat.zero_le _⟩) (fun H locs hw => ?_)
    exact zreti E hw hr hlk (rt_1 hf) rfl dX8_tokenOf_14
set_option maxRecDepth 100000 in
set_option maxHeartbeats 4000000 in
theorem c_X8_readTokens {l : Launch} {D : va_G} {cy : Cy} {ad : Nat → Nat} {A : Nat → Prop} (hA : okAd 97 ad A) (σ : Sg) {σ9 : Sg} (hf : f_X8_readTokens σ = some σ9) : Met l yX8_readTokens (.code yX8_readTokens cX8_readTokens 2 none :: TT) ({ frames := 8, cells := 0, slots := 0, locals := 349 } : Room) (zPc D cy 97 (celC ad cy) ad A [.ref (ad 67)] σ) (zQv D 97 (celC ad cy) ad A σ9) 0 0 A := by
  refine zofW (by decide) hA (Nat.le_of_ble_eq_true rfl) ?_
  intro p e s m args below meth c ls E hw hr hlk hl
  have E : ZE p s m args c cX8_readTokens 2 "KiteSummons$RuleReader" D cy 97 ad A := E
  have hx := E.hx
  have hb := E.hb
  have hl : lv_has ls 2 [(0, .ref (ad 67))] := hl
  have hB41 : ∀ (xq1 : Int32) (kq7 : Int32 → Sg → Option Sg) (hkq7 : ∀ (xq1 : Int32) (σ : Sg) (H : Heap) (locs : List Loc) (ls : Array Slot), ZS D 97 (celC ad cy) ad A s σ H locs → lv_has ls 2 [(0, .ref (ad 67)), (1, .int xq1)] → kq7 xq1 σ = some σ9 → W p l e ({ frames := 8, cells := 0, slots := 0, locals := 349 } : Room) s m args below meth c H locs 0 0 (MQ below (zQv D 97 (celC ad cy) ad A σ9) args s 0 0 A) (F0 m 7 ls [])) (σ : Sg) (H : Heap) (locs : List Loc) (ls : Array Slot), ZS D 97 (celC ad cy) ad A s σ H locs → lv_has ls 2 [(0, .ref (ad 67)), (1, .int xq1)] → f_X8_readTokens_b41 kq7 xq1 σ = some σ9 → W p l e ({ frames := 8, cells := 0, slots := 0, locals := 349 } : Room) s m args below meth c H locs 0 0 (MQ below (zQv D 97 (celC ad cy) ad A σ9) args s 0 0 A) (F0 m 41 ls []) := by
    intro xq1 kq7 hkq7 σ H locs ls hw hl hf
    unfold f_X8_readTokens_b41 at hf
    refine lv_aload_n hx hb dX8_readTokens_41 rfl (lv_at hl 0 rfl) ?_
    refine zget E hw (Nat.le_of_ble_eq_true rfl) (ceC_67 ad cy _) rfl inX8 2 (by decide) k1_78 (fun _ h => h) rfl dX8_readTokens_42 ?_
    refine lv_aload_n hx hb dX8_readTokens_45 rfl (lv_at hl 0 rfl) ?_
    refine zget E hw (Nat.le_of_ble_eq_true rfl) (ceC_67 ad cy _) rfl inX8 4 (by decide) k1_80 (fun _ h => h) rfl dX8_readTokens_46 ?_
    refine lv_aload_n hx hb dX8_readTokens_49 rfl (lv_at hl 0 rfl) ?_
    refine lv_iload_n hx hb dX8_readTokens_50 rfl (lv_at hl 1 rfl) ?_
    refine lv_aload_n hx hb dX8_readTokens_51 rfl (lv_at hl 0 rfl) ?_
    refine lv_iload_n hx hb dX8_readTokens_52 rfl (lv_at hl 1 rfl) ?_
    obtain ⟨vq6, hc, hf⟩ := bd_e hf
    refine zcali hw (va_runV (As := [.int xq1]) (rest := [.int xq1, .ref (ad 67), .int (σ 67 4), .ref (ad 69)]) E.fix (c_X8_endOfRow (l := l) hA xq1 σ hc) (zcV E k3_144 k1_2 k3_141 k3_143 kp1_8 mf_X8_endOfRow rfl rfl ⟨Nat.le_of_ble_eq_true rfl, Nat.le_of_ble_eq_true rfl⟩) (zPreV E hw (Nat.le_of_ble_eq_true rfl) (ceC_67 ad cy _) rfl _) rfl rfl hl.1 rfl (lv_room (Nat.le_of_ble_eq_true rfl)) dX8_readTokens_53 ⟨Nat.zero_le _, Nat.zero_le _⟩) (fun H locs hw => ?_)
    obtain ⟨vq7, hc, hf⟩ := bd_e hf
    refine zcali hw (va_runV (As := [.int xq1, .int vq6]) (rest := [.int (σ 67 4), .ref (ad 69)]) E.fix (c_X8_tokenOf (l := l) hA xq1 vq6 σ hc) (zcV E k3_148 k1_2 k3_145 k3_147 kp1_9 mf_X8_tokenOf rfl rfl ⟨Nat.le_of_ble_eq_true rfl, Nat.le_of_ble_eq_true rfl⟩) (zPreV E hw (Nat.le_of_ble_eq_true rfl) (ceC_67 ad cy _) rfl _) rfl rfl hl.1 rfl (lv_room (Nat.le_of_ble_eq_true rfl)) dX8_readTokens_56 ⟨Nat.zero_le _, Nat.zero_le _⟩) (fun H locs hw => ?_)
    obtain ⟨σ8, hσ8, hf⟩ := bd_e hf
    refine zastr E hw (Nat.le_of_ble_eq_true rfl) (ceC_69 ad cy) hσ8 dX8_readTokens_59 (fun H locs hw => ?_)
    refine lv_aload_n hx hb dX8_readTokens_60 rfl (lv_at hl 0 rfl) ?_
    refine zget E hw (Nat.le_of_ble_eq_true rfl) (ceC_67 ad cy _) rfl inX8 3 (by decide) k1_79 (fun _ h => h) rfl dX8_readTokens_61 ?_
    refine lv_aload_n hx hb dX8_readTokens_64 rfl (lv_at hl 0 rfl) ?_
    refine zget E hw (Nat.le_of_ble_eq_true rfl) (ceC_67 ad cy _) rfl inX8 4 (by decide) k1_80 (fun _ h => h) rfl dX8_readTokens_65 ?_
    refine lv_iload_n hx hb dX8_readTokens_68 rfl (lv_at hl 1 rfl) ?_
    obtain ⟨σ9, hσ9, hf⟩ := bd_e hf
    refine zastr E hw (Nat.le_of_ble_eq_true rfl) (ceC_70 ad cy) hσ9 dX8_readTokens_69 (fun H locs hw => ?_)
    refine lv_aload_n hx hb dX8_readTokens_70 rfl (lv_at hl 0 rfl) ?_
    refine lv_dup hx hb dX8_readTokens_71 rfl ?_
    refine zget E hw (Nat.le_of_ble_eq_true rfl) (ceC_67 ad cy _) rfl inX8 4 (by decide) k1_80 (fun _ h => h) rfl dX8_readTokens_72 ?_
    refine lv_iconst (v := 1) hx hb dX8_readTokens_75 (by decide) ?_
    refine lv_iadd hx hb dX8_readTokens_76 ?_
    refine zputs E hw (Nat.le_of_ble_eq_true rfl) (ceC_67 ad cy _) rfl inX8 tyX8 tyX8_ok nmX8 4 (by decide) k1_80 (fun _ h => h) rfl rfl rfl (Nat.le_of_ble_eq_true rfl) (j := 4) (Eq.trans (ceC_67 ad cy _) (by rfl)) dX8_readTokens_77 (fun σ10 eσ10 H locs hw => ?_)
    replace hf := lt_i eσ10 hf
    refine lv_iinc (v := (xq1 + 1)) (lv' := [(1, .int (xq1 + 1)), (0, .ref (ad 67))]) hx hb dX8_readTokens_80 hl (k := 1) rfl (by rfl) (by decide) rfl (fun ls hl => ?_)
    refine lv_goto (tgt := 7) hx hb dX8_readTokens_83 (by decide) ?_
    exact hkq7 (xq1 + 1) σ10 _ _ _ hw (lv_sub hl [1, 0] rfl) hf
  have hB7 : ∀ (kq7 : Int32 → Sg → Option Sg) (hkq7 : ∀ (xq1 : Int32) (σ : Sg) (H : Heap) (locs : List Loc) (ls : Array Slot), ZS D 97 (celC ad cy) ad A s σ H locs → lv_has ls 2 [(0, .ref (ad 67)), (1, .int xq1)] → kq7 xq1 σ = some σ9 → W p l e ({ frames := 8, cells := 0, slots := 0, locals := 349 } : Room) s m args below meth c H locs 0 0 (MQ below (zQv D 97 (celC ad cy) ad A σ9) args s 0 0 A) (F0 m 7 ls [])) (xq1 : Int32) (σ : Sg) (H : Heap) (locs : List Loc) (ls : Array Slot), ZS D 97 (celC ad cy) ad A s σ H locs → lv_has ls 2 [(0, .ref (ad 67)), (1, .int xq1)] → f_X8_readTokens_b7 kq7 xq1 σ = some σ9 → W p l e ({ frames := 8, cells := 0, slots := 0, locals := 349 } : Room) s m args below meth c H locs 0 0 (MQ below (zQv D 97 (celC ad cy) ad A σ9) args s 0 0 A) (F0 m 7 ls []) := by
    intro kq7 hkq7 xq1 σ H locs ls hw hl hf
    unfold f_X8_readTokens_b7 at hf
    refine lv_iload_n hx hb dX8_readTokens_7 rfl (lv_at hl 1 rfl) ?_
    refine lv_aload_n hx hb dX8_readTokens_8 rfl (lv_at hl 0 rfl) ?_
    refine zget E hw (Nat.le_of_ble_eq_true rfl) (ceC_67 ad cy _) rfl inX8 0 (by decide) k1_75 (fun _ h => h) rfl dX8_readTokens_9 ?_
    refine lv_icmp_ge (tgt := 86) hx hb dX8_readTokens_12 (by decide) (fun h => ?_) (fun h => ?_)
    · replace hf := it_t h hf
      refine lv_aload_n hx hb dX8_readTokens_86 rfl (lv_at hl 0 rfl) ?_
      refine zget E hw (Nat.le_of_ble_eq_true rfl) (ceC_67 ad cy _) rfl inX8 2 (by decide) k1_78 (fun _ h => h) rfl dX8_readTokens_87 ?_
      refine lv_aload_n hx hb dX8_readTokens_90 rfl (lv_at hl 0 rfl) ?_
      refine zget E hw (Nat.le_of_ble_eq_true rfl) (ceC_67 ad cy _) rfl inX8 4 (by decide) k1_80 (fun _ h => h) rfl dX8_readTokens_91 ?_
      refine lv_bipush (v := 27) hx hb dX8_readTokens_94 (by decide) ?_
      obtain ⟨σ2, hσ2, hf⟩ := bd_e hf
      refine zastr E hw (Nat.le_of_ble_eq_true rfl) (ceC_69 ad cy) hσ2 dX8_readTokens_96 (fun H locs hw => ?_)
      refine lv_aload_n hx hb dX8_readTokens_97 rfl (lv_at hl 0 rfl) ?_
      refine zget E hw (Nat.le_of_ble_eq_true rfl) (ceC_67 ad cy _) rfl inX8 3 (by decide) k1_79 (fun _ h => h) rfl dX8_readTokens_98 ?_
      refine lv_aload_n hx hb dX8_readTokens_101 rfl (lv_at hl 0 rfl) ?_
      refine zget E hw (Nat.le_of_ble_eq_true rfl) (ceC_67 ad cy _) rfl inX8 4 (by decide) k1_80 (fun _ h => h) rfl dX8_readTokens_102 ?_
      refine lv_aload_n hx hb dX8_readTokens_105 rfl (lv_at hl 0 rfl) ?_
      refine zget E hw (Nat.le_of_ble_eq_true rfl) (ceC_67 ad cy _) rfl inX8 0 (by decide) k1_75 (fun _ h => h) rfl dX8_readTokens_106 ?_
      obtain ⟨σ3, hσ3, hf⟩ := bd_e hf
      refine zastr E hw (Nat.le_of_ble_eq_true rfl) (ceC_70 ad cy) hσ3 dX8_readTokens_109 (fun H locs hw => ?_)
      exact zretv E hw hr hlk (rt_1 hf) dX8_readTokens_110
    · replace hf := it_f h hf
      refine lv_aload_n hx hb dX8_readTokens_15 rfl (lv_at hl 0 rfl) ?_
      refine zget E hw (Nat.le_of_ble_eq_true rfl) (ceC_67 ad cy _) rfl inX8 1 (by decide) k1_77 (fun _ h => h) rfl dX8_readTokens_16 ?_
      refine lv_iload_n hx hb dX8_readTokens_19 rfl (lv_at hl 1 rfl) ?_
      obtain ⟨vq4, hvq4, hf⟩ := bd_e hf
      refine zbaldr E hw (Nat.le_of_ble_eq_true rfl) (ceC_68 ad cy) hvq4 dX8_readTokens_20 ?_
      refine lv_bipush (v := 32) hx hb dX8_readTokens_21 (by decide) ?_
      refine lv_icmp_eq (tgt := 80) hx hb dX8_readTokens_23 (by decide) (fun h => ?_) (fun h => ?_)
      · replace hf := it_t h hf
        refine lv_iinc (v := (xq1 + 1)) (lv' := [(1, .int (xq1 + 1)), (0, .ref (ad 67))]) hx hb dX8_readTokens_80 hl (k := 1) rfl (by rfl) (by decide) rfl (fun ls hl => ?_)
        refine lv_goto (tgt := 7) hx hb dX8_readTokens_83 (by decide) ?_
        exact hkq7 (xq1 + 1) σ _ _ _ hw (lv_sub hl [1, 0] rfl) hf
      · replace hf := it_f h hf
        refine lv_iload_n hx hb dX8_readTokens_26 rfl (lv_at hl 1 rfl) ?_
        refine lv_if_le (tgt := 41) hx hb dX8_readTokens_27 (by decide) (fun h => ?_) (fun h => ?_)
        · replace hf := it_t h hf
          exact hB41 xq1 kq7 hkq7 σ _ _ _ hw (lv_sub hl [0, 1] rfl) hf
        · replace hf := it_f h hf
          refine lv_aload_n hx hb dX8_readTokens_30 rfl (lv_at hl 0 rfl) ?_
          refine lv_iload_n hx hb dX8_readTokens_31 rfl (lv_at hl 1 rfl) ?_
          refine lv_iconst (v := 1) hx hb dX8_readTokens_32 (by decide) ?_
          refine lv_isub hx hb dX8_readTokens_33 ?_
          refine lv_iload_n hx hb dX8_readTokens_34 rfl (lv_at hl 1 rfl) ?_
          obtain ⟨vq5, hc, hf⟩ := bd_e hf
          refine zcali hw (va_runV (As := [.int (xq1 - 1), .int xq1]) (rest := []) E.fix (c_X8_isOneRow (l := l) hA (xq1 - 1) xq1 σ hc) (zcV E k3_131 k1_2 k3_128 k3_130 kp1_5 mf_X8_isOneRow rfl rfl ⟨Nat.le_of_ble_eq_true rfl, Nat.le_of_ble_eq_true rfl⟩) (zPreV E hw (Nat.le_of_ble_eq_true rfl) (ceC_67 ad cy _) rfl _) rfl rfl hl.1 rfl (lv_room (Nat.le_of_ble_eq_true rfl)) dX8_readTokens_35 ⟨Nat.zero_le _, Nat.zero_le _⟩) (fun H locs hw => ?_)
          refine lv_if_ne (tgt := 80) hx hb dX8_readTokens_38 (by decide) (fun h => ?_) (fun h => ?_)
          · replace hf := it_t (b2i_n h) hf
            refine lv_iinc (v := (xq1 + 1)) (lv' := [(1, .int (xq1 + 1)), (0, .ref (ad 67))]) hx hb dX8_readTokens_80 hl (k := 1) rfl (by rfl) (by decide) rfl (fun ls hl => ?_)
            refine lv_goto (tgt := 7) hx hb dX8_readTokens_83 (by decide) ?_
            exact hkq7 (xq1 + 1) σ _ _ _ hw (lv_sub hl [1, 0] rfl) hf
          · replace hf := it_f (b2i_0 h) hf
            exact hB41 xq1 kq7 hkq7 σ _ _ _ hw (lv_sub hl [0, 1] rfl) hf
  have hL7 : ∀ (n : Nat) (xq1 : Int32) (σ : Sg) (H : Heap) (locs : List Loc) (ls : Array Slot), ZS D 97 (celC ad cy) ad A s σ H locs → lv_has ls 2 [(0, .ref (ad 67)), (1, .int xq1)] → f_X8_readTokens_l7 n xq1 σ = some σ9 → W p l e ({ frames := 8, cells := 0, slots := 0, locals := 349 } : Room) s m args below meth c H locs 0 0 (MQ below (zQv D 97 (celC ad cy) ad A σ9) args s 0 0 A) (F0 m 7 ls []) := by
    intro n
    induction n with
    | zero =>
      intro xq1 σ H locs ls hw hl hf
      exact nn_e hf
    | succ n ih =>
      intro xq1 σ H locs ls hw hl hf
      exact hB7 (f_X8_readTokens_l7 n) ih xq1 σ H locs ls hw hl hf
  unfold f_X8_readTokens at hf
  refine lv_aload_n hx hb dX8_readTokens_0 rfl (lv_at hl 0 rfl) ?_
  refine lv_iconst (v := 0) hx hb dX8_readTokens_1 (by decide) ?_
  refine zputs E hw (Nat.le_of_ble_eq_true rfl) (ceC_67 ad cy _) rfl inX8 tyX8 tyX8_ok nmX8 4 (by decide) k1_80 (fun _ h => h) rfl rfl rfl (Nat.le_of_ble_eq_true rfl) (j := 4) (Eq.trans (ceC_67 ad cy _) (by rfl)) dX8_readTokens_2 (fun σ1 eσ1 H locs hw => ?_)
  replace hf := lt_i eσ1 hf
  refine lv_iconst (v := 0) hx hb dX8_readTokens_5 (by decide) ?_
  refine lv_istore_n (lv' := [(1, .int 0), (0, .ref (ad 67))]) hx hb dX8_readTokens_6 rfl hl (by decide) rfl (fun ls hl => ?_)
  exact hL7 400 0 σ1 _ _ _ hw (lv_sub hl [1, 0] rfl) hf
set_option maxRecDepth 100000 in
set_option maxHeartbeats 4000000 in
theorem c_X9_clear {l : Launch} {D : va_G} {cy : Cy} {ad : Nat → Nat} {A : Nat → Prop} (hA : okAd 97 ad A) (σ : Sg) {σ9 : Sg} (hf : f_X9_clear σ = σ9) : Met l yX9_clear (.code yX9_clear cX9_clear 1 none :: TT) ({ frames := 0, cells := 0, slots := 0, locals := 0 } : Room) (zPc D cy 97 (celC ad cy) ad A [.ref (ad 71)] σ) (zQv D 97 (celC ad cy) ad A σ9) 0 0 A := by
  refine zofW (by decide) hA (Nat.le_of_ble_eq_true rfl) ?_
  intro p e s m args below meth c ls E hw hr hlk hl
  have E : ZE p s m args c cX9_clear 1 "KiteSummons$Rules" D cy 97 ad A := E
  have hx := E.hx
  have hb := E.hb
  have hl : lv_has ls 1 [(0, .ref (ad 71))] := hl
  unfold f_X9_clear at hf
  refine lv_aload_n hx hb dX9_clear_0 rfl (lv_at hl 0 rfl) ?_
  refine lv_iconst (v := 0) hx hb dX9_clear_1 (by decide) ?_
  refine zputs E hw (Nat.le_of_ble_eq_true rfl) (ceC_71 ad cy _) rfl inX9 tyX9 tyX9_ok nmX9 0 (by decide) k1_44 (fun _ h => h) rfl rfl rfl (Nat.le_of_ble_eq_true rfl) (j := 0) (Eq.trans (ceC_71 ad cy _) (by rfl)) dX9_clear_2 (fun σ1 eσ1 H locs hw => ?_)
  replace hf := lt_i eσ1 hf
  refine lv_aload_n hx hb dX9_clear_5 rfl (lv_at hl 0 rfl) ?_
  refine lv_iconst (v := 0) hx hb dX9_clear_6 (by decide) ?_
  refine zputs E hw (Nat.le_of_ble_eq_true rfl) (ceC_71 ad cy _) rfl inX9 tyX9 tyX9_ok nmX9 1 (by decide) k1_47 (fun _ h => h) rfl rfl rfl (Nat.le_of_ble_eq_true rfl) (j := 1) (Eq.trans (ceC_71 ad cy _) (by rfl)) dX9_clear_7 (fun σ2 eσ2 H locs hw => ?_)
  replace hf := lt_i eσ2 hf
  exact zretv E hw hr hlk hf dX9_clear_10
set_option maxRecDepth 100000 in
set_option maxHeartbeats 4000000 in
theorem c_X8_isStill {l : Launch} {D : va_G} {cy : Cy} {ad : Nat → Nat} {A : Nat → Prop} (hA : okAd 97 ad A) (σ : Sg) {r : Bool} (hf : f_X8_isStill σ = r) : Met l yX8_isStill (.code yX8_isStill cX8_isStill 1 (some .boolean) :: TT) ({ frames := 0, cells := 0, slots := 0, locals := 0 } : Room) (zPc D cy 97 (celC ad cy) ad A [.ref (ad 67)] σ) (zQi D 97 (celC ad cy) ad A (b2i r) σ) 0 0 A := by
  refine zofW (by decide) hA (Nat.le_of_ble_eq_true rfl) ?_
  intro p e s m args below meth c ls E hw hr hlk hl
  have E : ZE p s m args c cX8_isStill 1 "KiteSummons$RuleReader" D cy 97 ad A := E
  have hx := E.hx
  have hb := E.hb
  have hl : lv_has ls 1 [(0, .ref (ad 67))] := hl
  unfold f_X8_isStill at hf
  refine lv_aload_n hx hb dX8_isStill_0 rfl (lv_at hl 0 rfl) ?_
  refine zget E hw (Nat.le_of_ble_eq_true rfl) (ceC_67 ad cy _) rfl inX8 6 (by decide) k1_82 (fun _ h => h) rfl dX8_isStill_1 ?_
  refine lv_iconst (v := (-1)) hx hb dX8_isStill_4 (by decide) ?_
  refine lv_icmp_ne (tgt := 12) hx hb dX8_isStill_5 (by decide) (fun h => ?_) (fun h => ?_)
  · replace hf := it_t h hf
    refine lv_iconst (v := 0) hx hb dX8_isStill_12 (by decide) ?_
    exact zretz E hw hr hlk (b_e hf (by rfl)) rfl dX8_isStill_13
  · replace hf := it_n h hf
    refine lv_iconst (v := 1) hx hb dX8_isStill_8 (by decide) ?_
    refine lv_goto (tgt := 13) hx hb dX8_isStill_9 (by decide) ?_
    exact zretz E hw hr hlk (b_e hf (by rfl)) rfl dX8_isStill_13
set_option maxRecDepth 100000 in
set_option maxHeartbeats 4000000 in
theorem c_X8_token {l : Launch} {D : va_G} {cy : Cy} {ad : Nat → Nat} {A : Nat → Prop} (hA : okAd 97 ad A) (σ : Sg) {r : Int32} (hf : f_X8_token σ = some r) : Met l yX8_token (.code yX8_token cX8_token 1 (some .int) :: TT) ({ frames := 0, cells := 0, slots := 0, locals := 0 } : Room) (zPc D cy 97 (celC ad cy) ad A [.ref (ad 67)] σ) (zQi D 97 (celC ad cy) ad A r σ) 0 0 A := by
  refine zofW (by decide) hA (Nat.le_of_ble_eq_true rfl) ?_
  intro p e s m args below meth c ls E hw hr hlk hl
  have E : ZE p s m args c cX8_token 1 "KiteSummons$RuleReader" D cy 97 ad A := E
  have hx := E.hx
  have hb := E.hb
  have hl : lv_has ls 1 [(0, .ref (ad 67))] := hl
  unfold f_X8_token at hf
  refine lv_aload_n hx hb dX8_token_0 rfl (lv_at hl 0 rfl) ?_
  refine zget E hw (Nat.le_of_ble_eq_true rfl) (ceC_67 ad cy _) rfl inX8 2 (by decide) k1_78 (fun _ h => h) rfl dX8_token_1 ?_
  refine lv_aload_n hx hb dX8_token_4 rfl (lv_at hl 0 rfl) ?_
  refine zget E hw (Nat.le_of_ble_eq_true rfl) (ceC_67 ad cy _) rfl inX8 5 (by decide) k1_81 (fun _ h => h) rfl dX8_token_5 ?_
  obtain ⟨vq1, hvq1, hf⟩ := bd_e hf
  refine zaldr E hw (Nat.le_of_ble_eq_true rfl) (ceC_69 ad cy) hvq1 dX8_token_8 ?_
  exact zreti E hw hr hlk (rt_1 hf) rfl dX8_token_9
set_option maxRecDepth 100000 in
set_option maxHeartbeats 4000000 in
theorem c_X8_pass {l : Launch} {D : va_G} {cy : Cy} {ad : Nat → Nat} {A : Nat → Prop} (hA : okAd 97 ad A) (xq1 : Int32) (σ : Sg) {σ9 : Sg} (hf : f_X8_pass xq1 σ = some σ9) : Met l yX8_pass (.code yX8_pass cX8_pass 2 none :: TT) ({ frames := 0, cells := 0, slots := 0, locals := 0 } : Room) (zPc D cy 97 (celC ad cy) ad A [.ref (ad 67), .int xq1] σ) (zQv D 97 (celC ad cy) ad A σ9) 0 0 A := by
  refine zofW (by decide) hA (Nat.le_of_ble_eq_true rfl) ?_
  intro p e s m args below meth c ls E hw hr hlk hl
  have E : ZE p s m args c cX8_pass 2 "KiteSummons$RuleReader" D cy 97 ad A := E
  have hx := E.hx
  have hb := E.hb
  have hl : lv_has ls 2 [(0, .ref (ad 67)), (1, .int xq1)] := hl
  unfold f_X8_pass at hf
  refine lv_aload_n hx hb dX8_pass_0 rfl (lv_at hl 0 rfl) ?_
  refine zget E hw (Nat.le_of_ble_eq_true rfl) (ceC_67 ad cy _) rfl inX8 6 (by decide) k1_82 (fun _ h => h) rfl dX8_pass_1 ?_
  refine lv_iconst (v := (-1)) hx hb dX8_pass_4 (by decide) ?_
  refine lv_icmp_eq (tgt := 9) hx hb dX8_pass_5 (by decide) (fun h => ?_) (fun h => ?_)
  · replace hf := it_t h hf
    refine lv_iload_n hx hb dX8_pass_9 rfl (lv_at hl 1 rfl) ?_
    refine lv_if_ne (tgt := 29) hx hb dX8_pass_10 (by decide) (fun h => ?_) (fun h => ?_)
    · replace hf := it_t h hf
      refine lv_aload_n hx hb dX8_pass_29 rfl (lv_at hl 0 rfl) ?_
      refine zget E hw (Nat.le_of_ble_eq_true rfl) (ceC_67 ad cy _) rfl inX8 5 (by decide) k1_81 (fun _ h => h) rfl dX8_pass_30 ?_
      refine lv_aload_n hx hb dX8_pass_33 rfl (lv_at hl 0 rfl) ?_
      refine zget E hw (Nat.le_of_ble_eq_true rfl) (ceC_67 ad cy _) rfl inX8 4 (by decide) k1_80 (fun _ h => h) rfl dX8_pass_34 ?_
      refine lv_icmp_ge (tgt := 50) hx hb dX8_pass_37 (by decide) (fun h => ?_) (fun h => ?_)
      · replace hf := it_t h hf
        exact zretv E hw hr hlk (rt_1 hf) dX8_pass_50
      · replace hf := it_f h hf
        refine lv_aload_n hx hb dX8_pass_40 rfl (lv_at hl 0 rfl) ?_
        refine lv_dup hx hb dX8_pass_41 rfl ?_
        refine zget E hw (Nat.le_of_ble_eq_true rfl) (ceC_67 ad cy _) rfl inX8 5 (by decide) k1_81 (fun _ h => h) rfl dX8_pass_42 ?_
        refine lv_iconst (v := 1) hx hb dX8_pass_45 (by decide) ?_
        refine lv_iadd hx hb dX8_pass_46 ?_
        refine zputs E hw (Nat.le_of_ble_eq_true rfl) (ceC_67 ad cy _) rfl inX8 tyX8 tyX8_ok nmX8 5 (by decide) k1_81 (fun _ h => h) rfl rfl rfl (Nat.le_of_ble_eq_true rfl) (j := 5) (Eq.trans (ceC_67 ad cy _) (by rfl)) dX8_pass_47 (fun σ1 eσ1 H locs hw => ?_)
        replace hf := lt_i eσ1 hf
        exact zretv E hw hr hlk (rt_1 hf) dX8_pass_50
    · replace hf := it_n h hf
      refine lv_aload_n hx hb dX8_pass_13 rfl (lv_at hl 0 rfl) ?_
      refine lv_aload_n hx hb dX8_pass_14 rfl (lv_at hl 0 rfl) ?_
      refine zget E hw (Nat.le_of_ble_eq_true rfl) (ceC_67 ad cy _) rfl inX8 3 (by decide) k1_79 (fun _ h => h) rfl dX8_pass_15 ?_
      refine lv_aload_n hx hb dX8_pass_18 rfl (lv_at hl 0 rfl) ?_
      refine zget E hw (Nat.le_of_ble_eq_true rfl) (ceC_67 ad cy _) rfl inX8 5 (by decide) k1_81 (fun _ h => h) rfl dX8_pass_19 ?_
      obtain ⟨vq2, hvq2, hf⟩ := bd_e hf
      refine zaldr E hw (Nat.le_of_ble_eq_true rfl) (ceC_70 ad cy) hvq2 dX8_pass_22 ?_
      refine zputs E hw (Nat.le_of_ble_eq_true rfl) (ceC_67 ad cy _) rfl inX8 tyX8 tyX8_ok nmX8 6 (by decide) k1_82 (fun _ h => h) rfl rfl rfl (Nat.le_of_ble_eq_true rfl) (j := 6) (Eq.trans (ceC_67 ad cy _) (by rfl)) dX8_pass_23 (fun σ3 eσ3 H locs hw => ?_)
      replace hf := lt_i eσ3 hf
      refine lv_goto (tgt := 50) hx hb dX8_pass_26 (by decide) ?_
      exact zretv E hw hr hlk (rt_1 hf) dX8_pass_50
  · replace hf := it_f h hf
    exact zretv E hw hr hlk (rt_1 hf) dX8_pass_8
set_option maxRecDepth 100000 in
set_option maxHeartbeats 4000000 in
theorem c_X8_isValue {l : Launch} {D : va_G} {cy : Cy} {ad : Nat → Nat} {A : Nat → Prop} (hA : okAd 97 ad A) (xq0 : Int32) (σ : Sg) {r : Bool} (hf : f_X8_isValue xq0 σ = r) : Met l yX8_isValue (.code yX8_isValue cX8_isValue 1 (some .boolean) :: TT) ({ frames := 0, cells := 0, slots := 0, locals := 0 } : Room) (zPc D cy 97 (celC ad cy) ad A [.int xq0] σ) (zQi D 97 (celC ad cy) ad A (b2i r) σ) 0 0 A := by
  refine zofW (by decide) hA (Nat.le_of_ble_eq_true rfl) ?_
  intro p e s m args below meth c ls E hw hr hlk hl
  have E : ZE p s m args c cX8_isValue 1 "KiteSummons$RuleReader" D cy 97 ad A := E
  have hx := E.hx
  have hb := E.hb
  have hl : lv_has ls 1 [(0, .int xq0)] := hl
  unfold f_X8_isValue at hf
  refine lv_iload_n hx hb dX8_isValue_0 rfl (lv_at hl 0 rfl) ?_
  refine lv_bipush (v := 100) hx hb dX8_isValue_1 (by decide) ?_
  refine lv_icmp_ge (tgt := 18) hx hb dX8_isValue_3 (by decide) (fun h => ?_) (fun h => ?_)
  · replace hf := it_t h hf
    refine lv_iconst (v := 1) hx hb dX8_isValue_18 (by decide) ?_
    refine lv_goto (tgt := 23) hx hb dX8_isValue_19 (by decide) ?_
    exact zretz E hw hr hlk (b_e hf (by rfl)) rfl dX8_isValue_23
  · replace hf := it_f h hf
    refine lv_iload_n hx hb dX8_isValue_6 rfl (lv_at hl 0 rfl) ?_
    refine lv_bipush (v := 9) hx hb dX8_isValue_7 (by decide) ?_
    refine lv_icmp_lt (tgt := 22) hx hb dX8_isValue_9 (by decide) (fun h => ?_) (fun h => ?_)
    · replace hf := it_t h hf
      refine lv_iconst (v := 0) hx hb dX8_isValue_22 (by decide) ?_
      exact zretz E hw hr hlk (b_e hf (by rfl)) rfl dX8_isValue_23
    · replace hf := it_f h hf
      refine lv_iload_n hx hb dX8_isValue_12 rfl (lv_at hl 0 rfl) ?_
      refine lv_bipush (v := 13) hx hb dX8_isValue_13 (by decide) ?_
      refine lv_icmp_gt (tgt := 22) hx hb dX8_isValue_15 (by decide) (fun h => ?_) (fun h => ?_)
      · replace hf := it_t h hf
        refine lv_iconst (v := 0) hx hb dX8_isValue_22 (by decide) ?_
        exact zretz E hw hr hlk (b_e hf (by rfl)) rfl dX8_isValue_23
      · replace hf := it_f h hf
        refine lv_iconst (v := 1) hx hb dX8_isValue_18 (by decide) ?_
        refine lv_goto (tgt := 23) hx hb dX8_isValue_19 (by decide) ?_
        exact zretz E hw hr hlk (b_e hf (by rfl)) rfl dX8_isValue_23
set_option maxRecDepth 100000 in
set_option maxHeartbeats 4000000 in
theorem c_X9_addCode {l : Launch} {D : va_G} {cy : Cy} {ad : Nat → Nat} {A : Nat → Prop} (hA : okAd 97 ad A) (xq1 : Int32) (σ : Sg) {σ9 : Sg} (hf : f_X9_addCode xq1 σ = some σ9) : Met l yX9_addCode (.code yX9_addCode cX9_addCode 2 none :: TT) ({ frames := 0, cells := 0, slots := 0, locals := 0 } : Room) (zPc D cy 97 (celC ad cy) ad A [.ref (ad 71), .int xq1] σ) (zQv D 97 (celC ad cy) ad A σ9) 0 0 A := by
  refine zofW (by decide) hA (Nat.le_of_ble_eq_true rfl) ?_
  intro p e s m args below meth c ls E hw hr hlk hl
  have E : ZE p s m args c cX9_addCode 2 "KiteSummons$Rules" D cy 97 ad A := E
  have hx := E.hx
  have hb := E.hb
  have hl : lv_has ls 2 [(0, .ref (ad 71)), (1, .int xq1)] := hl
  unfold f_X9_addCode at hf
  refine lv_aload_n hx hb dX9_addCode_0 rfl (lv_at hl 0 rfl) ?_
  refine zget E hw (Nat.le_of_ble_eq_true rfl) (ceC_71 ad cy _) rfl inX9 1 (by decide) k1_47 (fun _ h => h) rfl dX9_addCode_1 ?_
  refine lv_aload_n hx hb dX9_addCode_4 rfl (lv_at hl 0 rfl) ?_
  refine zget E hw (Nat.le_of_ble_eq_true rfl) (ceC_71 ad cy _) rfl inX9 6 (by decide) k1_53 (fun _ h => h) rfl dX9_addCode_5 ?_
  refine zalen (v := 200) E hw (Nat.le_of_ble_eq_true rfl) 1 rfl (ceC_76 ad cy _) (by rfl) dX9_addCode_8 ?_
  refine lv_icmp_ge (tgt := 32) hx hb dX9_addCode_9 (by decide) (fun h => ?_) (fun h => ?_)
  · replace hf := it_t h hf
    exact zretv E hw hr hlk (rt_1 hf) dX9_addCode_32
  · replace hf := it_f h hf
    refine lv_aload_n hx hb dX9_addCode_12 rfl (lv_at hl 0 rfl) ?_
    refine zget E hw (Nat.le_of_ble_eq_true rfl) (ceC_71 ad cy _) rfl inX9 6 (by decide) k1_53 (fun _ h => h) rfl dX9_addCode_13 ?_
    refine lv_aload_n hx hb dX9_addCode_16 rfl (lv_at hl 0 rfl) ?_
    refine zget E hw (Nat.le_of_ble_eq_true rfl) (ceC_71 ad cy _) rfl inX9 1 (by decide) k1_47 (fun _ h => h) rfl dX9_addCode_17 ?_
    refine lv_iload_n hx hb dX9_addCode_20 rfl (lv_at hl 1 rfl) ?_
    obtain ⟨σ1, hσ1, hf⟩ := bd_e hf
    refine zastr E hw (Nat.le_of_ble_eq_true rfl) (ceC_76 ad cy) hσ1 dX9_addCode_21 (fun H locs hw => ?_)
    refine lv_aload_n hx hb dX9_addCode_22 rfl (lv_at hl 0 rfl) ?_
    refine lv_dup hx hb dX9_addCode_23 rfl ?_
    refine zget E hw (Nat.le_of_ble_eq_true rfl) (ceC_71 ad cy _) rfl inX9 1 (by decide) k1_47 (fun _ h => h) rfl dX9_addCode_24 ?_
    refine lv_iconst (v := 1) hx hb dX9_addCode_27 (by decide) ?_
    refine lv_iadd hx hb dX9_addCode_28 ?_
    refine zputs E hw (Nat.le_of_ble_eq_true rfl) (ceC_71 ad cy _) rfl inX9 tyX9 tyX9_ok nmX9 1 (by decide) k1_47 (fun _ h => h) rfl rfl rfl (Nat.le_of_ble_eq_true rfl) (j := 1) (Eq.trans (ceC_71 ad cy _) (by rfl)) dX9_addCode_29 (fun σ2 eσ2 H locs hw => ?_)
    replace hf := lt_i eσ2 hf
    exact zretv E hw hr hlk (rt_1 hf) dX9_addCode_32
set_option maxRecDepth 100000 in
set_option maxHeartbeats 4000000 in
theorem c_X8_operandOf {l : Launch} {D : va_G} {cy : Cy} {ad : Nat → Nat} {A : Nat → Prop} (hA : okAd 97 ad A) (xq0 : Int32) (σ : Sg) {r : Int32} (hf : f_X8_operandOf xq0 σ = r) : Met l yX8_operandOf (.code yX8_operandOf cX8_operandOf 1 (some .int) :: TT) ({ frames := 0, cells := 0, slots := 0, locals := 0 } : Room) (zPc D cy 97 (celC ad cy) ad A [.int xq0] σ) (zQi D 97 (celC ad cy) ad A r σ) 0 0 A := by
  refine zofW (by decide) hA (Nat.le_of_ble_eq_true rfl) ?_
  intro p e s m args below meth c ls E hw hr hlk hl
  have E : ZE p s m args c cX8_operandOf 1 "KiteSummons$RuleReader" D cy 97 ad A := E
  have hx := E.hx
  have hb := E.hb
  have hl : lv_has ls 1 [(0, .int xq0)] := hl
  unfold f_X8_operandOf at hf
  refine lv_iload_n hx hb dX8_operandOf_0 rfl (lv_at hl 0 rfl) ?_
  refine lv_bipush (v := 100) hx hb dX8_operandOf_1 (by decide) ?_
  refine lv_icmp_lt (tgt := 13) hx hb dX8_operandOf_3 (by decide) (fun h => ?_) (fun h => ?_)
  · replace hf := it_t h hf
    refine lv_sipush (v := 10000) hx hb dX8_operandOf_13 (by decide) ?_
    refine lv_iload_n hx hb dX8_operandOf_16 rfl (lv_at hl 0 rfl) ?_
    refine lv_iadd hx hb dX8_operandOf_17 ?_
    refine lv_bipush (v := 9) hx hb dX8_operandOf_18 (by decide) ?_
    refine lv_isub hx hb dX8_operandOf_20 ?_
    exact zreti E hw hr hlk hf rfl dX8_operandOf_21
  · replace hf := it_f h hf
    refine lv_iload_n hx hb dX8_operandOf_6 rfl (lv_at hl 0 rfl) ?_
    refine lv_bipush (v := 100) hx hb dX8_operandOf_7 (by decide) ?_
    refine lv_isub hx hb dX8_operandOf_9 ?_
    refine lv_goto (tgt := 21) hx hb dX8_operandOf_10 (by decide) ?_
    exact zreti E hw hr hlk hf rfl dX8_operandOf_21
