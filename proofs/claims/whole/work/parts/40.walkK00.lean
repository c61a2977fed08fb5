set_option maxRecDepth 100000 in
set_option maxHeartbeats 4000000 in
theorem c_X4_drifts_p3 {l : Launch} {D : va_G} {cy : Cy} {ad : Nat → Nat} {A : Nat → Prop} (hA : okAd 97 ad A) (xq1 : Int32) (xq2 : Int32) (σ : Sg) {r : Int32} (hf : f_X4_drifts_p3 xq1 xq2 σ = r) : Met l yX4_drifts (.code yX4_drifts cX4_drifts 3 (some .int) :: TT) ({ frames := 0, cells := 0, slots := 0, locals := 0 } : Room) (zPc D cy 97 (celC ad cy) ad A [.ref (ad 3), .int xq1, .int xq2] σ) (zQi D 97 (celC ad cy) ad A r σ) 0 0 A := by
  refine zofW (by decide) hA (Nat.le_of_ble_eq_true rfl) ?_
  intro p e s m args below meth c ls E hw hr hlk hl
  have E : ZE p s m args c cX4_drifts 3 "KiteSummons$Kite" D cy 97 ad A := E
  have hx := E.hx
  have hb := E.hb
  have hl : lv_has ls 3 [(0, .ref (ad 3)), (1, .int xq1), (2, .int xq2)] := hl
  unfold f_X4_drifts_p3 at hf
  refine lv_iload_n hx hb dX4_drifts_0 rfl (lv_at hl 1 rfl) ?_
  exact zreti E hw hr hlk hf rfl dX4_drifts_1
set_option maxRecDepth 100000 in
set_option maxHeartbeats 4000000 in
theorem c_X4_drifts_p4 {l : Launch} {D : va_G} {cy : Cy} {ad : Nat → Nat} {A : Nat → Prop} (hA : okAd 97 ad A) (xq1 : Int32) (xq2 : Int32) (σ : Sg) {r : Int32} (hf : f_X4_drifts_p4 xq1 xq2 σ = r) : Met l yX4_drifts (.code yX4_drifts cX4_drifts 3 (some .int) :: TT) ({ frames := 0, cells := 0, slots := 0, locals := 0 } : Room) (zPc D cy 97 (celC ad cy) ad A [.ref (ad 4), .int xq1, .int xq2] σ) (zQi D 97 (celC ad cy) ad A r σ) 0 0 A := by
  refine zofW (by decide) hA (Nat.le_of_ble_eq_true rfl) ?_
  intro p e s m args below meth c ls E hw hr hlk hl
  have E : ZE p s m args c cX4_drifts 3 "KiteSummons$Kite" D cy 97 ad A := E
  have hx := E.hx
  have hb := E.hb
  have hl : lv_has ls 3 [(0, .ref (ad 4)), (1, .int xq1), (2, .int xq2)] := hl
  unfold f_X4_drifts_p4 at hf
  refine lv_iload_n hx hb dX4_drifts_0 rfl (lv_at hl 1 rfl) ?_
  exact zreti E hw hr hlk hf rfl dX4_drifts_1
set_option maxRecDepth 100000 in
set_option maxHeartbeats 4000000 in
theorem c_X7_drifts_p4 {l : Launch} {D : va_G} {cy : Cy} {ad : Nat → Nat} {A : Nat → Prop} (hA : okAd 97 ad A) (xq1 : Int32) (xq2 : Int32) (σ : Sg) {r : Int32} (hf : f_X7_drifts_p4 xq1 xq2 σ = r) : Met l yX7_drifts (.code yX7_drifts cX7_drifts 3 (some .int) :: TT) ({ frames := 1, cells := 0, slots := 0, locals := 22 } : Room) (zPc D cy 97 (celC ad cy) ad A [.ref (ad 4), .int xq1, .int xq2] σ) (zQi D 97 (celC ad cy) ad A r σ) 0 0 A := by
  refine zofW (by decide) hA (Nat.le_of_ble_eq_true rfl) ?_
  intro p e s m args below meth c ls E hw hr hlk hl
  have E : ZE p s m args c cX7_drifts 3 "KiteSummons$Red" D cy 97 ad A := E
  have hx := E.hx
  have hb := E.hb
  have hl : lv_has ls 3 [(0, .ref (ad 4)), (1, .int xq1), (2, .int xq2)] := hl
  unfold f_X7_drifts_p4 at hf
  refine lv_iconst (v := 2) hx hb dX7_drifts_0 (by decide) ?_
  refine lv_aload_n hx hb dX7_drifts_1 rfl (lv_at hl 0 rfl) ?_
  refine lv_iload_n hx hb dX7_drifts_2 rfl (lv_at hl 1 rfl) ?_
  refine lv_iload_n hx hb dX7_drifts_3 rfl (lv_at hl 2 rfl) ?_
  refine zcali hw (va_runSU (As := [.int xq1, .int xq2]) (rest := [.int 2]) (E.hK.1 7 _ rfl).2 E.fix (c_X4_drifts_p4 (l := l) hA xq1 xq2 σ rfl) (zcSU E k2_237 k1_5 k2_236 k2_208 k2_210 k1_186 mfs_X4_drifts rfl rfl ⟨Nat.le_of_ble_eq_true rfl, Nat.le_of_ble_eq_true rfl⟩) (zPreV E hw (Nat.le_of_ble_eq_true rfl) (ceC_4 ad cy _) rfl _) rfl rfl hl.1 rfl (lv_room (Nat.le_of_ble_eq_true rfl)) dX7_drifts_4 ⟨Nat.zero_le _, Nat.zero_le _⟩) (fun H locs hw => ?_)
  refine lv_imul hx hb dX7_drifts_7 ?_
  exact zreti E hw hr hlk hf rfl dX7_drifts_8
set_option maxRecDepth 100000 in
set_option maxHeartbeats 4000000 in
theorem c_X4_drifts_p5 {l : Launch} {D : va_G} {cy : Cy} {ad : Nat → Nat} {A : Nat → Prop} (hA : okAd 97 ad A) (xq1 : Int32) (xq2 : Int32) (σ : Sg) {r : Int32} (hf : f_X4_drifts_p5 xq1 xq2 σ = r) : Met l yX4_drifts (.code yX4_drifts cX4_drifts 3 (some .int) :: TT) ({ frames := 0, cells := 0, slots := 0, locals := 0 } : Room) (zPc D cy 97 (celC ad cy) ad A [.ref (ad 5), .int xq1, .int xq2] σ) (zQi D 97 (celC ad cy) ad A r σ) 0 0 A := by
  refine zofW (by decide) hA (Nat.le_of_ble_eq_true rfl) ?_
  intro p e s m args below meth c ls E hw hr hlk hl
  have E : ZE p s m args c cX4_drifts 3 "KiteSummons$Kite" D cy 97 ad A := E
  have hx := E.hx
  have hb := E.hb
  have hl : lv_has ls 3 [(0, .ref (ad 5)), (1, .int xq1), (2, .int xq2)] := hl
  unfold f_X4_drifts_p5 at hf
  refine lv_iload_n hx hb dX4_drifts_0 rfl (lv_at hl 1 rfl) ?_
  exact zreti E hw hr hlk hf rfl dX4_drifts_1
set_option maxRecDepth 100000 in
set_option maxHeartbeats 4000000 in
theorem c_X2_drifts_p5 {l : Launch} {D : va_G} {cy : Cy} {ad : Nat → Nat} {A : Nat → Prop} (hA : okAd 97 ad A) (xq1 : Int32) (xq2 : Int32) (σ : Sg) {r : Int32} (hf : f_X2_drifts_p5 xq1 xq2 σ = r) : Met l yX2_drifts (.code yX2_drifts cX2_drifts 3 (some .int) :: TT) ({ frames := 1, cells := 0, slots := 0, locals := 22 } : Room) (zPc D cy 97 (celC ad cy) ad A [.ref (ad 5), .int xq1, .int xq2] σ) (zQi D 97 (celC ad cy) ad A r σ) 0 0 A := by
  refine zofW (by decide) hA (Nat.le_of_ble_eq_true rfl) ?_
  intro p e s m args below meth c ls E hw hr hlk hl
  have E : ZE p s m args c cX2_drifts 3 "KiteSummons$Heavy" D cy 97 ad A := E
  have hx := E.hx
  have hb := E.hb
  have hl : lv_has ls 3 [(0, .ref (ad 5)), (1, .int xq1), (2, .int xq2)] := hl
  unfold f_X2_drifts_p5 at hf
  refine lv_iconst (v := 0) hx hb dX2_drifts_0 (by decide) ?_
  refine lv_aload_n hx hb dX2_drifts_1 rfl (lv_at hl 0 rfl) ?_
  refine lv_iload_n hx hb dX2_drifts_2 rfl (lv_at hl 1 rfl) ?_
  refine lv_iload_n hx hb dX2_drifts_3 rfl (lv_at hl 2 rfl) ?_
  refine zcali hw (va_runSU (As := [.int xq1, .int xq2]) (rest := [.int 0]) (E.hK.1 2 _ rfl).2 E.fix (c_X4_drifts_p5 (l := l) hA xq1 xq2 σ rfl) (zcSU E k2_237 k1_5 k2_221 k2_208 k2_210 k1_198 mfs_X4_drifts rfl rfl ⟨Nat.le_of_ble_eq_true rfl, Nat.le_of_ble_eq_true rfl⟩) (zPreV E hw (Nat.le_of_ble_eq_true rfl) (ceC_5 ad cy _) rfl _) rfl rfl hl.1 rfl (lv_room (Nat.le_of_ble_eq_true rfl)) dX2_drifts_4 ⟨Nat.zero_le _, Nat.zero_le _⟩) (fun H locs hw => ?_)
  refine lv_iconst (v := 1) hx hb dX2_drifts_7 (by decide) ?_
  refine lv_isub hx hb dX2_drifts_8 ?_
  refine zmmax E hl.1 (E.ht _ k2_222) (E.ht _ k2_223) (E.ht _ k1_15) (E.ht _ k2_224) (Nat.le_of_ble_eq_true rfl) (Nat.le_of_ble_eq_true rfl) dX2_drifts_9 ?_
  exact zreti E hw hr hlk hf rfl dX2_drifts_12
set_option maxRecDepth 100000 in
set_option maxHeartbeats 4000000 in
theorem c_X4_drifts_p6 {l : Launch} {D : va_G} {cy : Cy} {ad : Nat → Nat} {A : Nat → Prop} (hA : okAd 97 ad A) (xq1 : Int32) (xq2 : Int32) (σ : Sg) {r : Int32} (hf : f_X4_drifts_p6 xq1 xq2 σ = r) : Met l yX4_drifts (.code yX4_drifts cX4_drifts 3 (some .int) :: TT) ({ frames := 0, cells := 0, slots := 0, locals := 0 } : Room) (zPc D cy 97 (celC ad cy) ad A [.ref (ad 6), .int xq1, .int xq2] σ) (zQi D 97 (celC ad cy) ad A r σ) 0 0 A := by
  refine zofW (by decide) hA (Nat.le_of_ble_eq_true rfl) ?_
  intro p e s m args below meth c ls E hw hr hlk hl
  have E : ZE p s m args c cX4_drifts 3 "KiteSummons$Kite" D cy 97 ad A := E
  have hx := E.hx
  have hb := E.hb
  have hl : lv_has ls 3 [(0, .ref (ad 6)), (1, .int xq1), (2, .int xq2)] := hl
  unfold f_X4_drifts_p6 at hf
  refine lv_iload_n hx hb dX4_drifts_0 rfl (lv_at hl 1 rfl) ?_
  exact zreti E hw hr hlk hf rfl dX4_drifts_1
set_option maxRecDepth 100000 in
set_option maxHeartbeats 4000000 in
theorem c_X2_drifts_p6 {l : Launch} {D : va_G} {cy : Cy} {ad : Nat → Nat} {A : Nat → Prop} (hA : okAd 97 ad A) (xq1 : Int32) (xq2 : Int32) (σ : Sg) {r : Int32} (hf : f_X2_drifts_p6 xq1 xq2 σ = r) : Met l yX2_drifts (.code yX2_drifts cX2_drifts 3 (some .int) :: TT) ({ frames := 1, cells := 0, slots := 0, locals := 22 } : Room) (zPc D cy 97 (celC ad cy) ad A [.ref (ad 6), .int xq1, .int xq2] σ) (zQi D 97 (celC ad cy) ad A r σ) 0 0 A := by
  refine zofW (by decide) hA (Nat.le_of_ble_eq_true rfl) ?_
  intro p e s m args below meth c ls E hw hr hlk hl
  have E : ZE p s m args c cX2_drifts 3 "KiteSummons$Heavy" D cy 97 ad A := E
  have hx := E.hx
  have hb := E.hb
  have hl : lv_has ls 3 [(0, .ref (ad 6)), (1, .int xq1), (2, .int xq2)] := hl
  unfold f_X2_drifts_p6 at hf
  refine lv_iconst (v := 0) hx hb dX2_drifts_0 (by decide) ?_
  refine lv_aload_n hx hb dX2_drifts_1 rfl (lv_at hl 0 rfl) ?_
  refine lv_iload_n hx hb dX2_drifts_2 rfl (lv_at hl 1 rfl) ?_
  refine lv_iload_n hx hb dX2_drifts_3 rfl (lv_at hl 2 rfl) ?_
  refine zcali hw (va_runSU (As := [.int xq1, .int xq2]) (rest := [.int 0]) (E.hK.1 3 _ rfl).2 E.fix (c_X4_drifts_p6 (l := l) hA xq1 xq2 σ rfl) (zcSU E k2_237 k1_5 k2_221 k2_208 k2_210 k1_198 mfs_X4_drifts rfl rfl ⟨Nat.le_of_ble_eq_true rfl, Nat.le_of_ble_eq_true rfl⟩) (zPreV E hw (Nat.le_of_ble_eq_true rfl) (ceC_6 ad cy _) rfl _) rfl rfl hl.1 rfl (lv_room (Nat.le_of_ble_eq_true rfl)) dX2_drifts_4 ⟨Nat.zero_le _, Nat.zero_le _⟩) (fun H locs hw => ?_)
  refine lv_iconst (v := 1) hx hb dX2_drifts_7 (by decide) ?_
  refine lv_isub hx hb dX2_drifts_8 ?_
  refine zmmax E hl.1 (E.ht _ k2_222) (E.ht _ k2_223) (E.ht _ k1_15) (E.ht _ k2_224) (Nat.le_of_ble_eq_true rfl) (Nat.le_of_ble_eq_true rfl) dX2_drifts_9 ?_
  exact zreti E hw hr hlk hf rfl dX2_drifts_12
set_option maxRecDepth 100000 in
set_option maxHeartbeats 4000000 in
theorem c_X3_drifts_p6 {l : Launch} {D : va_G} {cy : Cy} {ad : Nat → Nat} {A : Nat → Prop} (hA : okAd 97 ad A) (xq1 : Int32) (xq2 : Int32) (σ : Sg) {r : Int32} (hf : f_X3_drifts_p6 xq1 xq2 σ = r) : Met l yX3_drifts (.code yX3_drifts cX3_drifts 3 (some .int) :: TT) ({ frames := 2, cells := 0, slots := 0, locals := 44 } : Room) (zPc D cy 97 (celC ad cy) ad A [.ref (ad 6), .int xq1, .int xq2] σ) (zQi D 97 (celC ad cy) ad A r σ) 0 0 A := by
  refine zofW (by decide) hA (Nat.le_of_ble_eq_true rfl) ?_
  intro p e s m args below meth c ls E hw hr hlk hl
  have E : ZE p s m args c cX3_drifts 3 "KiteSummons$Judge" D cy 97 ad A := E
  have hx := E.hx
  have hb := E.hb
  have hl : lv_has ls 3 [(0, .ref (ad 6)), (1, .int xq1), (2, .int xq2)] := hl
  unfold f_X3_drifts_p6 at hf
  refine lv_aload_n hx hb dX3_drifts_0 rfl (lv_at hl 0 rfl) ?_
  refine lv_iload_n hx hb dX3_drifts_1 rfl (lv_at hl 1 rfl) ?_
  refine lv_iload_n hx hb dX3_drifts_2 rfl (lv_at hl 2 rfl) ?_
  refine zcali hw (va_runSU (As := [.int xq1, .int xq2]) (rest := []) (E.hK.1 3 _ rfl).2 E.fix (c_X2_drifts_p6 (l := l) hA xq1 xq2 σ rfl) (zcSU E k2_220 k1_7 k2_228 k2_219 k8_179 k1_210 mfs_X2_drifts rfl rfl ⟨Nat.le_of_ble_eq_true rfl, Nat.le_of_ble_eq_true rfl⟩) (zPreV E hw (Nat.le_of_ble_eq_true rfl) (ceC_6 ad cy _) rfl _) rfl rfl hl.1 rfl (lv_room (Nat.le_of_ble_eq_true rfl)) dX3_drifts_3 ⟨Nat.zero_le _, Nat.zero_le _⟩) (fun H locs hw => ?_)
  refine lv_iload_n hx hb dX3_drifts_6 rfl (lv_at hl 2 rfl) ?_
  refine lv_iconst (v := 2) hx hb dX3_drifts_7 (by decide) ?_
  refine zirem hx hb dX3_drifts_8 (by decide) ?_
  refine lv_if_ne (tgt := 16) hx hb dX3_drifts_9 (by decide) (fun h => ?_) (fun h => ?_)
  · replace hf := it_t h hf
    refine lv_iconst (v := 0) hx hb dX3_drifts_16 (by decide) ?_
    refine lv_iadd hx hb dX3_drifts_17 ?_
    exact zreti E hw hr hlk hf rfl dX3_drifts_18
  · replace hf := it_n h hf
    refine lv_iconst (v := 1) hx hb dX3_drifts_12 (by decide) ?_
    refine lv_goto (tgt := 17) hx hb dX3_drifts_13 (by decide) ?_
    refine lv_iadd hx hb dX3_drifts_17 ?_
    exact zreti E hw hr hlk hf rfl dX3_drifts_18
set_option maxRecDepth 100000 in
set_option maxHeartbeats 4000000 in
theorem c_X4_drifts_p7 {l : Launch} {D : va_G} {cy : Cy} {ad : Nat → Nat} {A : Nat → Prop} (hA : okAd 97 ad A) (xq1 : Int32) (xq2 : Int32) (σ : Sg) {r : Int32} (hf : f_X4_drifts_p7 xq1 xq2 σ = r) : Met l yX4_drifts (.code yX4_drifts cX4_drifts 3 (some .int) :: TT) ({ frames := 0, cells := 0, slots := 0, locals := 0 } : Room) (zPc D cy 97 (celC ad cy) ad A [.ref (ad 7), .int xq1, .int xq2] σ) (zQi D 97 (celC ad cy) ad A r σ) 0 0 A := by
  refine zofW (by decide) hA (Nat.le_of_ble_eq_true rfl) ?_
  intro p e s m args below meth c ls E hw hr hlk hl
  have E : ZE p s m args c cX4_drifts 3 "KiteSummons$Kite" D cy 97 ad A := E
  have hx := E.hx
  have hb := E.hb
  have hl : lv_has ls 3 [(0, .ref (ad 7)), (1, .int xq1), (2, .int xq2)] := hl
  unfold f_X4_drifts_p7 at hf
  refine lv_iload_n hx hb dX4_drifts_0 rfl (lv_at hl 1 rfl) ?_
  exact zreti E hw hr hlk hf rfl dX4_drifts_1
set_option maxRecDepth 100000 in
set_option maxHeartbeats 4000000 in
theorem c_X0_drifts_p7 {l : Launch} {D : va_G} {cy : Cy} {ad : Nat → Nat} {A : Nat → Prop} (hA : okAd 97 ad A) (xq1 : Int32) (xq2 : Int32) (σ : Sg) {r : Int32} (hf : f_X0_drifts_p7 xq1 xq2 σ = r) : Met l yX0_drifts (.code yX0_drifts cX0_drifts 3 (some .int) :: TT) ({ frames := 1, cells := 0, slots := 0, locals := 22 } : Room) (zPc D cy 97 (celC ad cy) ad A [.ref (ad 7), .int xq1, .int xq2] σ) (zQi D 97 (celC ad cy) ad A r σ) 0 0 A := by
  refine zofW (by decide) hA (Nat.le_of_ble_eq_true rfl) ?_
  intro p e s m args below meth c ls E hw hr hlk hl
  have E : ZE p s m args c cX0_drifts 3 "KiteSummons$Box" D cy 97 ad A := E
  have hx := E.hx
  have hb := E.hb
  have hl : lv_has ls 3 [(0, .ref (ad 7)), (1, .int xq1), (2, .int xq2)] := hl
  unfold f_X0_drifts_p7 at hf
  refine lv_iconst (v := 1) hx hb dX0_drifts_0 (by decide) ?_
  refine lv_aload_n hx hb dX0_drifts_1 rfl (lv_at hl 0 rfl) ?_
  refine lv_iload_n hx hb dX0_drifts_2 rfl (lv_at hl 1 rfl) ?_
  refine lv_iload_n hx hb dX0_drifts_3 rfl (lv_at hl 2 rfl) ?_
  refine zcali hw (va_runSU (As := [.int xq1, .int xq2]) (rest := [.int 1]) (E.hK.1 0 _ rfl).2 E.fix (c_X4_drifts_p7 (l := l) hA xq1 xq2 σ rfl) (zcSU E k2_237 k1_5 k2_214 k2_208 k2_210 k1_222 mfs_X4_drifts rfl rfl ⟨Nat.le_of_ble_eq_true rfl, Nat.le_of_ble_eq_true rfl⟩) (zPreV E hw (Nat.le_of_ble_eq_true rfl) (ceC_7 ad cy _) rfl _) rfl rfl hl.1 rfl (lv_room (Nat.le_of_ble_eq_true rfl)) dX0_drifts_4 ⟨Nat.zero_le _, Nat.zero_le _⟩) (fun H locs hw => ?_)
  refine zmmin E hl.1 (E.ht _ k2_215) (E.ht _ k2_216) (E.ht _ k1_15) (E.ht _ k2_217) (Nat.le_of_ble_eq_true rfl) (Nat.le_of_ble_eq_true rfl) dX0_drifts_7 ?_
  exact zreti E hw hr hlk hf rfl dX0_drifts_10
set_option maxRecDepth 100000 in
set_option maxHeartbeats 4000000 in
theorem c_X4_drifts_p8 {l : Launch} {D : va_G} {cy : Cy} {ad : Nat → Nat} {A : Nat → Prop} (hA : okAd 97 ad A) (xq1 : Int32) (xq2 : Int32) (σ : Sg) {r : Int32} (hf : f_X4_drifts_p8 xq1 xq2 σ = r) : Met l yX4_drifts (.code yX4_drifts cX4_drifts 3 (some .int) :: TT) ({ frames := 0, cells := 0, slots := 0, locals := 0 } : Room) (zPc D cy 97 (celC ad cy) ad A [.ref (ad 8), .int xq1, .int xq2] σ) (zQi D 97 (celC ad cy) ad A r σ) 0 0 A := by
  refine zofW (by decide) hA (Nat.le_of_ble_eq_true rfl) ?_
  intro p e s m args below meth c ls E hw hr hlk hl
  have E : ZE p s m args c cX4_drifts 3 "KiteSummons$Kite" D cy 97 ad A := E
  have hx := E.hx
  have hb := E.hb
  have hl : lv_has ls 3 [(0, .ref (ad 8)), (1, .int xq1), (2, .int xq2)] := hl
  unfold f_X4_drifts_p8 at hf
  refine lv_iload_n hx hb dX4_drifts_0 rfl (lv_at hl 1 rfl) ?_
  exact zreti E hw hr hlk hf rfl dX4_drifts_1
set_option maxRecDepth 100000 in
set_option maxHeartbeats 4000000 in
theorem c_X0_drifts_p8 {l : Launch} {D : va_G} {cy : Cy} {ad : Nat → Nat} {A : Nat → Prop} (hA : okAd 97 ad A) (xq1 : Int32) (xq2 : Int32) (σ : Sg) {r : Int32} (hf : f_X0_drifts_p8 xq1 xq2 σ = r) : Met l yX0_drifts (.code yX0_drifts cX0_drifts 3 (some .int) :: TT) ({ frames := 1, cells := 0, slots := 0, locals := 22 } : Room) (zPc D cy 97 (celC ad cy) ad A [.ref (ad 8), .int xq1, .int xq2] σ) (zQi D 97 (celC ad cy) ad A r σ) 0 0 A := by
  refine zofW (by decide) hA (Nat.le_of_ble_eq_true rfl) ?_
  intro p e s m args below meth c ls E hw hr hlk hl
  have E : ZE p s m args c cX0_drifts 3 "KiteSummons$Box" D cy 97 ad A := E
  have hx := E.hx
  have hb := E.hb
  have hl : lv_has ls 3 [(0, .ref (ad 8)), (1, .int xq1), (2, .int xq2)] := hl
  unfold f_X0_drifts_p8 at hf
  refine lv_iconst (v := 1) hx hb dX0_drifts_0 (by decide) ?_
  refine lv_aload_n hx hb dX0_drifts_1 rfl (lv_at hl 0 rfl) ?_
  refine lv_iload_n hx hb dX0_drifts_2 rfl (lv_at hl 1 rfl) ?_
  refine lv_iload_n hx hb dX0_drifts_3 rfl (lv_at hl 2 rfl) ?_
  refine zcali hw (va_runSU (As := [.int xq1, .int xq2]) (rest := [.int 1]) (E.hK.1 5 _ rfl).2 E.fix (c_X4_drifts_p8 (l := l) hA xq1 xq2 σ rfl) (zcSU E k2_237 k1_5 k2_214 k2_208 k2_210 k1_222 mfs_X4_drifts rfl rfl ⟨Nat.le_of_ble_eq_true rfl, Nat.le_of_ble_eq_true rfl⟩) (zPreV E hw (Nat.le_of_ble_eq_true rfl) (ceC_8 ad cy _) rfl _) rfl rfl hl.1 rfl (lv_room (Nat.le_of_ble_eq_true rfl)) dX0_drifts_4 ⟨Nat.zero_le _, Nat.zero_le _⟩) (fun H locs hw => ?_)
  refine zmmin E hl.1 (E.ht _ k2_215) (E.ht _ k2_216) (E.ht _ k1_15) (E.ht _ k2_217) (Nat.le_of_ble_eq_true rfl) (Nat.le_of_ble_eq_true rfl) dX0_drifts_7 ?_
  exact zreti E hw hr hlk hf rfl dX0_drifts_10
set_option maxRecDepth 100000 in
set_option maxHeartbeats 4000000 in
theorem c_X5_drifts_p8 {l : Launch} {D : va_G} {cy : Cy} {ad : Nat → Nat} {A : Nat → Prop} (hA : okAd 97 ad A) (xq1 : Int32) (xq2 : Int32) (σ : Sg) {r : Int32} (hf : f_X5_drifts_p8 xq1 xq2 σ = r) : Met l yX5_drifts (.code yX5_drifts cX5_drifts 3 (some .int) :: TT) ({ frames := 2, cells := 0, slots := 0, locals := 44 } : Room) (zPc D cy 97 (celC ad cy) ad A [.ref (ad 8), .int xq1, .int xq2] σ) (zQi D 97 (celC ad cy) ad A r σ) 0 0 A := by
  refine zofW (by decide) hA (Nat.le_of_ble_eq_true rfl) ?_
  intro p e s m args below meth c ls E hw hr hlk hl
  have E : ZE p s m args c cX5_drifts 3 "KiteSummons$Old" D cy 97 ad A := E
  have hx := E.hx
  have hb := E.hb
  have hl : lv_has ls 3 [(0, .ref (ad 8)), (1, .int xq1), (2, .int xq2)] := hl
  unfold f_X5_drifts_p8 at hf
  refine lv_iload_n hx hb dX5_drifts_0 rfl (lv_at hl 2 rfl) ?_
  refine lv_iconst (v := 2) hx hb dX5_drifts_1 (by decide) ?_
  refine zirem hx hb dX5_drifts_2 (by decide) ?_
  refine lv_if_ne (tgt := 15) hx hb dX5_drifts_3 (by decide) (fun h => ?_) (fun h => ?_)
  · replace hf := it_t h hf
    refine lv_iconst (v := 0) hx hb dX5_drifts_15 (by decide) ?_
    exact zreti E hw hr hlk hf rfl dX5_drifts_16
  · replace hf := it_n h hf
    refine lv_aload_n hx hb dX5_drifts_6 rfl (lv_at hl 0 rfl) ?_
    refine lv_iload_n hx hb dX5_drifts_7 rfl (lv_at hl 1 rfl) ?_
    refine lv_iload_n hx hb dX5_drifts_8 rfl (lv_at hl 2 rfl) ?_
    refine zcali hw (va_runSU (As := [.int xq1, .int xq2]) (rest := []) (E.hK.1 5 _ rfl).2 E.fix (c_X0_drifts_p8 (l := l) hA xq1 xq2 σ rfl) (zcSU E k2_213 k1_9 k2_232 k2_212 k8_180 k1_234 mfs_X0_drifts rfl rfl ⟨Nat.le_of_ble_eq_true rfl, Nat.le_of_ble_eq_true rfl⟩) (zPreV E hw (Nat.le_of_ble_eq_true rfl) (ceC_8 ad cy _) rfl _) rfl rfl hl.1 rfl (lv_room (Nat.le_of_ble_eq_true rfl)) dX5_drifts_9 ⟨Nat.zero_le _, Nat.zero_le _⟩) (fun H locs hw => ?_)
    refine lv_goto (tgt := 16) hx hb dX5_drifts_12 (by decide) ?_
    exact zreti E hw hr hlk hf rfl dX5_drifts_16
set_option maxRecDepth 100000 in
set_option maxHeartbeats 4000000 in
theorem c_X4_fee_p3 {l : Launch} {D : va_G} {cy : Cy} {ad : Nat → Nat} {A : Nat → Prop} (hA : okAd 97 ad A) (xq1 : Int32) (σ : Sg) {r : Int32} (hf : f_X4_fee_p3 xq1 σ = r) : Met l yX4_fee (.code yX4_fee cX4_fee 2 (some .int) :: TT) ({ frames := 0, cells := 0, slots := 0, locals := 0 } : Room) (zPc D cy 97 (celC ad cy) ad A [.ref (ad 3), .int xq1] σ) (zQi D 97 (celC ad cy) ad A r σ) 0 0 A := by
  refine zofW (by decide) hA (Nat.le_of_ble_eq_true rfl) ?_
  intro p e s m args below meth c ls E hw hr hlk hl
  have E : ZE p s m args c cX4_fee 2 "KiteSummons$Kite" D cy 97 ad A := E
  have hx := E.hx
  have hb := E.hb
  have hl : lv_has ls 2 [(0, .ref (ad 3)), (1, .int xq1)] := hl
  unfold f_X4_fee_p3 at hf
  refine lv_iconst (v := 4) hx hb dX4_fee_0 (by decide) ?_
  exact zreti E hw hr hlk hf rfl dX4_fee_1
set_option maxRecDepth 100000 in
set_option maxHeartbeats 4000000 in
theorem c_X4_fee_p4 {l : Launch} {D : va_G} {cy : Cy} {ad : Nat → Nat} {A : Nat → Prop} (hA : okAd 97 ad A) (xq1 : Int32) (σ : Sg) {r : Int32} (hf : f_X4_fee_p4 xq1 σ = r) : Met l yX4_fee (.code yX4_fee cX4_fee 2 (some .int) :: TT) ({ frames := 0, cells := 0, slots := 0, locals := 0 } : Room) (zPc D cy 97 (celC ad cy) ad A [.ref (ad 4), .int xq1] σ) (zQi D 97 (celC ad cy) ad A r σ) 0 0 A := by
  refine zofW (by decide) hA (Nat.le_of_ble_eq_true rfl) ?_
  intro p e s m args below meth c ls E hw hr hlk hl
  have E : ZE p s m args c cX4_fee 2 "KiteSummons$Kite" D cy 97 ad A := E
  have hx := E.hx
  have hb := E.hb
  have hl : lv_has ls 2 [(0, .ref (ad 4)), (1, .int xq1)] := hl
  unfold f_X4_fee_p4 at hf
  refine lv_iconst (v := 4) hx hb dX4_fee_0 (by decide) ?_
  exact zreti E hw hr hlk hf rfl dX4_fee_1
set_option maxRecDepth 100000 in
set_option maxHeartbeats 4000000 in
theorem c_X7_fee_p4 {l : Launch} {D : va_G} {cy : Cy} {ad : Nat → Nat} {A : Nat → Prop} (hA : okAd 97 ad A) (xq1 : Int32) (σ : Sg) {r : Int32} (hf : f_X7_fee_p4 xq1 σ = r) : Met l yX7_fee (.code yX7_fee cX7_fee 2 (some .int) :: TT) ({ frames := 1, cells := 0, slots := 0, locals := 21 } : Room) (zPc D cy 97 (celC ad cy) ad A [.ref (ad 4), .int xq1] σ) (zQi D 97 (celC ad cy) ad A r σ) 0 0 A := by
  refine zofW (by decide) hA (Nat.le_of_ble_eq_true rfl) ?_
  intro p e s m args below meth c ls E hw hr hlk hl
  have E : ZE p s m args c cX7_fee 2 "KiteSummons$Red" D cy 97 ad A := E
  have hx := E.hx
  have hb := E.hb
  have hl : lv_has ls 2 [(0, .ref (ad 4)), (1, .int xq1)] := hl
  unfold f_X7_fee_p4 at hf
  refine lv_aload_n hx hb dX7_fee_0 rfl (lv_at hl 0 rfl) ?_
  refine lv_iload_n hx hb dX7_fee_1 rfl (lv_at hl 1 rfl) ?_
  refine zcali hw (va_runSU (As := [.int xq1]) (rest := []) (E.hK.1 7 _ rfl).2 E.fix (c_X4_fee_p4 (l := l) hA xq1 σ rfl) (zcSU E k3_26 k1_5 k3_25 k3_3 k3_5 k1_186 mfs_X4_fee rfl rfl ⟨Nat.le_of_ble_eq_true rfl, Nat.le_of_ble_eq_true rfl⟩) (zPreV E hw (Nat.le_of_ble_eq_true rfl) (ceC_4 ad cy _) rfl _) rfl rfl hl.1 rfl (lv_room (Nat.le_of_ble_eq_true rfl)) dX7_fee_2 ⟨Nat.zero_le _, Nat.zero_le _⟩) (fun H locs hw => ?_)
  refine lv_iconst (v := 2) hx hb dX7_fee_5 (by decide) ?_
  refine lv_iadd hx hb dX7_fee_6 ?_
  exact zreti E hw hr hlk hf rfl dX7_fee_7
set_option maxRecDepth 100000 in
set_option maxHeartbeats 4000000 in
theorem c_X4_fee_p5 {l : Launch} {D : va_G} {cy : Cy} {ad : Nat → Nat} {A : Nat → Prop} (hA : okAd 97 ad A) (xq1 : Int32) (σ : Sg) {r : Int32} (hf : f_X4_fee_p5 xq1 σ = r) : Met l yX4_fee (.code yX4_fee cX4_fee 2 (some .int) :: TT) ({ frames := 0, cells := 0, slots := 0, locals := 0 } : Room) (zPc D cy 97 (celC ad cy) ad A [.ref (ad 5), .int xq1] σ) (zQi D 97 (celC ad cy) ad A r σ) 0 0 A := by
  refine zofW (by decide) hA (Nat.le_of_ble_eq_true rfl) ?_
  intro p e s m args below meth c ls E hw hr hlk hl
  have E : ZE p s m args c cX4_fee 2 "KiteSummons$Kite" D cy 97 ad A := E
  have hx := E.hx
  have hb := E.hb
  have hl : lv_has ls 2 [(0, .ref (ad 5)), (1, .int xq1)] := hl
  unfold f_X4_fee_p5 at hf
  refine lv_iconst (v := 4) hx hb dX4_fee_0 (by decide) ?_
  exact zreti E hw hr hlk hf rfl dX4_fee_1
set_option maxRecDepth 100000 in
set_option maxHeartbeats 4000000 in
theorem c_X2_fee_p5 {l : Launch} {D : va_G} {cy : Cy} {ad : Nat → Nat} {A : Nat → Prop} (hA : okAd 97 ad A) (xq1 : Int32) (σ : Sg) {r : Int32} (hf : f_X2_fee_p5 xq1 σ = r) : Met l yX2_fee (.code yX2_fee cX2_fee 2 (some .int) :: TT) ({ frames := 1, cells := 0, slots := 0, locals := 21 } : Room) (zPc D cy 97 (celC ad cy) ad A [.ref (ad 5), .int xq1] σ) (zQi D 97 (celC ad cy) ad A r σ) 0 0 A := by
  refine zofW (by decide) hA (Nat.le_of_ble_eq_true rfl) ?_
  intro p e s m args below meth c ls E hw hr hlk hl
  have E : ZE p s m args c cX2_fee 2 "KiteSummons$Heavy" D cy 97 ad A := E
  have hx := E.hx
  have hb := E.hb
  have hl : lv_has ls 2 [(0, .ref (ad 5)), (1, .int xq1)] := hl
  unfold f_X2_fee_p5 at hf
  refine lv_aload_n hx hb dX2_fee_0 rfl (lv_at hl 0 rfl) ?_
  refine lv_iload_n hx hb dX2_fee_1 rfl (lv_at hl 1 rfl) ?_
  refine zcali hw (va_runSU (As := [.int xq1]) (rest := []) (E.hK.1 2 _ rfl).2 E.fix (c_X4_fee_p5 (l := l) hA xq1 σ rfl) (zcSU E k3_26 k1_5 k3_13 k3_3 k3_5 k1_198 mfs_X4_fee rfl rfl ⟨Nat.le_of_ble_eq_true rfl, Nat.le_of_ble_eq_true rfl⟩) (zPreV E hw (Nat.le_of_ble_eq_true rfl) (ceC_5 ad cy _) rfl _) rfl rfl hl.1 rfl (lv_room (Nat.le_of_ble_eq_true rfl)) dX2_fee_2 ⟨Nat.zero_le _, Nat.zero_le _⟩) (fun H locs hw => ?_)
  refine lv_iload_n hx hb dX2_fee_5 rfl (lv_at hl 1 rfl) ?_
  refine lv_iadd hx hb dX2_fee_6 ?_
  exact zreti E hw hr hlk hf rfl dX2_fee_7
set_option maxRecDepth 100000 in
set_option maxHeartbeats 4000000 in
theorem c_X4_fee_p6 {l : Launch} {D : va_G} {cy : Cy} {ad : Nat → Nat} {A : Nat → Prop} (hA : okAd 97 ad A) (xq1 : Int32) (σ : Sg) {r : Int32} (hf : f_X4_fee_p6 xq1 σ = r) : Met l yX4_fee (.code yX4_fee cX4_fee 2 (some .int) :: TT) ({ frames := 0, cells := 0, slots := 0, locals := 0 } : Room) (zPc D cy 97 (celC ad cy) ad A [.ref (ad 6), .int xq1] σ) (zQi D 97 (celC ad cy) ad A r σ) 0 0 A := by
  refine zofW (by decide) hA (Nat.le_of_ble_eq_true rfl) ?_
  intro p e s m args below meth c ls E hw hr hlk hl
  have E : ZE p s m args c cX4_fee 2 "KiteSummons$Kite" D cy 97 ad A := E
  have hx := E.hx
  have hb := E.hb
  have hl : lv_has ls 2 [(0, .ref (ad 6)), (1, .int xq1)] := hl
  unfold f_X4_fee_p6 at hf
  refine lv_iconst (v := 4) hx hb dX4_fee_0 (by decide) ?_
  exact zreti E hw hr hlk hf rfl dX4_fee_1
set_option maxRecDepth 100000 in
set_option maxHeartbeats 4000000 in
theorem c_X2_fee_p6 {l : Launch} {D : va_G} {cy : Cy} {ad : Nat → Nat} {A : Nat → Prop} (hA : okAd 97 ad A) (xq1 : Int32) (σ : Sg) {r : Int32} (hf : f_X2_fee_p6 xq1 σ = r) : Met l yX2_fee (.code yX2_fee cX2_fee 2 (some .int) :: TT) ({ frames := 1, cells := 0, slots := 0, locals := 21 } : Room) (zPc D cy 97 (celC ad cy) ad A [.ref (ad 6), .int xq1] σ) (zQi D 97 (celC ad cy) ad A r σ) 0 0 A := by
  refine zofW (by decide) hA (Nat.le_of_ble_eq_true rfl) ?_
  intro p e s m args below meth c ls E hw hr hlk hl
  have E : ZE p s m args c cX2_fee 2 "KiteSummons$Heavy" D cy 97 ad A := E
  have hx := E.hx
  have hb := E.hb
  have hl : lv_has ls 2 [(0, .ref (ad 6)), (1, .int xq1)] := hl
  unfold f_X2_fee_p6 at hf
  refine lv_aload_n hx hb dX2_fee_0 rfl (lv_at hl 0 rfl) ?_
  refine lv_iload_n hx hb dX2_fee_1 rfl (lv_at hl 1 rfl) ?_
  refine zcali hw (va_runSU (As := [.int xq1]) (rest := []) (E.hK.1 3 _ rfl).2 E.fix (c_X4_fee_p6 (l := l) hA xq1 σ rfl) (zcSU E k3_26 k1_5 k3_13 k3_3 k3_5 k1_198 mfs_X4_fee rfl rfl ⟨Nat.le_of_ble_eq_true rfl, Nat.le_of_ble_eq_true rfl⟩) (zPreV E hw (Nat.le_of_ble_eq_true rfl) (ceC_6 ad cy _) rfl _) rfl rfl hl.1 rfl (lv_room (Nat.le_of_ble_eq_true rfl)) dX2_fee_2 ⟨Nat.zero_le _, Nat.zero_le _⟩) (fun H locs hw => ?_)
  refine lv_iload_n hx hb dX2_fee_5 rfl (lv_at hl 1 rfl) ?_
  refine lv_iadd hx hb dX2_fee_6 ?_
  exact zreti E hw hr hlk hf rfl dX2_fee_7
set_option maxRecDepth 100000 in
set_option maxHeartbeats 4000000 in
theorem c_X3_fee_p6 {l : Launch} {D : va_G} {cy : Cy} {ad : Nat → Nat} {A : Nat → Prop} (hA : okAd 97 ad A) (xq1 : Int32) (σ : Sg) {r : Int32} (hf : f_X3_fee_p6 xq1 σ = r) : Met l yX3_fee (.code yX3_fee cX3_fee 2 (some .int) :: TT) ({ frames := 2, cells := 0, slots := 0, locals := 42 } : Room) (zPc D cy 97 (celC ad cy) ad A [.ref (ad 6), .int xq1] σ) (zQi D 97 (celC ad cy) ad A r σ) 0 0 A := by
  refine zofW (by decide) hA (Nat.le_of_ble_eq_true rfl) ?_
  intro p e s m args below meth c ls E hw hr hlk hl
  have E : ZE p s m args c cX3_fee 2 "KiteSummons$Judge" D cy 97 ad A := E
  have hx := E.hx
  have hb := E.hb
  have hl : lv_has ls 2 [(0, .ref (ad 6)), (1, .int xq1)] := hl
  unfold f_X3_fee_p6 at hf
  refine lv_aload_n hx hb dX3_fee_0 rfl (lv_at hl 0 rfl) ?_
  refine lv_iload_n hx hb dX3_fee_1 rfl (lv_at hl 1 rfl) ?_
  refine zcali hw (va_runSU (As := [.int xq1]) (rest := []) (E.hK.1 3 _ rfl).2 E.fix (c_X2_fee_p6 (l := l) hA xq1 σ rfl) (zcSU E k3_12 k1_7 k3_17 k3_11 k8_181 k1_210 mfs_X2_fee rfl rfl ⟨Nat.le_of_ble_eq_true rfl, Nat.le_of_ble_eq_true rfl⟩) (zPreV E hw (Nat.le_of_ble_eq_true rfl) (ceC_6 ad cy _) rfl _) rfl rfl hl.1 rfl (lv_room (Nat.le_of_ble_eq_true rfl)) dX3_fee_2 ⟨Nat.zero_le _, Nat.zero_le _⟩) (fun H locs hw => ?_)
  refine lv_iconst (v := 2) hx hb dX3_fee_5 (by decide) ?_
  refine lv_imul hx hb dX3_fee_6 ?_
  exact zreti E hw hr hlk hf rfl dX3_fee_7
set_option maxRecDepth 100000 in
set_option maxHeartbeats 4000000 in
theorem c_X4_fee_p7 {l : Launch} {D : va_G} {cy : Cy} {ad : Nat → Nat} {A : Nat → Prop} (hA : okAd 97 ad A) (xq1 : Int32) (σ : Sg) {r : Int32} (hf : f_X4_fee_p7 xq1 σ = r) : Met l yX4_fee (.code yX4_fee cX4_fee 2 (some .int) :: TT) ({ frames := 0, cells := 0, slots := 0, locals := 0 } : Room) (zPc D cy 97 (celC ad cy) ad A [.ref (ad 7), .int xq1] σ) (zQi D 97 (celC ad cy) ad A r σ) 0 0 A := by
  refine zofW (by decide) hA (Nat.le_of_ble_eq_true rfl) ?_
  intro p e s m args below meth c ls E hw hr hlk hl
  have E : ZE p s m args c cX4_fee 2 "KiteSummons$Kite" D cy 97 ad A := E
  have hx := E.hx
  have hb := E.hb
  have hl : lv_has ls 2 [(0, .ref (ad 7)), (1, .int xq1)] := hl
  unfold f_X4_fee_p7 at hf
  refine lv_iconst (v := 4) hx hb dX4_fee_0 (by decide) ?_
  exact zreti E hw hr hlk hf rfl dX4_fee_1
set_option maxRecDepth 100000 in
set_option maxHeartbeats 4000000 in
theorem c_X0_fee_p7 {l : Launch} {D : va_G} {cy : Cy} {ad : Nat → Nat} {A : Nat → Prop} (hA : okAd 97 ad A) (xq1 : Int32) (σ : Sg) {r : Int32} (hf : f_X0_fee_p7 xq1 σ = r) : Met l yX0_fee (.code yX0_fee cX0_fee 2 (some .int) :: TT) ({ frames := 1, cells := 0, slots := 0, locals := 21 } : Room) (zPc D cy 97 (celC ad cy) ad A [.ref (ad 7), .int xq1] σ) (zQi D 97 (celC ad cy) ad A r σ) 0 0 A := by
  refine zofW (by decide) hA (Nat.le_of_ble_eq_true rfl) ?_
  intro p e s m args below meth c ls E hw hr hlk hl
  have E : ZE p s m args c cX0_fee 2 "KiteSummons$Box" D cy 97 ad A := E
  have hx := E.hx
  have hb := E.hb
  have hl : lv_has ls 2 [(0, .ref (ad 7)), (1, .int xq1)] := hl
  unfold f_X0_fee_p7 at hf
  refine lv_aload_n hx hb dX0_fee_0 rfl (lv_at hl 0 rfl) ?_
  refine lv_iload_n hx hb dX0_fee_1 rfl (lv_at hl 1 rfl) ?_
  refine zcali hw (va_runSU (As := [.int xq1]) (rest := []) (E.hK.1 0 _ rfl).2 E.fix (c_X4_fee_p7 (l := l) hA xq1 σ rfl) (zcSU E k3_26 k1_5 k3_9 k3_3 k3_5 k1_222 mfs_X4_fee rfl rfl ⟨Nat.le_of_ble_eq_true rfl, Nat.le_of_ble_eq_true rfl⟩) (zPreV E hw (Nat.le_of_ble_eq_true rfl) (ceC_7 ad cy _) rfl _) rfl rfl hl.1 rfl (lv_room (Nat.le_of_ble_eq_true rfl)) dX0_fee_2 ⟨Nat.zero_le _, Nat.zero_le _⟩) (fun H locs hw => ?_)
  refine lv_iconst (v := 1) hx hb dX0_fee_5 (by decide) ?_
  refine lv_isub hx hb dX0_fee_6 ?_
  exact zreti E hw hr hlk hf rfl dX0_fee_7
set_option maxRecDepth 100000 in
set_option maxHeartbeats 4000000 in
theorem c_X4_fee_p8 {l : Launch} {D : va_G} {cy : Cy} {ad : Nat → Nat} {A : Nat → Prop} (hA : okAd 97 ad A) (xq1 : Int32) (σ : Sg) {r : Int32} (hf : f_X4_fee_p8 xq1 σ = r) : Met l yX4_fee (.code yX4_fee cX4_fee 2 (some .int) :: TT) ({ frames := 0, cells := 0, slots := 0, locals := 0 } : Room) (zPc D cy 97 (celC ad cy) ad A [.ref (ad 8), .int xq1] σ) (zQi D 97 (celC ad cy) ad A r σ) 0 0 A := by
  refine zofW (by decide) hA (Nat.le_of_ble_eq_true rfl) ?_
  intro p e s m args below meth c ls E hw hr hlk hl
  have E : ZE p s m args c cX4_fee 2 "KiteSummons$Kite" D cy 97 ad A := E
  have hx := E.hx
  have hb := E.hb
  have hl : lv_has ls 2 [(0, .ref (ad 8)), (1, .int xq1)] := hl
  unfold f_X4_fee_p8 at hf
  refine lv_iconst (v := 4) hx hb dX4_fee_0 (by decide) ?_
  exact zreti E hw hr hlk hf rfl dX4_fee_1
set_option maxRecDepth 100000 in
set_option maxHeartbeats 4000000 in
theorem c_X0_fee_p8 {l : Launch} {D : va_G} {cy : Cy} {ad : Nat → Nat} {A : Nat → Prop} (hA : okAd 97 ad A) (xq1 : Int32) (σ : Sg) {r : Int32} (hf : f_X0_fee_p8 xq1 σ = r) : Met l yX0_fee (.code yX0_fee cX0_fee 2 (some .int) :: TT) ({ frames := 1, cells := 0, slots := 0, locals := 21 } : Room) (zPc D cy 97 (celC ad cy) ad A [.ref (ad 8), .int xq1] σ) (zQi D 97 (celC ad cy) ad A r σ) 0 0 A := by
  refine zofW (by decide) hA (Nat.le_of_ble_eq_true rfl) ?_
  intro p e s m args below meth c ls E hw hr hlk hl
  have E : ZE p s m args c cX0_fee 2 "KiteSummons$Box" D cy 97 ad A := E
  have hx := E.hx
  have hb := E.hb
  have hl : lv_has ls 2 [(0, .ref (ad 8)), (1, .int xq1)] := hl
  unfold f_X0_fee_p8 at hf
  refine lv_aload_n hx hb dX0_fee_0 rfl (lv_at hl 0 rfl) ?_
  refine lv_iload_n hx hb dX0_fee_1 rfl (lv_at hl 1 rfl) ?_
  refine zcali hw (va_runSU (As := [.int xq1]) (rest := []) (E.hK.1 5 _ rfl).2 E.fix (c_X4_fee_p8 (l := l) hA xq1 σ rfl) (zcSU E k3_26 k1_5 k3_9 k3_3 k3_5 k1_222 mfs_X4_fee rfl rfl ⟨Nat.le_of_ble_eq_true rfl, Nat.le_of_ble_eq_true rfl⟩) (zPreV E hw (Nat.le_of_ble_eq_true rfl) (ceC_8 ad cy _) rfl _) rfl rfl hl.1 rfl (lv_room (Nat.le_of_ble_eq_true rfl)) dX0_fee_2 ⟨Nat.zero_le _, Nat.zero_le _⟩) (fun H locs hw => ?_)
  refine lv_iconst (v := 1) hx hb dX0_fee_5 (by decide) ?_
  refine lv_isub hx hb dX0_fee_6 ?_
  exact zreti E hw hr hlk hf rfl dX0_fee_7
set_option maxRecDepth 100000 in
set_option maxHeartbeats 4000000 in
theorem c_X5_fee_p8 {l : Launch} {D : va_G} {cy : Cy} {ad : Nat → Nat} {A : Nat → Prop} (hA : okAd 97 ad A) (xq1 : Int32) (σ : Sg) {r : Int32} (hf : f_X5_fee_p8 xq1 σ = r) : Met l yX5_fee (.code yX5_fee cX5_fee 2 (some .int) :: TT) ({ frames := 2, cells := 0, slots := 0, locals := 42 } : Room) (zPc D cy 97 (celC ad cy) ad A [.ref (ad 8), .int xq1] σ) (zQi D 97 (celC ad cy) ad A r σ) 0 0 A := by
  refine zofW (by decide) hA (Nat.le_of_ble_eq_true rfl) ?_
  intro p e s m args below meth c ls E hw hr hlk hl
  have E : ZE p s m args c cX5_fee 2 "KiteSummons$Old" D cy 97 ad A := E
  have hx := E.hx
  have hb := E.hb
  have hl : lv_has ls 2 [(0, .ref (ad 8)), (1, .int xq1)] := hl
  unfold f_X5_fee_p8 at hf
  refine lv_aload_n hx hb dX5_fee_0 rfl (lv_at hl 0 rfl) ?_
  refine lv_iload_n hx hb dX5_fee_1 rfl (lv_at hl 1 rfl) ?_
  refine zcali hw (va_runSU (As := [.int xq1]) (rest := []) (E.hK.1 5 _ rfl).2 E.fix (c_X0_fee_p8 (l := l) hA xq1 σ rfl) (zcSU E k3_8 k1_9 k3_21 k3_7 k8_182 k1_234 mfs_X0_fee rfl rfl ⟨Nat.le_of_ble_eq_true rfl, Nat.le_of_ble_eq_true rfl⟩) (zPreV E hw (Nat.le_of_ble_eq_true rfl) (ceC_8 ad cy _) rfl _) rfl rfl hl.1 rfl (lv_room (Nat.le_of_ble_eq_true rfl)) dX5_fee_2 ⟨Nat.zero_le _, Nat.zero_le _⟩) (fun H locs hw => ?_)
  refine lv_iconst (v := 2) hx hb dX5_fee_5 (by decide) ?_
  refine lv_idiv hx hb dX5_fee_6 (by decide) ?_
  exact zreti E hw hr hlk hf rfl dX5_fee_7
set_option maxRecDepth 100000 in
set_option maxHeartbeats 4000000 in
theorem c_X4_become_p3 {l : Launch} {D : va_G} {cy : Cy} {ad : Nat → Nat} {A : Nat → Prop} (hA : okAd 97 ad A) (xq1 : Int32) (xq2 : Int32) (σ : Sg) {σ9 : Sg} (hf : f_X4_become_p3 xq1 xq2 σ = σ9) : Met l yX4_become (.code yX4_become cX4_become 3 none :: TT) ({ frames := 0, cells := 0, slots := 0, locals := 0 } : Room) (zPc D cy 97 (celC ad cy) ad A [.ref (ad 3), .int xq1, .int xq2] σ) (zQv D 97 (celC ad cy) ad A σ9) 0 0 A := by
  refine zofW (by decide) hA (Nat.le_of_ble_eq_true rfl) ?_
  intro p e s m args below meth c ls E hw hr hlk hl
  have E : ZE p s m args c cX4_become 3 "KiteSummons$Kite" D cy 97 ad A := E
  have hx := E.hx
  have hb := E.hb
  have hl : lv_has ls 3 [(0, .ref (ad 3)), (1, .int xq1), (2, .int xq2)] := hl
  unfold f_X4_become_p3 at hf
  refine lv_aload_n hx hb dX4_become_0 rfl (lv_at hl 0 rfl) ?_
  refine lv_iload_n hx hb dX4_become_1 rfl (lv_at hl 1 rfl) ?_
  refine zputs E hw (Nat.le_of_ble_eq_true rfl) (ceC_3 ad cy _) rfl inX4 tyX4 tyX4_ok nmX4 1 (by decide) k1_149 (fun _ h => h) rfl rfl rfl (Nat.le_of_ble_eq_true rfl) (j := 1) (Eq.trans (ceC_3 ad cy _) (by rfl)) dX4_become_2 (fun σ1 eσ1 H locs hw => ?_)
  replace hf := lt_i eσ1 hf
  refine lv_aload_n hx hb dX4_become_5 rfl (lv_at hl 0 rfl) ?_
  refine lv_iload_n hx hb dX4_become_6 rfl (lv_at hl 2 rfl) ?_
  refine zputs E hw (Nat.le_of_ble_eq_true rfl) (ceC_3 ad cy _) rfl inX4 tyX4 tyX4_ok nmX4 2 (by decide) k1_156 (fun _ h => h) rfl rfl rfl (Nat.le_of_ble_eq_true rfl) (j := 2) (Eq.trans (ceC_3 ad cy _) (by rfl)) dX4_become_7 (fun σ2 eσ2 H locs hw => ?_)
  replace hf := lt_i eσ2 hf
  refine lv_aload_n hx hb dX4_become_10 rfl (lv_at hl 0 rfl) ?_
  refine lv_iconst (v := 0) hx hb dX4_become_11 (by decide) ?_
  refine zputs E hw (Nat.le_of_ble_eq_true rfl) (ceC_3 ad cy _) rfl inX4 tyX4 tyX4_ok nmX4 3 (by decide) k1_159 (fun _ h => h) rfl rfl rfl (Nat.le_of_ble_eq_true rfl) (j := 3) (Eq.trans (ceC_3 ad cy _) (by rfl)) dX4_become_12 (fun σ3 eσ3 H locs hw => ?_)
  replace hf := lt_i eσ3 hf
  refine lv_aload_n hx hb dX4_become_15 rfl (lv_at hl 0 rfl) ?_
  refine lv_iconst (v := 0) hx hb dX4_become_16 (by decide) ?_
  refine zputs E hw (Nat.le_of_ble_eq_true rfl) (ceC_3 ad cy _) rfl inX4 tyX4 tyX4_ok nmX4 4 (by decide) k1_161 (fun _ h => h) rfl rfl rfl (Nat.le_of_ble_eq_true rfl) (j := 4) (Eq.trans (ceC_3 ad cy _) (by rfl)) dX4_become_17 (fun σ4 eσ4 H locs hw => ?_)
  replace hf := lt_i eσ4 hf
  exact zretv E hw hr hlk hf dX4_become_20
set_option maxRecDepth 100000 in
set_option maxHeartbeats 4000000 in
theorem c_X4_become_p4 {l : Launch} {D : va_G} {cy : Cy} {ad : Nat → Nat} {A : Nat → Prop} (hA : okAd 97 ad A) (xq1 : Int32) (xq2 : Int32) (σ : Sg) {σ9 : Sg} (hf : f_X4_become_p4 xq1 xq2 σ = σ9) : Met l yX4_become (.code yX4_become cX4_become 3 none :: TT) ({ frames := 0, cells := 0, slots := 0, locals := 0 } : Room) (zPc D cy 97 (celC ad cy) ad A [.ref (ad 4), .int xq1, .int xq2] σ) (zQv D 97 (celC ad cy) ad A σ9) 0 0 A := by
  refine zofW (by decide) hA (Nat.le_of_ble_eq_true rfl) ?_
  intro p e s m args below meth c ls E hw hr hlk hl
  have E : ZE p s m args c cX4_become 3 "KiteSummons$Kite" D cy 97 ad A := E
  have hx := E.hx
  have hb := E.hb
  have hl : lv_has ls 3 [(0, .ref (ad 4)), (1, .int xq1), (2, .int xq2)] := hl
  unfold f_X4_become_p4 at hf
  refine lv_aload_n hx hb dX4_become_0 rfl (lv_at hl 0 rfl) ?_
  refine lv_iload_n hx hb dX4_become_1 rfl (lv_at hl 1 rfl) ?_
  refine zputs E hw (Nat.le_of_ble_eq_true rfl) (ceC_4 ad cy _) rfl inX7 tyX7 tyX7_ok nmX7 1 (by decide) k1_149 (fun _ h => h) rfl rfl rfl (Nat.le_of_ble_eq_true rfl) (j := 1) (Eq.trans (ceC_4 ad cy _) (by rfl)) dX4_become_2 (fun σ1 eσ1 H locs hw => ?_)
  replace hf := lt_i eσ1 hf
  refine lv_aload_n hx hb dX4_become_5 rfl (lv_at hl 0 rfl) ?_
  refine lv_iload_n hx hb dX4_become_6 rfl (lv_at hl 2 rfl) ?_
  refine zputs E hw (Nat.le_of_ble_eq_true rfl) (ceC_4 ad cy _) rfl inX7 tyX7 tyX7_ok nmX7 2 (by decide) k1_156 (fun _ h => h) rfl rfl rfl (Nat.le_of_ble_eq_true rfl) (j := 2) (Eq.trans (ceC_4 ad cy _) (by rfl)) dX4_become_7 (fun σ2 eσ2 H locs hw => ?_)
  replace hf := lt_i eσ2 hf
  refine lv_aload_n hx hb dX4_become_10 rfl (lv_at hl 0 rfl) ?_
  refine lv_iconst (v := 0) hx hb dX4_become_11 (by decide) ?_
  refine zputs E hw (Nat.le_of_ble_eq_true rfl) (ceC_4 ad cy _) rfl inX7 tyX7 tyX7_ok nmX7 3 (by decide) k1_159 (fun _ h => h) rfl rfl rfl (Nat.le_of_ble_eq_true rfl) (j := 3) (Eq.trans (ceC_4 ad cy _) (by rfl)) dX4_become_12 (fun σ3 eσ3 H locs hw => ?_)
  replace hf := lt_i eσ3 hf
  refine lv_aload_n hx hb dX4_become_15 rfl (lv_at hl 0 rfl) ?_
  refine lv_iconst (v := 0) hx hb dX4_become_16 (by decide) ?_
  refine zputs E hw (Nat.le_of_ble_eq_true rfl) (ceC_4 ad cy _) rfl inX7 tyX7 tyX7_ok nmX7 4 (by decide) k1_161 (fun _ h => h) rfl rfl rfl (Nat.le_of_ble_eq_true rfl) (j := 4) (Eq.trans (ceC_4 ad cy _) (by rfl)) dX4_become_17 (fun σ4 eσ4 H locs hw => ?_)
  replace hf := lt_i eσ4 hf
  exact zretv E hw hr hlk hf dX4_become_20
set_option maxRecDepth 100000 in
set_option maxHeartbeats 4000000 in
theorem c_X4_become_p5 {l : Launch} {D : va_G} {cy : Cy} {ad : Nat → Nat} {A : Nat → Prop} (hA : okAd 97 ad A) (xq1 : Int32) (xq2 : Int32) (σ : Sg) {σ9 : Sg} (hf : f_X4_become_p5 xq1 xq2 σ = σ9) : Met l yX4_become (.code yX4_become cX4_become 3 none :: TT) ({ frames := 0, cells := 0, slots := 0, locals := 0 } : Room) (zPc D cy 97 (celC ad cy) ad A [.ref (ad 5), .int xq1, .int xq2] σ) (zQv D 97 (celC ad cy) ad A σ9) 0 0 A := by
  refine zofW (by decide) hA (Nat.le_of_ble_eq_true rfl) ?_
  intro p e s m args below meth c ls E hw hr hlk hl
  have E : ZE p s m args c cX4_become 3 "KiteSummons$Kite" D cy 97 ad A := E
  have hx := E.hx
  have hb := E.hb
  have hl : lv_has ls 3 [(0, .ref (ad 5)), (1, .int xq1), (2, .int xq2)] := hl
  unfold f_X4_become_p5 at hf
  refine lv_aload_n hx hb dX4_become_0 rfl (lv_at hl 0 rfl) ?_
  refine lv_iload_n hx hb dX4_become_1 rfl (lv_at hl 1 rfl) ?_
  refine zputs E hw (Nat.le_of_ble_eq_true rfl) (ceC_5 ad cy _) rfl inX2 tyX2 tyX2_ok nmX2 1 (by decide) k1_149 (fun _ h => h) rfl rfl rfl (Nat.le_of_ble_eq_true rfl) (j := 1) (Eq.trans (ceC_5 ad cy _) (by rfl)) dX4_become_2 (fun σ1 eσ1 H locs hw => ?_)
  replace hf := lt_i eσ1 hf
  refine lv_aload_n hx hb dX4_become_5 rfl (lv_at hl 0 rfl) ?_
  refine lv_iload_n hx hb dX4_become_6 rfl (lv_at hl 2 rfl) ?_
  refine zputs E hw (Nat.le_of_ble_eq_true rfl) (ceC_5 ad cy _) rfl inX2 tyX2 tyX2_ok nmX2 2 (by decide) k1_156 (fun _ h => h) rfl rfl rfl (Nat.le_of_ble_eq_true rfl) (j := 2) (Eq.trans (ceC_5 ad cy _) (by rfl)) dX4_become_7 (fun σ2 eσ2 H locs hw => ?_)
  replace hf := lt_i eσ2 hf
  refine lv_aload_n hx hb dX4_become_10 rfl (lv_at hl 0 rfl) ?_
  refine lv_iconst (v := 0) hx hb dX4_become_11 (by decide) ?_
  refine zputs E hw (Nat.le_of_ble_eq_true rfl) (ceC_5 ad cy _) rfl inX2 tyX2 tyX2_ok nmX2 3 (by decide) k1_159 (fun _ h => h) rfl rfl rfl (Nat.le_of_ble_eq_true rfl) (j := 3) (Eq.trans (ceC_5 ad cy _) (by rfl)) dX4_become_12 (fun σ3 eσ3 H locs hw => ?_)
  replace hf := lt_i eσ3 hf
  refine lv_aload_n hx hb dX4_become_15 rfl (lv_at hl 0 rfl) ?_
  refine lv_iconst (v := 0) hx hb dX4_become_16 (by decide) ?_
  refine zputs E hw (Nat.le_of_ble_eq_true rfl) (ceC_5 ad cy _) rfl inX2 tyX2 tyX2_ok nmX2 4 (by decide) k1_161 (fun _ h => h) rfl rfl rfl (Nat.le_of_ble_eq_true rfl) (j := 4) (Eq.trans (ceC_5 ad cy _) (by rfl)) dX4_become_17 (fun σ4 eσ4 H locs hw => ?_)
  replace hf := lt_i eσ4 hf
  exact zretv E hw hr hlk hf dX4_become_20
set_option maxRecDepth 100000 in
set_option maxHeartbeats 4000000 in
theorem c_X4_become_p6 {l : Launch} {D : va_G} {cy : Cy} {ad : Nat → Nat} {A : Nat → Prop} (hA : okAd 97 ad A) (xq1 : Int32) (xq2 : Int32) (σ : Sg) {σ9 : Sg} (hf : f_X4_become_p6 xq1 xq2 σ = σ9) : Met l yX4_become (.code yX4_become cX4_become 3 none :: TT) ({ frames := 0, cells := 0, slots := 0, locals := 0 } : Room) (zPc D cy 97 (celC ad cy) ad A [.ref (ad 6), .int xq1, .int xq2] σ) (zQv D 97 (celC ad cy) ad A σ9) 0 0 A := by
  refine zofW (by decide) hA (Nat.le_of_ble_eq_true rfl) ?_
  intro p e s m args below meth c ls E hw hr hlk hl
  have E : ZE p s m args c cX4_become 3 "KiteSummons$Kite" D cy 97 ad A := E
  have hx := E.hx
  have hb := E.hb
  have hl : lv_has ls 3 [(0, .ref (ad 6)), (1, .int xq1), (2, .int xq2)] := hl
  unfold f_X4_become_p6 at hf
  refine lv_aload_n hx hb dX4_become_0 rfl (lv_at hl 0 rfl) ?_
  refine lv_iload_n hx hb dX4_become_1 rfl (lv_at hl 1 rfl) ?_
  refine zputs E hw (Nat.le_of_ble_eq_true rfl) (ceC_6 ad cy _) rfl inX3 tyX3 tyX3_ok nmX3 1 (by decide) k1_149 (fun _ h => h) rfl rfl rfl (Nat.le_of_ble_eq_true rfl) (j := 1) (Eq.trans (ceC_6 ad cy _) (by rfl)) dX4_become_2 (fun σ1 eσ1 H locs hw => ?_)
  replace hf := lt_i eσ1 hf
  refine lv_aload_n hx hb dX4_become_5 rfl (lv_at hl 0 rfl) ?_
  refine lv_iload_n hx hb dX4_become_6 rfl (lv_at hl 2 rfl) ?_
  refine zputs E hw (Nat.le_of_ble_eq_true rfl) (ceC_6 ad cy _) rfl inX3 tyX3 tyX3_ok nmX3 2 (by decide) k1_156 (fun _ h => h) rfl rfl rfl (Nat.le_of_ble_eq_true rfl) (j := 2) (Eq.trans (ceC_6 ad cy _) (by rfl)) dX4_become_7 (fun σ2 eσ2 H locs hw => ?_)
  replace hf := lt_i eσ2 hf
  refine lv_aload_n hx hb dX4_become_10 rfl (lv_at hl 0 rfl) ?_
  refine lv_iconst (v := 0) hx hb dX4_become_11 (by decide) ?_
  refine zputs E hw (Nat.le_of_ble_eq_true rfl) (ceC_6 ad cy _) rfl inX3 tyX3 tyX3_ok nmX3 3 (by decide) k1_159 (fun _ h => h) rfl rfl rfl (Nat.le_of_ble_eq_true rfl) (j := 3) (Eq.trans (ceC_6 ad cy _) (by rfl)) dX4_become_12 (fun σ3 eσ3 H locs hw => ?_)
  replace hf := lt_i eσ3 hf
  refine lv_aload_n hx hb dX4_become_15 rfl (lv_at hl 0 rfl) ?_
  refine lv_iconst (v := 0) hx hb dX4_become_16 (by decide) ?_
  refine zputs E hw (Nat.le_of_ble_eq_true rfl) (ceC_6 ad cy _) rfl inX3 tyX3 tyX3_ok nmX3 4 (by decide) k1_161 (fun _ h => h) rfl rfl rfl (Nat.le_of_ble_eq_true rfl) (j := 4) (Eq.trans (ceC_6 ad cy _) (by rfl)) dX4_become_17 (fun σ4 eσ4 H locs hw => ?_)
  replace hf := lt_i eσ4 hf
  exact zretv E hw hr hlk hf dX4_become_20
set_option maxRecDepth 100000 in
set_option maxHeartbeats 4000000 in
theorem c_X4_become_p7 {l : Launch} {D : va_G} {cy : Cy} {ad : Nat → Nat} {A : Nat → Prop} (hA : okAd 97 ad A) (xq1 : Int32) (xq2 : Int32) (σ : Sg) {σ9 : Sg} (hf : f_X4_become_p7 xq1 xq2 σ = σ9) : Met l yX4_become (.code yX4_become cX4_become 3 none :: TT) ({ frames := 0, cells := 0, slots := 0, locals := 0 } : Room) (zPc D cy 97 (celC ad cy) ad A [.ref (ad 7), .int xq1, .int xq2] σ) (zQv D 97 (celC ad cy) ad A σ9) 0 0 A := by
  refine zofW (by decide) hA (Nat.le_of_ble_eq_true rfl) ?_
  intro p e s m args below meth c ls E hw hr hlk hl
  have E : ZE p s m args c cX4_become 3 "KiteSummons$Kite" D cy 97 ad A := E
  have hx := E.hx
  have hb := E.hb
  have hl : lv_has ls 3 [(0, .ref (ad 7)), (1, .int xq1), (2, .int xq2)] := hl
  unfold f_X4_become_p7 at hf
  refine lv_aload_n hx hb dX4_become_0 rfl (lv_at hl 0 rfl) ?_
  refine lv_iload_n hx hb dX4_become_1 rfl (lv_at hl 1 rfl) ?_
  refine zputs E hw (Nat.le_of_ble_eq_true rfl) (ceC_7 ad cy _) rfl inX0 tyX0 tyX0_ok nmX0 1 (by decide) k1_149 (fun _ h => h) rfl rfl rfl (Nat.le_of_ble_eq_true rfl) (j := 1) (Eq.trans (ceC_7 ad cy _) (by rfl)) dX4_become_2 (fun σ1 eσ1 H locs hw => ?_)
  replace hf := lt_i eσ1 hf
  refine lv_aload_n hx hb dX4_become_5 rfl (lv_at hl 0 rfl) ?_
  refine lv_iload_n hx hb dX4_become_6 rfl (lv_at hl 2 rfl) ?_
  refine zputs E hw (Nat.le_of_ble_eq_true rfl) (ceC_7 ad cy _) rfl inX0 tyX0 tyX0_ok nmX0 2 (by decide) k1_156 (fun _ h => h) rfl rfl rfl (Nat.le_of_ble_eq_true rfl) (j := 2) (Eq.trans (ceC_7 ad cy _) (by rfl)) dX4_become_7 (fun σ2 eσ2 H locs hw => ?_)
  replace hf := lt_i eσ2 hf
  refine lv_aload_n hx hb dX4_become_10 rfl (lv_at hl 0 rfl) ?_
  refine lv_iconst (v := 0) hx hb dX4_become_11 (by decide) ?_
  refine zputs E hw (Nat.le_of_ble_eq_true rfl) (ceC_7 ad cy _) rfl inX0 tyX0 tyX0_ok nmX0 3 (by decide) k1_159 (fun _ h => h) rfl rfl rfl (Nat.le_of_ble_eq_true rfl) (j := 3) (Eq.trans (ceC_7 ad cy _) (by rfl)) dX4_become_12 (fun σ3 eσ3 H locs hw => ?_)
  replace hf := lt_i eσ3 hf
  refine lv_aload_n hx hb dX4_become_15 rfl (lv_at hl 0 rfl) ?_
  refine lv_iconst (v := 0) hx hb dX4_become_16 (by decide) ?_
  refine zputs E hw (Nat.le_of_ble_eq_true rfl) (ceC_7 ad cy _) rfl inX0 tyX0 tyX0_ok nmX0 4 (by decide) k1_161 (fun _ h => h) rfl rfl rfl (Nat.le_of_ble_eq_true rfl) (j := 4) (Eq.trans (ceC_7 ad cy _) (by rfl)) dX4_become_17 (fun σ4 eσ4 H locs hw => ?_)
  replace hf := lt_i eσ4 hf
  exact zretv E hw hr hlk hf dX4_become_20
set_option maxRecDepth 100000 in
set_option maxHeartbeats 4000000 in
theorem c_X4_become_p8 {l : Launch} {D : va_G} {cy : Cy} {ad : Nat → Nat} {A : Nat → Prop} (hA : okAd 97 ad A) (xq1 : Int32) (xq2 : Int32) (σ : Sg) {σ9 : Sg} (hf : f_X4_become_p8 xq1 xq2 σ = σ9) : Met l yX4_become (.code yX4_become cX4_become 3 none :: TT) ({ frames := 0, cells := 0, slots := 0, locals := 0 } : Room) (zPc D cy 97 (celC ad cy) ad A [.ref (ad 8), .int xq1, .int xq2] σ) (zQv D 97 (celC ad cy) ad A σ9) 0 0 A := by
  refine zofW (by decide) hA (Nat.le_of_ble_eq_true rfl) ?_
  intro p e s m args below meth c ls E hw hr hlk hl
  have E : ZE p s m args c cX4_become 3 "KiteSummons$Kite" D cy 97 ad A := E
  have hx := E.hx
  have hb := E.hb
  have hl : lv_has ls 3 [(0, .ref (ad 8)), (1, .int xq1), (2, .int xq2)] := hl
  unfold f_X4_become_p8 at hf
  refine lv_aload_n hx hb dX4_become_0 rfl (lv_at hl 0 rfl) ?_
  refine lv_iload_n hx hb dX4_become_1 rfl (lv_at hl 1 rfl) ?_
  refine zputs E hw (Nat.le_of_ble_eq_true rfl) (ceC_8 ad cy _) rfl inX5 tyX5 tyX5_ok nmX5 1 (by decide) k1_149 (fun _ h => h) rfl rfl rfl (Nat.le_of_ble_eq_true rfl) (j := 1) (Eq.trans (ceC_8 ad cy _) (by rfl)) dX4_become_2 (fun σ1 eσ1 H locs hw => ?_)
  replace hf := lt_i eσ1 hf
  refine lv_aload_n hx hb dX4_become_5 rfl (lv_at hl 0 rfl) ?_
  refine lv_iload_n hx hb dX4_become_6 rfl (lv_at hl 2 rfl) ?_
  refine zputs E hw (Nat.le_of_ble_eq_true rfl) (ceC_8 ad cy _) rfl inX5 tyX5 tyX5_ok nmX5 2 (by decide) k1_156 (fun _ h => h) rfl rfl rfl (Nat.le_of_ble_eq_true rfl) (j := 2) (Eq.trans (ceC_8 ad cy _) (by rfl)) dX4_become_7 (fun σ2 eσ2 H locs hw => ?_)
  replace hf := lt_i eσ2 hf
  refine lv_aload_n hx hb dX4_become_10 rfl (lv_at hl 0 rfl) ?_
  refine lv_iconst (v := 0) hx hb dX4_become_11 (by decide) ?_
  refine zputs E hw (Nat.le_of_ble_eq_true rfl) (ceC_8 ad cy _) rfl inX5 tyX5 tyX5_ok nmX5 3 (by decide) k1_159 (fun _ h => h) rfl rfl rfl (Nat.le_of_ble_eq_true rfl) (j := 3) (Eq.trans (ceC_8 ad cy _) (by rfl)) dX4_become_12 (fun σ3 eσ3 H locs hw => ?_)
  replace hf := lt_i eσ3 hf
  refine lv_aload_n hx hb dX4_become_15 rfl (lv_at hl 0 rfl) ?_
  refine lv_iconst (v := 0) hx hb dX4_become_16 (by decide) ?_
  refine zputs E hw (Nat.le_of_ble_eq_true rfl) (ceC_8 ad cy _) rfl inX5 tyX5 tyX5_ok nmX5 4 (by decide) k1_161 (fun _ h => h) rfl rfl rfl (Nat.le_of_ble_eq_true rfl) (j := 4) (Eq.trans (ceC_8 ad cy _) (by rfl)) dX4_become_17 (fun σ4 eσ4 H locs hw => ?_)
  replace hf := lt_i eσ4 hf
  exact zretv E hw hr hlk hf dX4_become_20
set_option maxRecDepth 100000 in
set_option maxHeartbeats 4000000 in
theorem c_X4_begin_p3 {l : Launch} {D : va_G} {cy : Cy} {ad : Nat → Nat} {A : Nat → Prop} (hA : okAd 97 ad A) (xq1 : Int32) (σ : Sg) {σ9 : Sg} (hf : f_X4_begin_p3 xq1 σ = some σ9) : Met l yX4_begin (.code yX4_begin cX4_begin 2 none :: TT) ({ frames := 0, cells := 0, slots := 0, locals := 0 } : Room) (zPc D cy 97 (celC ad cy) ad A [.ref (ad 3), .int xq1] σ) (zQv D 97 (celC ad cy) ad A σ9) 0 0 A := by
  refine zofW (by decide) hA (Nat.le_of_ble_eq_true rfl) ?_
  intro p e s m args below meth c ls E hw hr hlk hl
  have E : ZE p s m args c cX4_begin 2 "KiteSummons$Kite" D cy 97 ad A := E
  have hx := E.hx
  have hb := E.hb
  have hl : lv_has ls 2 [(0, .ref (ad 3)), (1, .int xq1)] := hl
  unfold f_X4_begin_p3 at hf
  refine lv_aload_n hx hb dX4_begin_0 rfl (lv_at hl 0 rfl) ?_
  refine zget E hw (Nat.le_of_ble_eq_true rfl) (ceC_3 ad cy _) rfl inX4 4 (by decide) k1_161 (fun _ h => h) rfl dX4_begin_1 ?_
  refine lv_if_ne (tgt := 39) hx hb dX4_begin_4 (by decide) (fun h => ?_) (fun h => ?_)
  · replace hf := it_t h hf
    exact zretv E hw hr hlk (rt_1 hf) dX4_begin_39
  · replace hf := it_n h hf
    refine lv_aload_n hx hb dX4_begin_7 rfl (lv_at hl 0 rfl) ?_
    refine zget E hw (Nat.le_of_ble_eq_true rfl) (ceC_3 ad cy _) rfl inX4 3 (by decide) k1_159 (fun _ h => h) rfl dX4_begin_8 ?_
    refine lv_aload_n hx hb dX4_begin_11 rfl (lv_at hl 0 rfl) ?_
    refine zget E hw (Nat.le_of_ble_eq_true rfl) (ceC_3 ad cy _) rfl inX4 0 (by decide) k1_148 (fun _ h => h) rfl dX4_begin_12 ?_
    refine zalen (v := 30) E hw (Nat.le_of_ble_eq_true rfl) 1 rfl (ceC_1 ad cy _) (by rfl) dX4_begin_15 ?_
    refine lv_icmp_ge (tgt := 39) hx hb dX4_begin_16 (by decide) (fun h => ?_) (fun h => ?_)
    · replace hf := it_t h hf
      exact zretv E hw hr hlk (rt_1 hf) dX4_begin_39
    · replace hf := it_f h hf
      refine lv_aload_n hx hb dX4_begin_19 rfl (lv_at hl 0 rfl) ?_
      refine zget E hw (Nat.le_of_ble_eq_true rfl) (ceC_3 ad cy _) rfl inX4 0 (by decide) k1_148 (fun _ h => h) rfl dX4_begin_20 ?_
      refine lv_aload_n hx hb dX4_begin_23 rfl (lv_at hl 0 rfl) ?_
      refine zget E hw (Nat.le_of_ble_eq_true rfl) (ceC_3 ad cy _) rfl inX4 3 (by decide) k1_159 (fun _ h => h) rfl dX4_begin_24 ?_
      refine lv_iload_n hx hb dX4_begin_27 rfl (lv_at hl 1 rfl) ?_
      obtain ⟨σ1, hσ1, hf⟩ := bd_e hf
      refine zastr E hw (Nat.le_of_ble_eq_true rfl) (ceC_1 ad cy) hσ1 dX4_begin_28 (fun H locs hw => ?_)
      refine lv_aload_n hx hb dX4_begin_29 rfl (lv_at hl 0 rfl) ?_
      refine lv_dup hx hb dX4_begin_30 rfl ?_
      refine zget E hw (Nat.le_of_ble_eq_true rfl) (ceC_3 ad cy _) rfl inX4 3 (by decide) k1_159 (fun _ h => h) rfl dX4_begin_31 ?_
      refine lv_iconst (v := 1) hx hb dX4_begin_34 (by decide) ?_
      refine lv_iadd hx hb dX4_begin_35 ?_
      refine zputs E hw (Nat.le_of_ble_eq_true rfl) (ceC_3 ad cy _) rfl inX4 tyX4 tyX4_ok nmX4 3 (by decide) k1_159 (fun _ h => h) rfl rfl rfl (Nat.le_of_ble_eq_true rfl) (j := 3) (Eq.trans (ceC_3 ad cy _) (by rfl)) dX4_begin_36 (fun σ2 eσ2 H locs hw => ?_)
      replace hf := lt_i eσ2 hf
      exact zretv E hw hr hlk (rt_1 hf) dX4_begin_39
set_option maxRecDepth 100000 in
set_option maxHeartbeats 4000000 in
theorem c_X4_flies_p3 {l : Launch} {D : va_G} {cy : Cy} {ad : Nat → Nat} {A : Nat → Prop} (hA : okAd 97 ad A) (xq1 : Int32) (σ : Sg) {r : Int32} {σ9 : Sg} (hf : f_X4_flies_p3 xq1 σ = some (r, σ9)) : Met l yX4_flies (.code yX4_flies cX4_flies 2 (some .int) :: TT) ({ frames := 1, cells := 0, slots := 0, locals := 21 } : Room) (zPc D cy 97 (celC ad cy) ad A [.ref (ad 3), .int xq1] σ) (zQi D 97 (celC ad cy) ad A r σ9) 0 0 A := by
  refine zofW (by decide) hA (Nat.le_of_ble_eq_true rfl) ?_
  intro p e s m args below meth c ls E hw hr hlk hl
  have E : ZE p s m args c cX4_flies 2 "KiteSummons$Kite" D cy 97 ad A := E
  have hx := E.hx
  have hb := E.hb
  have hl : lv_has ls 2 [(0, .ref (ad 3)), (1, .int xq1)] := hl
  unfold f_X4_flies_p3 at hf
  refine lv_aload_n hx hb dX4_flies_0 rfl (lv_at hl 0 rfl) ?_
  refine lv_bipush (v := 10) hx hb dX4_flies_1 (by decide) ?_
  obtain ⟨σ1, hc, hf⟩ := bd_e hf
  refine zcalv hw (va_runV (As := [.int 10]) (rest := []) E.fix (c_X4_begin_p3 (l := l) hA 10 σ hc) (zcV E k5_104 k1_5 k5_117 k5_103 k8_187 mf_X4_begin rfl rfl ⟨Nat.le_of_ble_eq_true rfl, Nat.le_of_ble_eq_true rfl⟩) (zPreV E hw (Nat.le_of_ble_eq_true rfl) (ceC_3 ad cy _) rfl _) rfl rfl hl.1 rfl (lv_room (Nat.le_of_ble_eq_true rfl)) dX4_flies_3 ⟨Nat.zero_le _, Nat.zero_le _⟩) (fun H locs hw => ?_)
  refine lv_iload_n hx hb dX4_flies_6 rfl (lv_at hl 1 rfl) ?_
  refine lv_iconst (v := 5) hx hb dX4_flies_7 (by decide) ?_
  refine lv_imul hx hb dX4_flies_8 ?_
  refine lv_aload_n hx hb dX4_flies_9 rfl (lv_at hl 0 rfl) ?_
  refine zget E hw (Nat.le_of_ble_eq_true rfl) (ceC_3 ad cy _) rfl inX4 1 (by decide) k1_149 (fun _ h => h) rfl dX4_flies_10 ?_
  refine lv_iadd hx hb dX4_flies_13 ?_
  exact zreti E hw hr hlk (rt_a hf) (rt_b hf) dX4_flies_14
set_option maxRecDepth 100000 in
set_option maxHeartbeats 4000000 in
theorem c_X4_begin_p4 {l : Launch} {D : va_G} {cy : Cy} {ad : Nat → Nat} {A : Nat → Prop} (hA : okAd 97 ad A) (xq1 : Int32) (σ : Sg) {σ9 : Sg} (hf : f_X4_begin_p4 xq1 σ = some σ9) : Met l yX4_begin (.code yX4_begin cX4_begin 2 none :: TT) ({ frames := 0, cells := 0, slots := 0, locals := 0 } : Room) (zPc D cy 97 (celC ad cy) ad A [.ref (ad 4), .int xq1] σ) (zQv D 97 (celC ad cy) ad A σ9) 0 0 A := by
  refine zofW (by decide) hA (Nat.le_of_ble_eq_true rfl) ?_
  intro p e s m args below meth c ls E hw hr hlk hl
  have E : ZE p s m args c cX4_begin 2 "KiteSummons$Kite" D cy 97 ad A := E
  have hx := E.hx
  have hb := E.hb
  have hl : lv_has ls 2 [(0, .ref (ad 4)), (1, .int xq1)] := hl
  unfold f_X4_begin_p4 at hf
  refine lv_aload_n hx hb dX4_begin_0 rfl (lv_at hl 0 rfl) ?_
  refine zget E hw (Nat.le_of_ble_eq_true rfl) (ceC_4 ad cy _) rfl inX7 4 (by decide) k1_161 (fun _ h => h) rfl dX4_begin_1 ?_
  refine lv_if_ne (tgt := 39) hx hb dX4_begin_4 (by decide) (fun h => ?_) (fun h => ?_)
  · replace hf := it_t h hf
    exact zretv E hw hr hlk (rt_1 hf) dX4_begin_39
  · replace hf := it_n h hf
    refine lv_aload_n hx hb dX4_begin_7 rfl (lv_at hl 0 rfl) ?_
    refine zget E hw (Nat.le_of_ble_eq_true rfl) (ceC_4 ad cy _) rfl inX7 3 (by decide) k1_159 (fun _ h => h) rfl dX4_begin_8 ?_
    refine lv_aload_n hx hb dX4_begin_11 rfl (lv_at hl 0 rfl) ?_
    refine zget E hw (Nat.le_of_ble_eq_true rfl) (ceC_4 ad cy _) rfl inX7 0 (by decide) k1_148 (fun _ h => h) rfl dX4_begin_12 ?_
    refine zalen (v := 30) E hw (Nat.le_of_ble_eq_true rfl) 1 rfl (ceC_1 ad cy _) (by rfl) dX4_begin_15 ?_
    refine lv_icmp_ge (tgt := 39) hx hb dX4_begin_16 (by decide) (fun h => ?_) (fun h => ?_)
    · replace hf := it_t h hf
      exact zretv E hw hr hlk (rt_1 hf) dX4_begin_39
    · replace hf := it_f h hf
      refine lv_aload_n hx hb dX4_begin_19 rfl (lv_at hl 0 rfl) ?_
      refine zget E hw (Nat.le_of_ble_eq_true rfl) (ceC_4 ad cy _) rfl inX7 0 (by decide) k1_148 (fun _ h => h) rfl dX4_begin_20 ?_
      refine lv_aload_n hx hb dX4_begin_23 rfl (lv_at hl 0 rfl) ?_
      refine zget E hw (Nat.le_of_ble_eq_true rfl) (ceC_4 ad cy _) rfl inX7 3 (by decide) k1_159 (fun _ h => h) rfl dX4_begin_24 ?_
      refine lv_iload_n hx hb dX4_begin_27 rfl (lv_at hl 1 rfl) ?_
      obtain ⟨σ1, hσ1, hf⟩ := bd_e hf
      refine zastr E hw (Nat.le_of_ble_eq_true rfl) (ceC_1 ad cy) hσ1 dX4_begin_28 (fun H locs hw => ?_)
      refine lv_aload_n hx hb dX4_begin_29 rfl (lv_at hl 0 rfl) ?_
      refine lv_dup hx hb dX4_begin_30 rfl ?_
      refine zget E hw (Nat.le_of_ble_eq_true rfl) (ceC_4 ad cy _) rfl inX7 3 (by decide) k1_159 (fun _ h => h) rfl dX4_begin_31 ?_
      refine lv_iconst (v := 1) hx hb dX4_begin_34 (by decide) ?_
      refine lv_iadd hx hb dX4_begin_35 ?_
      refine zputs E hw (Nat.le_of_ble_eq_true rfl) (ceC_4 ad cy _) rfl inX7 tyX7 tyX7_ok nmX7 3 (by decide) k1_159 (fun _ h => h) rfl rfl rfl (Nat.le_of_ble_eq_true rfl) (j := 3) (Eq.trans (ceC_4 ad cy _) (by rfl)) dX4_begin_36 (fun σ2 eσ2 H locs hw => ?_)
      replace hf := lt_i eσ2 hf
      exact zretv E hw hr hlk (rt_1 hf) dX4_begin_39
set_option maxRecDepth 100000 in
set_option maxHeartbeats 4000000 in
theorem c_X4_flies_p4 {l : Launch} {D : va_G} {cy : Cy} {ad : Nat → Nat} {A : Nat → Prop} (hA : okAd 97 ad A) (xq1 : Int32) (σ : Sg) {r : Int32} {σ9 : Sg} (hf : f_X4_flies_p4 xq1 σ = some (r, σ9)) : Met l yX4_flies (.code yX4_flies cX4_flies 2 (some .int) :: TT) ({ frames := 1, cells := 0, slots := 0, locals := 21 } : Room) (zPc D cy 97 (celC ad cy) ad A [.ref (ad 4), .int xq1] σ) (zQi D 97 (celC ad cy) ad A r σ9) 0 0 A := by
  refine zofW (by decide) hA (Nat.le_of_ble_eq_true rfl) ?_
  intro p e s m args below meth c ls E hw hr hlk hl
  have E : ZE p s m args c cX4_flies 2 "KiteSummons$Kite" D cy 97 ad A := E
  have hx := E.hx
  have hb := E.hb
  have hl : lv_has ls 2 [(0, .ref (ad 4)), (1, .int xq1)] := hl
  unfold f_X4_flies_p4 at hf
  refine lv_aload_n hx hb dX4_flies_0 rfl (lv_at hl 0 rfl) ?_
  refine lv_bipush (v := 10) hx hb dX4_flies_1 (by decide) ?_
  obtain ⟨σ1, hc, hf⟩ := bd_e hf
  refine zcalv hw (va_runU (As := [.int 10]) (rest := []) E.fix (c_X4_begin_p4 (l := l) hA 10 σ hc) (zcU E k5_104 k1_5 k5_117 k8_183 k5_103 k5_104 k8_189 k5_103 mfu_X4_begin rfl rfl ⟨Nat.le_of_ble_eq_true rfl, Nat.le_of_ble_eq_true rfl⟩) (zPreV E hw (Nat.le_of_ble_eq_true rfl) (ceC_4 ad cy _) rfl _) rfl rfl hl.1 rfl (lv_room (Nat.le_of_ble_eq_true rfl)) dX4_flies_3 ⟨Nat.zero_le _, Nat.zero_le _⟩) (fun H locs hw => ?_)
  refine lv_iload_n hx hb dX4_flies_6 rfl (lv_at hl 1 rfl) ?_
  refine lv_iconst (v := 5) hx hb dX4_flies_7 (by decide) ?_
  refine lv_imul hx hb dX4_flies_8 ?_
  refine lv_aload_n hx hb dX4_flies_9 rfl (lv_at hl 0 rfl) ?_
  refine zget E hw (Nat.le_of_ble_eq_true rfl) (ceC_4 ad cy _) rfl inX7 1 (by decide) k1_149 (fun _ h => h) rfl dX4_flies_10 ?_
  refine lv_iadd hx hb dX4_flies_13 ?_
  exact zreti E hw hr hlk (rt_a hf) (rt_b hf) dX4_flies_14
set_option maxRecDepth 100000 in
set_option maxHeartbeats 4000000 in
theorem c_X7_flies_p4 {l : Launch} {D : va_G} {cy : Cy} {ad : Nat → Nat} {A : Nat → Prop} (hA : okAd 97 ad A) (xq1 : Int32) (σ : Sg) {r : Int32} {σ9 : Sg} (hf : f_X7_flies_p4 xq1 σ = some (r, σ9)) : Met l yX7_flies (.code yX7_flies cX7_flies 2 (some .int) :: TT) ({ frames := 2, cells := 0, slots := 0, locals := 42 } : Room) (zPc D cy 97 (celC ad cy) ad A [.ref (ad 4), .int xq1] σ) (zQi D 97 (celC ad cy) ad A r σ9) 0 0 A := by
  refine zofW (by decide) hA (Nat.le_of_ble_eq_true rfl) ?_
  intro p e s m args below meth c ls E hw hr hlk hl
  have E : ZE p s m args c cX7_flies 2 "KiteSummons$Red" D cy 97 ad A := E
  have hx := E.hx
  have hb := E.hb
  have hl : lv_has ls 2 [(0, .ref (ad 4)), (1, .int xq1)] := hl
  unfold f_X7_flies_p4 at hf
  refine lv_aload_n hx hb dX7_flies_0 rfl (lv_at hl 0 rfl) ?_
  refine lv_bipush (v := 20) hx hb dX7_flies_1 (by decide) ?_
  obtain ⟨σ1, hc, hf⟩ := bd_e hf
  refine zcalv hw (va_runU (As := [.int 20]) (rest := []) E.fix (c_X4_begin_p4 (l := l) hA 20 σ hc) (zcU E k5_104 k1_5 k5_112 k5_113 k5_103 k5_104 k5_114 k5_103 mfu_X4_begin rfl rfl ⟨Nat.le_of_ble_eq_true rfl, Nat.le_of_ble_eq_true rfl⟩) (zPreV E hw (Nat.le_of_ble_eq_true rfl) (ceC_4 ad cy _) rfl _) rfl rfl hl.1 rfl (lv_room (Nat.le_of_ble_eq_true rfl)) dX7_flies_3 ⟨Nat.zero_le _, Nat.zero_le _⟩) (fun H locs hw => ?_)
  refine lv_aload_n hx hb dX7_flies_6 rfl (lv_at hl 0 rfl) ?_
  refine lv_iload_n hx hb dX7_flies_7 rfl (lv_at hl 1 rfl) ?_
  obtain ⟨vq2, σ3, hc, hf⟩ := bd2_e hf
  refine zcali hw (va_runSU (As := [.int xq1]) (rest := []) (E.hK.1 7 _ rfl).2 E.fix (c_X4_flies_p4 (l := l) hA xq1 σ1 hc) (zcSU E k5_116 k1_5 k5_115 k5_91 k5_93 k1_186 mfs_X4_flies rfl rfl ⟨Nat.le_of_ble_eq_true rfl, Nat.le_of_ble_eq_true rfl⟩) (zPreV E hw (Nat.le_of_ble_eq_true rfl) (ceC_4 ad cy _) rfl _) rfl rfl hl.1 rfl (lv_room (Nat.le_of_ble_eq_true rfl)) dX7_flies_8 ⟨Nat.zero_le _, Nat.zero_le _⟩) (fun H locs hw => ?_)
  refine lv_iconst (v := 1) hx hb dX7_flies_11 (by decide) ?_
  refine lv_isub hx hb dX7_flies_12 ?_
  exact zreti E hw hr hlk (rt_a hf) (rt_b hf) dX7_flies_13
set_option maxRecDepth 100000 in
set_option maxHeartbeats 4000000 in
theorem c_X4_begin_p5 {l : Launch} {D : va_G} {cy : Cy} {ad : Nat → Nat} {A : Nat → Prop} (hA : okAd 97 ad A) (xq1 : Int32) (σ : Sg) {σ9 : Sg} (hf : f_X4_begin_p5 xq1 σ = some σ9) : Met l yX4_begin (.code yX4_begin cX4_begin 2 none :: TT) ({ frames := 0, cells := 0, slots := 0, locals := 0 } : Room) (zPc D cy 97 (celC ad cy) ad A [.ref (ad 5), .int xq1] σ) (zQv D 97 (celC ad cy) ad A σ9) 0 0 A := by
  refine zofW (by decide) hA (Nat.le_of_ble_eq_true rfl) ?_
  intro p e s m args below meth c ls E hw hr hlk hl
  have E : ZE p s m args c cX4_begin 2 "KiteSummons$Kite" D cy 97 ad A := E
  have hx := E.hx
  have hb := E.hb
  have hl : lv_has ls 2 [(0, .ref (ad 5)), (1, .int xq1)] := hl
  unfold f_X4_begin_p5 at hf
  refine lv_aload_n hx hb dX4_begin_0 rfl (lv_at hl 0 rfl) ?_
  refine zget E hw (Nat.le_of_ble_eq_true rfl) (ceC_5 ad cy _) rfl inX2 4 (by decide) k1_161 (fun _ h => h) rfl dX4_begin_1 ?_
  refine lv_if_ne (tgt := 39) hx hb dX4_begin_4 (by decide) (fun h => ?_) (fun h => ?_)
  · replace hf := it_t h hf
    exact zretv E hw hr hlk (rt_1 hf) dX4_begin_39
  · replace hf := it_n h hf
    refine lv_aload_n hx hb dX4_begin_7 rfl (lv_at hl 0 rfl) ?_
    refine zget E hw (Nat.le_of_ble_eq_true rfl) (ceC_5 ad cy _) rfl inX2 3 (by decide) k1_159 (fun _ h => h) rfl dX4_begin_8 ?_
    refine lv_aload_n hx hb dX4_begin_11 rfl (lv_at hl 0 rfl) ?_
    refine zget E hw (Nat.le_of_ble_eq_true rfl) (ceC_5 ad cy _) rfl inX2 0 (by decide) k1_148 (fun _ h => h) rfl dX4_begin_12 ?_
    refine zalen (v := 30) E hw (Nat.le_of_ble_eq_true rfl) 1 rfl (ceC_1 ad cy _) (by rfl) dX4_begin_15 ?_
    refine lv_icmp_ge (tgt := 39) hx hb dX4_begin_16 (by decide) (fun h => ?_) (fun h => ?_)
    · replace hf := it_t h hf
      exact zretv E hw hr hlk (rt_1 hf) dX4_begin_39
    · replace hf := it_f h hf
      refine lv_aload_n hx hb dX4_begin_19 rfl (lv_at hl 0 rfl) ?_
      refine zget E hw (Nat.le_of_ble_eq_true rfl) (ceC_5 ad cy _) rfl inX2 0 (by decide) k1_148 (fun _ h => h) rfl dX4_begin_20 ?_
      refine lv_aload_n hx hb dX4_begin_23 rfl (lv_at hl 0 rfl) ?_
      refine zget E hw (Nat.le_of_ble_eq_true rfl) (ceC_5 ad cy _) rfl inX2 3 (by decide) k1_159 (fun _ h => h) rfl dX4_begin_24 ?_
      refine lv_iload_n hx hb dX4_begin_27 rfl (lv_at hl 1 rfl) ?_
      obtain ⟨σ1, hσ1, hf⟩ := bd_e hf
      refine zastr E hw (Nat.le_of_ble_eq_true rfl) (ceC_1 ad cy) hσ1 dX4_begin_28 (fun H locs hw => ?_)
      refine lv_aload_n hx hb dX4_begin_29 rfl (lv_at hl 0 rfl) ?_
      refine lv_dup hx hb dX4_begin_30 rfl ?_
      refine zget E hw (Nat.le_of_ble_eq_true rfl) (ceC_5 ad cy _) rfl inX2 3 (by decide) k1_159 (fun _ h => h) rfl dX4_begin_31 ?_
      refine lv_iconst (v := 1) hx hb dX4_begin_34 (by decide) ?_
      refine lv_iadd hx hb dX4_begin_35 ?_
      refine zputs E hw (Nat.le_of_ble_eq_true rfl) (ceC_5 ad cy _) rfl inX2 tyX2 tyX2_ok nmX2 3 (by decide) k1_159 (fun _ h => h) rfl rfl rfl (Nat.le_of_ble_eq_true rfl) (j := 3) (Eq.trans (ceC_5 ad cy _) (by rfl)) dX4_begin_36 (fun σ2 eσ2 H locs hw => ?_)
      replace hf := lt_i eσ2 hf
      exact zretv E hw hr hlk (rt_1 hf) dX4_begin_39
set_option maxRecDepth 100000 in
set_option maxHeartbeats 4000000 in
theorem c_X4_flies_p5 {l : Launch} {D : va_G} {cy : Cy} {ad : Nat → Nat} {A : Nat → Prop} (hA : okAd 97 ad A) (xq1 : Int32) (σ : Sg) {r : Int32} {σ9 : Sg} (hf : f_X4_flies_p5 xq1 σ = some (r, σ9)) : Met l yX4_flies (.code yX4_flies cX4_flies 2 (some .int) :: TT) ({ frames := 1, cells := 0, slots := 0, locals := 21 } : Room) (zPc D cy 97 (celC ad cy) ad A [.ref (ad 5), .int xq1] σ) (zQi D 97 (celC ad cy) ad A r σ9) 0 0 A := by
  refine zofW (by decide) hA (Nat.le_of_ble_eq_true rfl) ?_
  intro p e s m args below meth c ls E hw hr hlk hl
  have E : ZE p s m args c cX4_flies 2 "KiteSummons$Kite" D cy 97 ad A := E
  have hx := E.hx
  have hb := E.hb
  have hl : lv_has ls 2 [(0, .ref (ad 5)), (1, .int xq1)] := hl
  unfold f_X4_flies_p5 at hf
  refine lv_aload_n hx hb dX4_flies_0 rfl (lv_at hl 0 rfl) ?_
  refine lv_bipush (v := 10) hx hb dX4_flies_1 (by decide) ?_
  obtain ⟨σ1, hc, hf⟩ := bd_e hf
  refine zcalv hw (va_runU (As := [.int 10]) (rest := []) E.fix (c_X4_begin_p5 (l := l) hA 10 σ hc) (zcU E k5_104 k1_5 k5_117 k8_183 k5_103 k5_104 k8_185 k5_103 mfu_X4_begin rfl rfl ⟨Nat.le_of_ble_eq_true rfl, Nat.le_of_ble_eq_true rfl⟩) (zPreV E hw (Nat.le_of_ble_eq_true rfl) (ceC_5 ad cy _) rfl _) rfl rfl hl.1 rfl (lv_room (Nat.le_of_ble_eq_true rfl)) dX4_flies_3 ⟨Nat.zero_le _, Nat.zero_le _⟩) (fun H locs hw => ?_)
  refine lv_iload_n hx hb dX4_flies_6 rfl (lv_at hl 1 rfl) ?_
  refine lv_iconst (v := 5) hx hb dX4_flies_7 (by decide) ?_
  refine lv_imul hx hb dX4_flies_8 ?_
  refine lv_aload_n hx hb dX4_flies_9 rfl (lv_at hl 0 rfl) ?_
  refine zget E hw (Nat.le_of_ble_eq_true rfl) (ceC_5 ad cy _) rfl inX2 1 (by decide) k1_149 (fun _ h => h) rfl dX4_flies_10 ?_
  refine lv_iadd hx hb dX4_flies_13 ?_
  exact zreti E hw hr hlk (rt_a hf) (rt_b hf) dX4_flies_14
set_option maxRecDepth 100000 in
set_option maxHeartbeats 4000000 in
theorem c_X4_begin_p6 {l : Launch} {D : va_G} {cy : Cy} {ad : Nat → Nat} {A : Nat → Prop} (hA : okAd 97 ad A) (xq1 : Int32) (σ : Sg) {σ9 : Sg} (hf : f_X4_begin_p6 xq1 σ = some σ9) : Met l yX4_begin (.code yX4_begin cX4_begin 2 none :: TT) ({ frames := 0, cells := 0, slots := 0, locals := 0 } : Room) (zPc D cy 97 (celC ad cy) ad A [.ref (ad 6), .int xq1] σ) (zQv D 97 (celC ad cy) ad A σ9) 0 0 A := by
  refine zofW (by decide) hA (Nat.le_of_ble_eq_true rfl) ?_
  intro p e s m args below meth c ls E hw hr hlk hl
  have E : ZE p s m args c cX4_begin 2 "KiteSummons$Kite" D cy 97 ad A := E
  have hx := E.hx
  have hb := E.hb
  have hl : lv_has ls 2 [(0, .ref (ad 6)), (1, .int xq1)] := hl
  unfold f_X4_begin_p6 at hf
  refine lv_aload_n hx hb dX4_begin_0 rfl (lv_at hl 0 rfl) ?_
  refine zget E hw (Nat.le_of_ble_eq_true rfl) (ceC_6 ad cy _) rfl inX3 4 (by decide) k1_161 (fun _ h => h) rfl dX4_begin_1 ?_
  refine lv_if_ne (tgt := 39) hx hb dX4_begin_4 (by decide) (fun h => ?_) (fun h => ?_)
  · replace hf := it_t h hf
    exact zretv E hw hr hlk (rt_1 hf) dX4_begin_39
  · replace hf := it_n h hf
    refine lv_aload_n hx hb dX4_begin_7 rfl (lv_at hl 0 rfl) ?_
    refine zget E hw (Nat.le_of_ble_eq_true rfl) (ceC_6 ad cy _) rfl inX3 3 (by decide) k1_159 (fun _ h => h) rfl dX4_begin_8 ?_
    refine lv_aload_n hx hb dX4_begin_11 rfl (lv_at hl 0 rfl) ?_
    refine zget E hw (Nat.le_of_ble_eq_true rfl) (ceC_6 ad cy _) rfl inX3 0 (by decide) k1_148 (fun _ h => h) rfl dX4_begin_12 ?_
    refine zalen (v := 30) E hw (Nat.le_of_ble_eq_true rfl) 1 rfl (ceC_1 ad cy _) (by rfl) dX4_begin_15 ?_
    refine lv_icmp_ge (tgt := 39) hx hb dX4_begin_16 (by decide) (fun h => ?_) (fun h => ?_)
    · replace hf := it_t h hf
      exact zretv E hw hr hlk (rt_1 hf) dX4_begin_39
    · replace hf := it_f h hf
      refine lv_aload_n hx hb dX4_begin_19 rfl (lv_at hl 0 rfl) ?_
      refine zget E hw (Nat.le_of_ble_eq_true rfl) (ceC_6 ad cy _) rfl inX3 0 (by decide) k1_148 (fun _ h => h) rfl dX4_begin_20 ?_
      refine lv_aload_n hx hb dX4_begin_23 rfl (lv_at hl 0 rfl) ?_
      refine zget E hw (Nat.le_of_ble_eq_true rfl) (ceC_6 ad cy _) rfl inX3 3 (by decide) k1_159 (fun _ h => h) rfl dX4_begin_24 ?_
      refine lv_iload_n hx hb dX4_begin_27 rfl (lv_at hl 1 rfl) ?_
      obtain ⟨σ1, hσ1, hf⟩ := bd_e hf
      refine zastr E hw (Nat.le_of_ble_eq_true rfl) (ceC_1 ad cy) hσ1 dX4_begin_28 (fun H locs hw => ?_)
      refine lv_aload_n hx hb dX4_begin_29 rfl (lv_at hl 0 rfl) ?_
      refine lv_dup hx hb dX4_begin_30 rfl ?_
      refine zget E hw (Nat.le_of_ble_eq_true rfl) (ceC_6 ad cy _) rfl inX3 3 (by decide) k1_159 (fun _ h => h) rfl dX4_begin_31 ?_
      refine lv_iconst (v := 1) hx hb dX4_begin_34 (by decide) ?_
      refine lv_iadd hx hb dX4_begin_35 ?_
      refine zputs E hw (Nat.le_of_ble_eq_true rfl) (ceC_6 ad cy _) rfl inX3 tyX3 tyX3_ok nmX3 3 (by decide) k1_159 (fun _ h => h) rfl rfl rfl (Nat.le_of_ble_eq_true rfl) (j := 3) (Eq.trans (ceC_6 ad cy _) (by rfl)) dX4_begin_36 (fun σ2 eσ2 H locs hw => ?_)
      replace hf := lt_i eσ2 hf
      exact zretv E hw hr hlk (rt_1 hf) dX4_begin_39
set_option maxRecDepth 100000 in
set_option maxHeartbeats 4000000 in
theorem c_X4_flies_p6 {l : Launch} {D : va_G} {cy : Cy} {ad : Nat → Nat} {A : Nat → Prop} (hA : okAd 97 ad A) (xq1 : Int32) (σ : Sg) {r : Int32} {σ9 : Sg} (hf : f_X4_flies_p6 xq1 σ = some (r, σ9)) : Met l yX4_flies (.code yX4_flies cX4_flies 2 (some .int) :: TT) ({ frames := 1, cells := 0, slots := 0, locals := 21 } : Room) (zPc D cy 97 (celC ad cy) ad A [.ref (ad 6), .int xq1] σ) (zQi D 97 (celC ad cy) ad A r σ9) 0 0 A := by
  refine zofW (by decide) hA (Nat.le_of_ble_eq_true rfl) ?_
  intro p e s m args below meth c ls E hw hr hlk hl
  have E : ZE p s m args c cX4_flies 2 "KiteSummons$Kite" D cy 97 ad A := E
  have hx := E.hx
  have hb := E.hb
  have hl : lv_has ls 2 [(0, .ref (ad 6)), (1, .int xq1)] := hl
  unfold f_X4_flies_p6 at hf
  refine lv_aload_n hx hb dX4_flies_0 rfl (lv_at hl 0 rfl) ?_
  refine lv_bipush (v := 10) hx hb dX4_flies_1 (by decide) ?_
  obtain ⟨σ1, hc, hf⟩ := bd_e hf
  refine zcalv hw (va_runU (As := [.int 10]) (rest := []) E.fix (c_X4_begin_p6 (l := l) hA 10 σ hc) (zcU E k5_104 k1_5 k5_117 k8_183 k5_103 k5_104 k8_186 k5_103 mfu_X4_begin rfl rfl ⟨Nat.le_of_ble_eq_true rfl, Nat.le_of_ble_eq_true rfl⟩) (zPreV E hw (Nat.le_of_ble_eq_true rfl) (ceC_6 ad cy _) rfl _) rfl rfl hl.1 rfl (lv_room (Nat.le_of_ble_eq_true rfl)) dX4_flies_3 ⟨Nat.zero_le _, Nat.zero_le _⟩) (fun H locs hw => ?_)
  refine lv_iload_n hx hb dX4_flies_6 rfl (lv_at hl 1 rfl) ?_
  refine lv_iconst (v := 5) hx hb dX4_flies_7 (by decide) ?_
  refine lv_imul hx hb dX4_flies_8 ?_
  refine lv_aload_n hx hb dX4_flies_9 rfl (lv_at hl 0 rfl) ?_
  refine zget E hw (Nat.le_of_ble_eq_true rfl) (ceC_6 ad cy _) rfl inX3 1 (by decide) k1_149 (fun _ h => h) rfl dX4_flies_10 ?_
  refine lv_iadd hx hb dX4_flies_13 ?_
  exact zreti E hw hr hlk (rt_a hf) (rt_b hf) dX4_flies_14
set_option maxRecDepth 100000 in
set_option maxHeartbeats 4000000 in
theorem c_X3_flies_p6 {l : Launch} {D : va_G} {cy : Cy} {ad : Nat → Nat} {A : Nat → Prop} (hA : okAd 97 ad A) (xq1 : Int32) (σ : Sg) {r : Int32} {σ9 : Sg} (hf : f_X3_flies_p6 xq1 σ = some (r, σ9)) : Met l yX3_flies (.code yX3_flies cX3_flies 2 (some .int) :: TT) ({ frames := 2, cells := 0, slots := 0, locals := 42 } : Room) (zPc D cy 97 (celC ad cy) ad A [.ref (ad 6), .int xq1] σ) (zQi D 97 (celC ad cy) ad A r σ9) 0 0 A := by
  refine zofW (by decide) hA (Nat.le_of_ble_eq_true rfl) ?_
  intro p e s m args below meth c ls E hw hr hlk hl
  have E : ZE p s m args c cX3_flies 2 "KiteSummons$Judge" D cy 97 ad A := E
  have hx := E.hx
  have hb := E.hb
  have hl : lv_has ls 2 [(0, .ref (ad 6)), (1, .int xq1)] := hl
  unfold f_X3_flies_p6 at hf
  refine lv_aload_n hx hb dX3_flies_0 rfl (lv_at hl 0 rfl) ?_
  refine lv_bipush (v := 50) hx hb dX3_flies_1 (by decide) ?_
  obtain ⟨σ1, hc, hf⟩ := bd_e hf
  refine zcalv hw (va_runU (As := [.int 50]) (rest := []) E.fix (c_X4_begin_p6 (l := l) hA 50 σ hc) (zcU E k5_104 k1_5 k5_99 k5_100 k5_103 k5_104 k5_102 k5_103 mfu_X4_begin rfl rfl ⟨Nat.le_of_ble_eq_true rfl, Nat.le_of_ble_eq_true rfl⟩) (zPreV E hw (Nat.le_of_ble_eq_true rfl) (ceC_6 ad cy _) rfl _) rfl rfl hl.1 rfl (lv_room (Nat.le_of_ble_eq_true rfl)) dX3_flies_3 ⟨Nat.zero_le _, Nat.zero_le _⟩) (fun H locs hw => ?_)
  refine lv_aload_n hx hb dX3_flies_6 rfl (lv_at hl 0 rfl) ?_
  refine lv_iload_n hx hb dX3_flies_7 rfl (lv_at hl 1 rfl) ?_
  obtain ⟨vq2, σ3, hc, hf⟩ := bd2_e hf
  refine zcali hw (va_runSU2 (As := [.int xq1]) (rest := []) (E.hK.1 3 _ rfl).2 E.fix (c_X4_flies_p6 (l := l) hA xq1 σ1 hc) (zcSU2 E k5_116 k1_5 k5_105 k5_91 k5_106 k1_210 k1_198 mfs_X4_flies rfl rfl ⟨Nat.le_of_ble_eq_true rfl, Nat.le_of_ble_eq_true rfl⟩) (zPreV E hw (Nat.le_of_ble_eq_true rfl) (ceC_6 ad cy _) rfl _) rfl rfl hl.1 rfl (lv_room (Nat.le_of_ble_eq_true rfl)) dX3_flies_8 ⟨Nat.zero_le _, Nat.zero_le _⟩) (fun H locs hw => ?_)
  refine lv_bipush (v := 6) hx hb dX3_flies_11 (by decide) ?_
  refine lv_ixor hx hb dX3_flies_13 ?_
  exact zreti E hw hr hlk (rt_a hf) (rt_b hf) dX3_flies_14
set_option maxRecDepth 100000 in
set_option maxHeartbeats 4000000 in
theorem c_X4_begin_p7 {l : Launch} {D : va_G} {cy : Cy} {ad : Nat → Nat} {A : Nat → Prop} (hA : okAd 97 ad A) (xq1 : Int32) (σ : Sg) {σ9 : Sg} (hf : f_X4_begin_p7 xq1 σ = some σ9) : Met l yX4_begin (.code yX4_begin cX4_begin 2 none :: TT) ({ frames := 0, cells := 0, slots := 0, locals := 0 } : Room) (zPc D cy 97 (celC ad cy) ad A [.ref (ad 7), .int xq1] σ) (zQv D 97 (celC ad cy) ad A σ9) 0 0 A := by
  refine zofW (by decide) hA (Nat.le_of_ble_eq_true rfl) ?_
  intro p e s m args below meth c ls E hw hr hlk hl
  have E : ZE p s m args c cX4_begin 2 "KiteSummons$Kite" D cy 97 ad A := E
  have hx := E.hx
  have hb := E.hb
  have hl : lv_has ls 2 [(0, .ref (ad 7)), (1, .int xq1)] := hl
  unfold f_X4_begin_p7 at hf
  refine lv_aload_n hx hb dX4_begin_0 rfl (lv_at hl 0 rfl) ?_
  refine zget E hw (Nat.le_of_ble_eq_true rfl) (ceC_7 ad cy _) rfl inX0 4 (by decide) k1_161 (fun _ h => h) rfl dX4_begin_1 ?_
  refine lv_if_ne (tgt := 39) hx hb dX4_begin_4 (by decide) (fun h => ?_) (fun h => ?_)
  · replace hf := it_t h hf
    exact zretv E hw hr hlk (rt_1 hf) dX4_begin_39
  · replace hf := it_n h hf
    refine lv_aload_n hx hb dX4_begin_7 rfl (lv_at hl 0 rfl) ?_
    refine zget E hw (Nat.le_of_ble_eq_true rfl) (ceC_7 ad cy _) rfl inX0 3 (by decide) k1_159 (fun _ h => h) rfl dX4_begin_8 ?_
    refine lv_aload_n hx hb dX4_begin_11 rfl (lv_at hl 0 rfl) ?_
    refine zget E hw (Nat.le_of_ble_eq_true rfl) (ceC_7 ad cy _) rfl inX0 0 (by decide) k1_148 (fun _ h => h) rfl dX4_begin_12 ?_
    refine zalen (v := 30) E hw (Nat.le_of_ble_eq_true rfl) 1 rfl (ceC_1 ad cy _) (by rfl) dX4_begin_15 ?_
    refine lv_icmp_ge (tgt := 39) hx hb dX4_begin_16 (by decide) (fun h => ?_) (fun h => ?_)
    · replace hf := it_t h hf
      exact zretv E hw hr hlk (rt_1 hf) dX4_begin_39
    · replace hf := it_f h hf
      refine lv_aload_n hx hb dX4_begin_19 rfl (lv_at hl 0 rfl) ?_
      refine zget E hw (Nat.le_of_ble_eq_true rfl) (ceC_7 ad cy _) rfl inX0 0 (by decide) k1_148 (fun _ h => h) rfl dX4_begin_20 ?_
      refine lv_aload_n hx hb dX4_begin_23 rfl (lv_at hl 0 rfl) ?_
      refine zget E hw (Nat.le_of_ble_eq_true rfl) (ceC_7 ad cy _) rfl inX0 3 (by decide) k1_159 (fun _ h => h) rfl dX4_begin_24 ?_
      refine lv_iload_n hx hb dX4_begin_27 rfl (lv_at hl 1 rfl) ?_
      obtain ⟨σ1, hσ1, hf⟩ := bd_e hf
      refine zastr E hw (Nat.le_of_ble_eq_true rfl) (ceC_1 ad cy) hσ1 dX4_begin_28 (fun H locs hw => ?_)
      refine lv_aload_n hx hb dX4_begin_29 rfl (lv_at hl 0 rfl) ?_
      refine lv_dup hx hb dX4_begin_30 rfl ?_
      refine zget E hw (Nat.le_of_ble_eq_true rfl) (ceC_7 ad cy _) rfl inX0 3 (by decide) k1_159 (fun _ h => h) rfl dX4_begin_31 ?_
      refine lv_iconst (v := 1) hx hb dX4_begin_34 (by decide) ?_
      refine lv_iadd hx hb dX4_begin_35 ?_
      refine zputs E hw (Nat.le_of_ble_eq_true rfl) (ceC_7 ad cy _) rfl inX0 tyX0 tyX0_ok nmX0 3 (by decide) k1_159 (fun _ h => h) rfl rfl rfl (Nat.le_of_ble_eq_true rfl) (j := 3) (Eq.trans (ceC_7 ad cy _) (by rfl)) dX4_begin_36 (fun σ2 eσ2 H locs hw => ?_)
      replace hf := lt_i eσ2 hf
      exact zretv E hw hr hlk (rt_1 hf) dX4_begin_39
set_option maxRecDepth 100000 in
set_option maxHeartbeats 4000000 in
theorem c_X4_flies_p7 {l : Launch} {D : va_G} {cy : Cy} {ad : Nat → Nat} {A : Nat → Prop} (hA : okAd 97 ad A) (xq1 : Int32) (σ : Sg) {r : Int32} {σ9 : Sg} (hf : f_X4_flies_p7 xq1 σ = some (r, σ9)) : Met l yX4_flies (.code yX4_flies cX4_flies 2 (some .int) :: TT) ({ frames := 1, cells := 0, slots := 0, locals := 21 } : Room) (zPc D cy 97 (celC ad cy) ad A [.ref (ad 7), .int xq1] σ) (zQi D 97 (celC ad cy) ad A r σ9) 0 0 A := by
  refine zofW (by decide) hA (Nat.le_of_ble_eq_true rfl) ?_
  intro p e s m args below meth c ls E hw hr hlk hl
  have E : ZE p s m args c cX4_flies 2 "KiteSummons$Kite" D cy 97 ad A := E
  have hx := E.hx
  have hb := E.hb
  have hl : lv_has ls 2 [(0, .ref (ad 7)), (1, .int xq1)] := hl
  unfold f_X4_flies_p7 at hf
  refine lv_aload_n hx hb dX4_flies_0 rfl (lv_at hl 0 rfl) ?_
  refine lv_bipush (v := 10) hx hb dX4_flies_1 (by decide) ?_
  obtain ⟨σ1, hc, hf⟩ := bd_e hf
  refine zcalv hw (va_runU (As := [.int 10]) (rest := []) E.fix (c_X4_begin_p7 (l := l) hA 10 σ hc) (zcU E k5_104 k1_5 k5_117 k8_183 k5_103 k5_104 k8_184 k5_103 mfu_X4_begin rfl rfl ⟨Nat.le_of_ble_eq_true rfl, Nat.le_of_ble_eq_true rfl⟩) (zPreV E hw (Nat.le_of_ble_eq_true rfl) (ceC_7 ad cy _) rfl _) rfl rfl hl.1 rfl (lv_room (Nat.le_of_ble_eq_true rfl)) dX4_flies_3 ⟨Nat.zero_le _, Nat.zero_le _⟩) (fun H locs hw => ?_)
  refine lv_iload_n hx hb dX4_flies_6 rfl (lv_at hl 1 rfl) ?_
  refine lv_iconst (v := 5) hx hb dX4_flies_7 (by decide) ?_
  refine lv_imul hx hb dX4_flies_8 ?_
  refine lv_aload_n hx hb dX4_flies_9 rfl (lv_at hl 0 rfl) ?_
  refine zget E hw (Nat.le_of_ble_eq_true rfl) (ceC_7 ad cy _) rfl inX0 1 (by decide) k1_149 (fun _ h => h) rfl dX4_flies_10 ?_
  refine lv_iadd hx hb dX4_flies_13 ?_
  exact zreti E hw hr hlk (rt_a hf) (rt_b hf) dX4_flies_14
set_option maxRecDepth 100000 in
set_option maxHeartbeats 4000000 in
theorem c_X4_begin_p8 {l : Launch} {D : va_G} {cy : Cy} {ad : Nat → Nat} {A : Nat → Prop} (hA : okAd 97 ad A) (xq1 : Int32) (σ : Sg) {σ9 : Sg} (hf : f_X4_begin_p8 xq1 σ = some σ9) : Met l yX4_begin (.code yX4_begin cX4_begin 2 none :: TT) ({ frames := 0, cells := 0, slots := 0, locals := 0 } : Room) (zPc D cy 97 (celC ad cy) ad A [.ref (ad 8), .int xq1] σ) (zQv D 97 (celC ad cy) ad A σ9) 0 0 A := by
  refine zofW (by decide) hA (Nat.le_of_ble_eq_true rfl) ?_
  intro p e s m args below meth c ls E hw hr hlk hl
  have E : ZE p s m args c cX4_begin 2 "KiteSummons$Kite" D cy 97 ad A := E
  have hx := E.hx
  have hb := E.hb
  have hl : lv_has ls 2 [(0, .ref (ad 8)), (1, .int xq1)] := hl
  unfold f_X4_begin_p8 at hf
  refine lv_aload_n hx hb dX4_begin_0 rfl (lv_at hl 0 rfl) ?_
  refine zget E hw (Nat.le_of_ble_eq_true rfl) (ceC_8 ad cy _) rfl inX5 4 (by decide) k1_161 (fun _ h => h) rfl dX4_begin_1 ?_
  refine lv_if_ne (tgt := 39) hx hb dX4_begin_4 (by decide) (fun h => ?_) (fun h => ?_)
  · replace hf := it_t h hf
    exact zretv E hw hr hlk (rt_1 hf) dX4_begin_39
  · replace hf := it_n h hf
    refine lv_aload_n hx hb dX4_begin_7 rfl (lv_at hl 0 rfl) ?_
    refine zget E hw (Nat.le_of_ble_eq_true rfl) (ceC_8 ad cy _) rfl inX5 3 (by decide) k1_159 (fun _ h => h) rfl dX4_begin_8 ?_
    refine lv_aload_n hx hb dX4_begin_11 rfl (lv_at hl 0 rfl) ?_
    refine zget E hw (Nat.le_of_ble_eq_true rfl) (ceC_8 ad cy _) rfl inX5 0 (by decide) k1_148 (fun _ h => h) rfl dX4_begin_12 ?_
    refine zalen (v := 30) E hw (Nat.le_of_ble_eq_true rfl) 1 rfl (ceC_1 ad cy _) (by rfl) dX4_begin_15 ?_
    refine lv_icmp_ge (tgt := 39) hx hb dX4_begin_16 (by decide) (fun h => ?_) (fun h => ?_)
    · replace hf := it_t h hf
      exact zretv E hw hr hlk (rt_1 hf) dX4_begin_39
    · replace hf := it_f h hf
      refine lv_aload_n hx hb dX4_begin_19 rfl (lv_at hl 0 rfl) ?_
      refine zget E hw (Nat.le_of_ble_eq_true rfl) (ceC_8 ad cy _) rfl inX5 0 (by decide) k1_148 (fun _ h => h) rfl dX4_begin_20 ?_
      refine lv_aload_n hx hb dX4_begin_23 rfl (lv_at hl 0 rfl) ?_
      refine zget E hw (Nat.le_of_ble_eq_true rfl) (ceC_8 ad cy _) rfl inX5 3 (by decide) k1_159 (fun _ h => h) rfl dX4_begin_24 ?_
      refine lv_iload_n hx hb dX4_begin_27 rfl (lv_at hl 1 rfl) ?_
      obtain ⟨σ1, hσ1, hf⟩ := bd_e hf
      refine zastr E hw (Nat.le_of_ble_eq_true rfl) (ceC_1 ad cy) hσ1 dX4_begin_28 (fun H locs hw => ?_)
      refine lv_aload_n hx hb dX4_begin_29 rfl (lv_at hl 0 rfl) ?_
      refine lv_dup hx hb dX4_begin_30 rfl ?_
      refine zget E hw (Nat.le_of_ble_eq_true rfl) (ceC_8 ad cy _) rfl inX5 3 (by decide) k1_159 (fun _ h => h) rfl dX4_begin_31 ?_
      refine lv_iconst (v := 1) hx hb dX4_begin_34 (by decide) ?_
      refine lv_iadd hx hb dX4_begin_35 ?_
      refine zputs E hw (Nat.le_of_ble_eq_true rfl) (ceC_8 ad cy _) rfl inX5 tyX5 tyX5_ok nmX5 3 (by decide) k1_159 (fun _ h => h) rfl rfl rfl (Nat.le_of_ble_eq_true rfl) (j := 3) (Eq.trans (ceC_8 ad cy _) (by rfl)) dX4_begin_36 (fun σ2 eσ2 H locs hw => ?_)
      replace hf := lt_i eσ2 hf
      exact zretv E hw hr hlk (rt_1 hf) dX4_begin_39
set_option maxRecDepth 100000 in
set_option maxHeartbeats 4000000 in
theorem c_X4_flies_p8 {l : Launch} {D : va_G} {cy : Cy} {ad : Nat → Nat} {A : Nat → Prop} (hA : okAd 97 ad A) (xq1 : Int32) (σ : Sg) {r : Int32} {σ9 : Sg} (hf : f_X4_flies_p8 xq1 σ = some (r, σ9)) : Met l yX4_flies (.code yX4_flies cX4_flies 2 (some .int) :: TT) ({ frames := 1, cells := 0, slots := 0, locals := 21 } : Room) (zPc D cy 97 (celC ad cy) ad A [.ref (ad 8), .int xq1] σ) (zQi D 97 (celC ad cy) ad A r σ9) 0 0 A := by
  refine zofW (by decide) hA (Nat.le_of_ble_eq_true rfl) ?_
  intro p e s m args below meth c ls E hw hr hlk hl
  have E : ZE p s m args c cX4_flies 2 "KiteSummons$Kite" D cy 97 ad A := E
  have hx := E.hx
  have hb := E.hb
  have hl : lv_has ls 2 [(0, .ref (ad 8)), (1, .int xq1)] := hl
  unfold f_X4_flies_p8 at hf
  refine lv_aload_n hx hb dX4_flies_0 rfl (lv_at hl 0 rfl) ?_
  refine lv_bipush (v := 10) hx hb dX4_flies_1 (by decide) ?_
  obtain ⟨σ1, hc, hf⟩ := bd_e hf
  refine zcalv hw (va_runU (As := [.int 10]) (rest := []) E.fix (c_X4_begin_p8 (l := l) hA 10 σ hc) (zcU E k5_104 k1_5 k5_117 k8_183 k5_103 k5_104 k8_188 k5_103 mfu_X4_begin rfl rfl ⟨Nat.le_of_ble_eq_true rfl, Nat.le_of_ble_eq_true rfl⟩) (zPreV E hw (Nat.le_of_ble_eq_true rfl) (ceC_8 ad cy _) rfl _) rfl rfl hl.1 rfl (lv_room (Nat.le_of_ble_eq_true rfl)) dX4_flies_3 ⟨Nat.zero_le _, Nat.zero_le _⟩) (fun H locs hw => ?_)
  refine lv_iload_n hx hb dX4_flies_6 rfl (lv_at hl 1 rfl) ?_
  refine lv_iconst (v := 5) hx hb dX4_flies_7 (by decide) ?_
  refine lv_imul hx hb dX4_flies_8 ?_
  refine lv_aload_n hx hb dX4_flies_9 rfl (lv_at hl 0 rfl) ?_
  refine zget E hw (Nat.le_of_ble_eq_true rfl) (ceC_8 ad cy _) rfl inX5 1 (by decide) k1_149 (fun _ h => h) rfl dX4_flies_10 ?_
  refine lv_iadd hx hb dX4_flies_13 ?_
  exact zreti E hw hr hlk (rt_a hf) (rt_b hf) dX4_flies_14
set_option maxRecDepth 100000 in
set_option maxHeartbeats 4000000 in
theorem c_X4_reads_p3 {l : Launch} {D : va_G} {cy : Cy} {ad : Nat → Nat} {A : Nat → Prop} (hA : okAd 97 ad A) (xq1 : Int32) (σ : Sg) {r : Int32} {σ9 : Sg} (hf : f_X4_reads_p3 xq1 σ = some (r, σ9)) : Met l yX4_reads (.code yX4_reads cX4_reads 2 (some .int) :: TT) ({ frames := 2, cells := 0, slots := 0, locals := 42 } : Room) (zPc D cy 97 (celC ad cy) ad A [.ref (ad 3), .int xq1] σ) (zQi D 97 (celC ad cy) ad A r σ9) 0 0 A := by
  refine zofW (by decide) hA (Nat.le_of_ble_eq_true rfl) ?_
  intro p e s m args below meth c ls E hw hr hlk hl
  have E : ZE p s m args c cX4_reads 2 "KiteSummons$Kite" D cy 97 ad A := E
  have hx := E.hx
  have hb := E.hb
  have hl : lv_has ls 2 [(0, .ref (ad 3)), (1, .int xq1)] := hl
  unfold f_X4_reads_p3 at hf
  refine lv_aload_n hx hb dX4_reads_0 rfl (lv_at hl 0 rfl) ?_
  refine lv_bipush (v := 11) hx hb dX4_reads_1 (by decide) ?_
  obtain ⟨σ1, hc, hf⟩ := bd_e hf
  refine zcalv hw (va_runV (As := [.int 11]) (rest := []) E.fix (c_X4_begin_p3 (l := l) hA 11 σ hc) (zcV E k5_104 k1_5 k5_117 k5_103 k8_187 mf_X4_begin rfl rfl ⟨Nat.le_of_ble_eq_true rfl, Nat.le_of_ble_eq_true rfl⟩) (zPreV E hw (Nat.le_of_ble_eq_true rfl) (ceC_3 ad cy _) rfl _) rfl rfl hl.1 rfl (lv_room (Nat.le_of_ble_eq_true rfl)) dX4_reads_3 ⟨Nat.zero_le _, Nat.zero_le _⟩) (fun H locs hw => ?_)
  refine lv_aload_n hx hb dX4_reads_6 rfl (lv_at hl 0 rfl) ?_
  refine lv_iload_n hx hb dX4_reads_7 rfl (lv_at hl 1 rfl) ?_
  obtain ⟨vq2, σ3, hc, hf⟩ := bd2_e hf
  refine zcali hw (va_runV (As := [.int xq1]) (rest := []) E.fix (c_X4_flies_p3 (l := l) hA xq1 σ1 hc) (zcV E k5_116 k1_5 k5_143 k5_91 k5_92 mf_X4_flies rfl rfl ⟨Nat.le_of_ble_eq_true rfl, Nat.le_of_ble_eq_true rfl⟩) (zPreV E hw (Nat.le_of_ble_eq_true rfl) (ceC_3 ad cy _) rfl _) rfl rfl hl.1 rfl (lv_room (Nat.le_of_ble_eq_true rfl)) dX4_reads_8 ⟨Nat.zero_le _, Nat.zero_le _⟩) (fun H locs hw => ?_)
  refine lv_aload_n hx hb dX4_reads_11 rfl (lv_at hl 0 rfl) ?_
  refine zget E hw (Nat.le_of_ble_eq_true rfl) (ceC_3 ad cy _) rfl inX4 2 (by decide) k1_156 (fun _ h => h) rfl dX4_reads_12 ?_
  refine lv_ixor hx hb dX4_reads_15 ?_
  exact zreti E hw hr hlk (rt_a hf) (rt_b hf) dX4_reads_16
set_option maxRecDepth 100000 in
set_option maxHeartbeats 4000000 in
theorem c_X4_reads_p4 {l : Launch} {D : va_G} {cy : Cy} {ad : Nat → Nat} {A : Nat → Prop} (hA : okAd 97 ad A) (xq1 : Int32) (σ : Sg) {r : Int32} {σ9 : Sg} (hf : f_X4_reads_p4 xq1 σ = some (r, σ9)) : Met l yX4_reads (.code yX4_reads cX4_reads 2 (some .int) :: TT) ({ frames := 3, cells := 0, slots := 0, locals := 63 } : Room) (zPc D cy 97 (celC ad cy) ad A [.ref (ad 4), .int xq1] σ) (zQi D 97 (celC ad cy) ad A r σ9) 0 0 A := by
  refine zofW (by decide) hA (Nat.le_of_ble_eq_true rfl) ?_
  intro p e s m args below meth c ls E hw hr hlk hl
  have E : ZE p s m args c cX4_reads 2 "KiteSummons$Kite" D cy 97 ad A := E
  have hx := E.hx
  have hb := E.hb
  have hl : lv_has ls 2 [(0, .ref (ad 4)), (1, .int xq1)] := hl
  unfold f_X4_reads_p4 at hf
  refine lv_aload_n hx hb dX4_reads_0 rfl (lv_at hl 0 rfl) ?_
  refine lv_bipush (v := 11) hx hb dX4_reads_1 (by decide) ?_
  obtain ⟨σ1, hc, hf⟩ := bd_e hf
  refine zcalv hw (va_runU (As := [.int 11]) (rest := []) E.fix (c_X4_begin_p4 (l := l) hA 11 σ hc) (zcU E k5_104 k1_5 k5_117 k8_183 k5_103 k5_104 k8_189 k5_103 mfu_X4_begin rfl rfl ⟨Nat.le_of_ble_eq_true rfl, Nat.le_of_ble_eq_true rfl⟩) (zPreV E hw (Nat.le_of_ble_eq_true rfl) (ceC_4 ad cy _) rfl _) rfl rfl hl.1 rfl (lv_room (Nat.le_of_ble_eq_true rfl)) dX4_reads_3 ⟨Nat.zero_le _, Nat.zero_le _⟩) (fun H locs hw => ?_)
  refine lv_aload_n hx hb dX4_reads_6 rfl (lv_at hl 0 rfl) ?_
  refine lv_iload_n hx hb dX4_reads_7 rfl (lv_at hl 1 rfl) ?_
  obtain ⟨vq2, σ3, hc, hf⟩ := bd2_e hf
  refine zcali hw (va_runU (As := [.int xq1]) (rest := []) E.fix (c_X7_flies_p4 (l := l) hA xq1 σ1 hc) (zcU E k5_111 k1_6 k5_143 k5_93 k5_91 k5_116 k5_109 k5_110 mfu_X4_flies rfl rfl ⟨Nat.le_of_ble_eq_true rfl, Nat.le_of_ble_eq_true rfl⟩) (zPreV E hw (Nat.le_of_ble_eq_true rfl) (ceC_4 ad cy _) rfl _) rfl rfl hl.1 rfl (lv_room (Nat.le_of_ble_eq_true rfl)) dX4_reads_8 ⟨Nat.zero_le _, Nat.zero_le _⟩) (fun H locs hw => ?_)
  refine lv_aload_n hx hb dX4_reads_11 rfl (lv_at hl 0 rfl) ?_
  refine zget E hw (Nat.le_of_ble_eq_true rfl) (ceC_4 ad cy _) rfl inX7 2 (by decide) k1_156 (fun _ h => h) rfl dX4_reads_12 ?_
  refine lv_ixor hx hb dX4_reads_15 ?_
  exact zreti E hw hr hlk (rt_a hf) (rt_b hf) dX4_reads_16
set_option maxRecDepth 100000 in
set_option maxHeartbeats 4000000 in
theorem c_X4_reads_p5 {l : Launch} {D : va_G} {cy : Cy} {ad : Nat → Nat} {A : Nat → Prop} (hA : okAd 97 ad A) (xq1 : Int32) (σ : Sg) {r : Int32} {σ9 : Sg} (hf : f_X4_reads_p5 xq1 σ = some (r, σ9)) : Met l yX4_reads (.code yX4_reads cX4_reads 2 (some .int) :: TT) ({ frames := 2, cells := 0, slots := 0, locals := 42 } : Room) (zPc D cy 97 (celC ad cy) ad A [.ref (ad 5), .int xq1] σ) (zQi D 97 (celC ad cy) ad A r σ9) 0 0 A := by
  refine zofW (by decide) hA (Nat.le_of_ble_eq_true rfl) ?_
  intro p e s m args below meth c ls E hw hr hlk hl
  have E : ZE p s m args c cX4_reads 2 "KiteSummons$Kite" D cy 97 ad A := E
  have hx := E.hx
  have hb := E.hb
  have hl : lv_has ls 2 [(0, .ref (ad 5)), (1, .int xq1)] := hl
  unfold f_X4_reads_p5 at hf
  refine lv_aload_n hx hb dX4_reads_0 rfl (lv_at hl 0 rfl) ?_
  refine lv_bipush (v := 11) hx hb dX4_reads_1 (by decide) ?_
  obtain ⟨σ1, hc, hf⟩ := bd_e hf
  refine zcalv hw (va_runU (As := [.int 11]) (rest := []) E.fix (c_X4_begin_p5 (l := l) hA 11 σ hc) (zcU E k5_104 k1_5 k5_117 k8_183 k5_103 k5_104 k8_185 k5_103 mfu_X4_begin rfl rfl ⟨Nat.le_of_ble_eq_true rfl, Nat.le_of_ble_eq_true rfl⟩) (zPreV E hw (Nat.le_of_ble_eq_true rfl) (ceC_5 ad cy _) rfl _) rfl rfl hl.1 rfl (lv_room (Nat.le_of_ble_eq_true rfl)) dX4_reads_3 ⟨Nat.zero_le _, Nat.zero_le _⟩) (fun H locs hw => ?_)
  refine lv_aload_n hx hb dX4_reads_6 rfl (lv_at hl 0 rfl) ?_
  refine lv_iload_n hx hb dX4_reads_7 rfl (lv_at hl 1 rfl) ?_
  obtain ⟨vq2, σ3, hc, hf⟩ := bd2_e hf
  refine zcali hw (va_runU (As := [.int xq1]) (rest := []) E.fix (c_X4_flies_p5 (l := l) hA xq1 σ1 hc) (zcU E k5_116 k1_5 k5_143 k5_93 k5_91 k5_116 k5_95 k5_91 mfu_X4_flies rfl rfl ⟨Nat.le_of_ble_eq_true rfl, Nat.le_of_ble_eq_true rfl⟩) (zPreV E hw (Nat.le_of_ble_eq_true rfl) (ceC_5 ad cy _) rfl _) rfl rfl hl.1 rfl (lv_room (Nat.le_of_ble_eq_true rfl)) dX4_reads_8 ⟨Nat.zero_le _, Nat.zero_le _⟩) (fun H locs hw => ?_)
  refine lv_aload_n hx hb dX4_reads_11 rfl (lv_at hl 0 rfl) ?_
  refine zget E hw (Nat.le_of_ble_eq_true rfl) (ceC_5 ad cy _) rfl inX2 2 (by decide) k1_156 (fun _ h => h) rfl dX4_reads_12 ?_
  refine lv_ixor hx hb dX4_reads_15 ?_
  exact zreti E hw hr hlk (rt_a hf) (rt_b hf) dX4_reads_16
set_option maxRecDepth 100000 in
set_option maxHeartbeats 4000000 in
theorem c_X2_reads_p5 {l : Launch} {D : va_G} {cy : Cy} {ad : Nat → Nat} {A : Nat → Prop} (hA : okAd 97 ad A) (xq1 : Int32) (σ : Sg) {r : Int32} {σ9 : Sg} (hf : f_X2_reads_p5 xq1 σ = some (r, σ9)) : Met l yX2_reads (.code yX2_reads cX2_reads 2 (some .int) :: TT) ({ frames := 3, cells := 0, slots := 0, locals := 63 } : Room) (zPc D cy 97 (celC ad cy) ad A [.ref (ad 5), .int xq1] σ) (zQi D 97 (celC ad cy) ad A r σ9) 0 0 A := by
  refine zofW (by decide) hA (Nat.le_of_ble_eq_true rfl) ?_
  intro p e s m args below meth c ls E hw hr hlk hl
  have E : ZE p s m args c cX2_reads 2 "KiteSummons$Heavy" D cy 97 ad A := E
  have hx := E.hx
  have hb := E.hb
  have hl : lv_has ls 2 [(0, .ref (ad 5)), (1, .int xq1)] := hl
  unfold f_X2_reads_p5 at hf
  refine lv_aload_n hx hb dX2_reads_0 rfl (lv_at hl 0 rfl) ?_
  refine lv_bipush (v := 30) hx hb dX2_reads_1 (by decide) ?_
  obtain ⟨σ1, hc, hf⟩ := bd_e hf
  refine zcalv hw (va_runU (As := [.int 30]) (rest := []) E.fix (c_X4_begin_p5 (l := l) hA 30 σ hc) (zcU E k5_104 k1_5 k5_126 k5_127 k5_103 k5_104 k5_128 k5_103 mfu_X4_begin rfl rfl ⟨Nat.le_of_ble_eq_true rfl, Nat.le_of_ble_eq_true rfl⟩) (zPreV E hw (Nat.le_of_ble_eq_true rfl) (ceC_5 ad cy _) rfl _) rfl rfl hl.1 rfl (lv_room (Nat.le_of_ble_eq_true rfl)) dX2_reads_3 ⟨Nat.zero_le _, Nat.zero_le _⟩) (fun H locs hw => ?_)
  refine lv_aload_n hx hb dX2_reads_6 rfl (lv_at hl 0 rfl) ?_
  refine lv_iload_n hx hb dX2_reads_7 rfl (lv_at hl 1 rfl) ?_
  refine lv_aload_n hx hb dX2_reads_8 rfl (lv_at hl 0 rfl) ?_
  refine zget E hw (Nat.le_of_ble_eq_true rfl) (ceC_5 ad cy _) rfl inX2 1 (by decide) k1_150 (fun x h => u_same (E.ht _ k1_151) x h) rfl dX2_reads_9 ?_
  refine lv_iadd hx hb dX2_reads_12 ?_
  obtain ⟨vq2, σ3, hc, hf⟩ := bd2_e hf
  refine zcali hw (va_runSU (As := [.int (xq1 + (σ1 5 1))]) (rest := []) (E.hK.1 2 _ rfl).2 E.fix (c_X4_reads_p5 (l := l) hA (xq1 + (σ1 5 1)) σ1 hc) (zcSU E k5_142 k1_5 k5_130 k5_119 k5_121 k1_198 mfs_X4_reads rfl rfl ⟨Nat.le_of_ble_eq_true rfl, Nat.le_of_ble_eq_true rfl⟩) (zPreV E hw (Nat.le_of_ble_eq_true rfl) (ceC_5 ad cy _) rfl _) rfl rfl hl.1 rfl (lv_room (Nat.le_of_ble_eq_true rfl)) dX2_reads_13 ⟨Nat.zero_le _, Nat.zero_le _⟩) (fun H locs hw => ?_)
  exact zreti E hw hr hlk (rt_a hf) (rt_b hf) dX2_reads_16
set_option maxRecDepth 100000 in
set_option maxHeartbeats 4000000 in
theorem c_X4_reads_p6 {l : Launch} {D : va_G} {cy : Cy} {ad : Nat → Nat} {A : Nat → Prop} (hA : okAd 97 ad A) (xq1 : Int32) (σ : Sg) {r : Int32} {σ9 : Sg} (hf : f_X4_reads_p6 xq1 σ = some (r, σ9)) : Met l yX4_reads (.code yX4_reads cX4_reads 2 (some .int) :: TT) ({ frames := 3, cells := 0, slots := 0, locals := 63 } : Room) (zPc D cy 97 (celC ad cy) ad A [.ref (ad 6), .int xq1] σ) (zQi D 97 (celC ad cy) ad A r σ9) 0 0 A := by
  refine zofW (by decide) hA (Nat.le_of_ble_eq_true rfl) ?_
  intro p e s m args below meth c ls E hw hr hlk hl
  have E : ZE p s m args c cX4_reads 2 "KiteSummons$Kite" D cy 97 ad A := E
  have hx := E.hx
  have hb := E.hb
  have hl : lv_has ls 2 [(0, .ref (ad 6)), (1, .int xq1)] := hl
  unfold f_X4_reads_p6 at hf
  refine lv_aload_n hx hb dX4_reads_0 rfl (lv_at hl 0 rfl) ?_
  refine lv_bipush (v := 11) hx hb dX4_reads_1 (by decide) ?_
  obtain ⟨σ1, hc, hf⟩ := bd_e hf
  refine zcalv hw (va_runU (As := [.int 11]) (rest := []) E.fix (c_X4_begin_p6 (l := l) hA 11 σ hc) (zcU E k5_104 k1_5 k5_117 k8_183 k5_103 k5_104 k8_186 k5_103 mfu_X4_begin rfl rfl ⟨Nat.le_of_ble_eq_true rfl, Nat.le_of_ble_eq_true rfl⟩) (zPreV E hw (Nat.le_of_ble_eq_true rfl) (ceC_6 ad cy _) rfl _) rfl rfl hl.1 rfl (lv_room (Nat.le_of_ble_eq_true rfl)) dX4_reads_3 ⟨Nat.zero_le _, Nat.zero_le _⟩) (fun H locs hw => ?_)
  refine lv_aload_n hx hb dX4_reads_6 rfl (lv_at hl 0 rfl) ?_
  refine lv_iload_n hx hb dX4_reads_7 rfl (lv_at hl 1 rfl) ?_
  obtain ⟨vq2, σ3, hc, hf⟩ := bd2_e hf
  refine zcali hw (va_runU (As := [.int xq1]) (rest := []) E.fix (c_X3_flies_p6 (l := l) hA xq1 σ1 hc) (zcU E k5_98 k1_8 k5_143 k5_93 k5_91 k5_116 k5_96 k5_97 mfu_X4_flies rfl rfl ⟨Nat.le_of_ble_eq_true rfl, Nat.le_of_ble_eq_true rfl⟩) (zPreV E hw (Nat.le_of_ble_eq_true rfl) (ceC_6 ad cy _) rfl _) rfl rfl hl.1 rfl (lv_room (Nat.le_of_ble_eq_true rfl)) dX4_reads_8 ⟨Nat.zero_le _, Nat.zero_le _⟩) (fun H locs hw => ?_)
  refine lv_aload_n hx hb dX4_reads_11 rfl (lv_at hl 0 rfl) ?_
  refine zget E hw (Nat.le_of_ble_eq_true rfl) (ceC_6 ad cy _) rfl inX3 2 (by decide) k1_156 (fun _ h => h) rfl dX4_reads_12 ?_
  refine lv_ixor hx hb dX4_reads_15 ?_
  exact zreti E hw hr hlk (rt_a hf) (rt_b hf) dX4_reads_16
set_option maxRecDepth 100000 in
set_option maxHeartbeats 4000000 in
theorem c_X2_reads_p6 {l : Launch} {D : va_G} {cy : Cy} {ad : Nat → Nat} {A : Nat → Prop} (hA : okAd 97 ad A) (xq1 : Int32) (σ : Sg) {r : Int32} {σ9 : Sg} (hf : f_X2_reads_p6 xq1 σ = some (r, σ9)) : Met l yX2_reads (.code yX2_reads cX2_reads 2 (some .int) :: TT) ({ frames := 4, cells := 0, slots := 0, locals := 84 } : Room) (zPc D cy 97 (celC ad cy) ad A [.ref (ad 6), .int xq1] σ) (zQi D 97 (celC ad cy) ad A r σ9) 0 0 A := by
  refine zofW (by decide) hA (Nat.le_of_ble_eq_true rfl) ?_
  intro p e s m args below meth c ls E hw hr hlk hl
  have E : ZE p s m args c cX2_reads 2 "KiteSummons$Heavy" D cy 97 ad A := E
  have hx := E.hx
  have hb := E.hb
  have hl : lv_has ls 2 [(0, .ref (ad 6)), (1, .int xq1)] := hl
  unfold f_X2_reads_p6 at hf
  refine lv_aload_n hx hb dX2_reads_0 rfl (lv_at hl 0 rfl) ?_
  refine lv_bipush (v := 30) hx hb dX2_reads_1 (by decide) ?_
  obtain ⟨σ1, hc, hf⟩ := bd_e hf
  refine zcalv hw (va_runU (As := [.int 30]) (rest := []) E.fix (c_X4_begin_p6 (l := l) hA 30 σ hc) (zcU E k5_104 k1_5 k5_126 k5_127 k5_103 k5_104 k5_129 k5_103 mfu_X4_begin rfl rfl ⟨Nat.le_of_ble_eq_true rfl, Nat.le_of_ble_eq_true rfl⟩) (zPreV E hw (Nat.le_of_ble_eq_true rfl) (ceC_6 ad cy _) rfl _) rfl rfl hl.1 rfl (lv_room (Nat.le_of_ble_eq_true rfl)) dX2_reads_3 ⟨Nat.zero_le _, Nat.zero_le _⟩) (fun H locs hw => ?_)
  refine lv_aload_n hx hb dX2_reads_6 rfl (lv_at hl 0 rfl) ?_
  refine lv_iload_n hx hb dX2_reads_7 rfl (lv_at hl 1 rfl) ?_
  refine lv_aload_n hx hb dX2_reads_8 rfl (lv_at hl 0 rfl) ?_
  refine zget E hw (Nat.le_of_ble_eq_true rfl) (ceC_6 ad cy _) rfl inX3 1 (by decide) k1_150 (fun x h => u_same (E.ht _ k1_151) x h) rfl dX2_reads_9 ?_
  refine lv_iadd hx hb dX2_reads_12 ?_
  obtain ⟨vq2, σ3, hc, hf⟩ := bd2_e hf
  refine zcali hw (va_runSU (As := [.int (xq1 + (σ1 6 1))]) (rest := []) (E.hK.1 3 _ rfl).2 E.fix (c_X4_reads_p6 (l := l) hA (xq1 + (σ1 6 1)) σ1 hc) (zcSU E k5_142 k1_5 k5_130 k5_119 k5_121 k1_198 mfs_X4_reads rfl rfl ⟨Nat.le_of_ble_eq_true rfl, Nat.le_of_ble_eq_true rfl⟩) (zPreV E hw (Nat.le_of_ble_eq_true rfl) (ceC_6 ad cy _) rfl _) rfl rfl hl.1 rfl (lv_room (Nat.le_of_ble_eq_true rfl)) dX2_reads_13 ⟨Nat.zero_le _, Nat.zero_le _⟩) (fun H locs hw => ?_)
  exact zreti E hw hr hlk (rt_a hf) (rt_b hf) dX2_reads_16
set_option maxRecDepth 100000 in
set_option maxHeartbeats 4000000 in
theorem c_X4_reads_p7 {l : Launch} {D : va_G} {cy : Cy} {ad : Nat → Nat} {A : Nat → Prop} (hA : okAd 97 ad A) (xq1 : Int32) (σ : Sg) {r : Int32} {σ9 : Sg} (hf : f_X4_reads_p7 xq1 σ = some (r, σ9)) : Met l yX4_reads (.code yX4_reads cX4_reads 2 (some .int) :: TT) ({ frames := 2, cells := 0, slots := 0, locals := 42 } : Room) (zPc D cy 97 (celC ad cy) ad A [.ref (ad 7), .int xq1] σ) (zQi D 97 (celC ad cy) ad A r σ9) 0 0 A := by
  refine zofW (by decide) hA (Nat.le_of_ble_eq_true rfl) ?_
  intro p e s m args below meth c ls E hw hr hlk hl
  have E : ZE p s m args c cX4_reads 2 "KiteSummons$Kite" D cy 97 ad A := E
  have hx := E.hx
  have hb := E.hb
  have hl : lv_has ls 2 [(0, .ref (ad 7)), (1, .int xq1)] := hl
  unfold f_X4_reads_p7 at hf
  refine lv_aload_n hx hb dX4_reads_0 rfl (lv_at hl 0 rfl) ?_
  refine lv_bipush (v := 11) hx hb dX4_reads_1 (by decide) ?_
  obtain ⟨σ1, hc, hf⟩ := bd_e hf
  refine zcalv hw (va_runU (As := [.int 11]) (rest := []) E.fix (c_X4_begin_p7 (l := l) hA 11 σ hc) (zcU E k5_104 k1_5 k5_117 k8_183 k5_103 k5_104 k8_184 k5_103 mfu_X4_begin rfl rfl ⟨Nat.le_of_ble_eq_true rfl, Nat.le_of_ble_eq_true rfl⟩) (zPreV E hw (Nat.le_of_ble_eq_true rfl) (ceC_7 ad cy _) rfl _) rfl rfl hl.1 rfl (lv_room (Nat.le_of_ble_eq_true rfl)) dX4_reads_3 ⟨Nat.zero_le _, Nat.zero_le _⟩) (fun H locs hw => ?_)
  refine lv_aload_n hx hb dX4_reads_6 rfl (lv_at hl 0 rfl) ?_
  refine lv_iload_n hx hb dX4_reads_7 rfl (lv_at hl 1 rfl) ?_
  obtain ⟨vq2, σ3, hc, hf⟩ := bd2_e hf
  refine zcali hw (va_runU (As := [.int xq1]) (rest := []) E.fix (c_X4_flies_p7 (l := l) hA xq1 σ1 hc) (zcU E k5_116 k1_5 k5_143 k5_93 k5_91 k5_116 k5_94 k5_91 mfu_X4_flies rfl rfl ⟨Nat.le_of_ble_eq_true rfl, Nat.le_of_ble_eq_true rfl⟩) (zPreV E hw (Nat.le_of_ble_eq_true rfl) (ceC_7 ad cy _) rfl _) rfl rfl hl.1 rfl (lv_room (Nat.le_of_ble_eq_true rfl)) dX4_reads_8 ⟨Nat.zero_le _, Nat.zero_le _⟩) (fun H locs hw => ?_)
  refine lv_aload_n hx hb dX4_reads_11 rfl (lv_at hl 0 rfl) ?_
  refine zget E hw (Nat.le_of_ble_eq_true rfl) (ceC_7 ad cy _) rfl inX0 2 (by decide) k1_156 (fun _ h => h) rfl dX4_reads_12 ?_
  refine lv_ixor hx hb dX4_reads_15 ?_
  exact zreti E hw hr hlk (rt_a hf) (rt_b hf) dX4_reads_16
set_option maxRecDepth 100000 in
set_option maxHeartbeats 4000000 in
theorem c_X4_reads_p8 {l : Launch} {D : va_G} {cy : Cy} {ad : Nat → Nat} {A : Nat → Prop} (hA : okAd 97 ad A) (xq1 : Int32) (σ : Sg) {r : Int32} {σ9 : Sg} (hf : f_X4_reads_p8 xq1 σ = some (r, σ9)) : Met l yX4_reads (.code yX4_reads cX4_reads 2 (some .int) :: TT) ({ frames := 2, cells := 0, slots := 0, locals := 42 } : Room) (zPc D cy 97 (celC ad cy) ad A [.ref (ad 8), .int xq1] σ) (zQi D 97 (celC ad cy) ad A r σ9) 0 0 A := by
  refine zofW (by decide) hA (Nat.le_of_ble_eq_true rfl) ?_
  intro p e s m args below meth c ls E hw hr hlk hl
  have E : ZE p s m args c cX4_reads 2 "KiteSummons$Kite" D cy 97 ad A := E
  have hx := E.hx
  have hb := E.hb
  have hl : lv_has ls 2 [(0, .ref (ad 8)), (1, .int xq1)] := hl
  unfold f_X4_reads_p8 at hf
  refine lv_aload_n hx hb dX4_reads_0 rfl (lv_at hl 0 rfl) ?_
  refine lv_bipush (v := 11) hx hb dX4_reads_1 (by decide) ?_
  obtain ⟨σ1, hc, hf⟩ := bd_e hf
  refine zcalv hw (va_runU (As := [.int 11]) (rest := []) E.fix (c_X4_begin_p8 (l := l) hA 11 σ hc) (zcU E k5_104 k1_5 k5_117 k8_183 k5_103 k5_104 k8_188 k5_103 mfu_X4_begin rfl rfl ⟨Nat.le_of_ble_eq_true rfl, Nat.le_of_ble_eq_true rfl⟩) (zPreV E hw (Nat.le_of_ble_eq_true rfl) (ceC_8 ad cy _) rfl _) rfl rfl hl.1 rfl (lv_room (Nat.le_of_ble_eq_true rfl)) dX4_reads_3 ⟨Nat.zero_le _, Nat.zero_le _⟩) (fun H locs hw => ?_)
  refine lv_aload_n hx hb dX4_reads_6 rfl (lv_at hl 0 rfl) ?_
  refine lv_iload_n hx hb dX4_reads_7 rfl (lv_at hl 1 rfl) ?_
  obtain ⟨vq2, σ3, hc, hf⟩ := bd2_e hf
  refine zcali hw (va_runU (As := [.int xq1]) (rest := []) E.fix (c_X4_flies_p8 (l := l) hA xq1 σ1 hc) (zcU E k5_116 k1_5 k5_143 k5_93 k5_91 k5_116 k5_108 k5_91 mfu_X4_flies rfl rfl ⟨Nat.le_of_ble_eq_true rfl, Nat.le_of_ble_eq_true rfl⟩) (zPreV E hw (Nat.le_of_ble_eq_true rfl) (ceC_8 ad cy _) rfl _) rfl rfl hl.1 rfl (lv_room (Nat.le_of_ble_eq_true rfl)) dX4_reads_8 ⟨Nat.zero_le _, Nat.zero_le _⟩) (fun H locs hw => ?_)
  refine lv_aload_n hx hb dX4_reads_11 rfl (lv_at hl 0 rfl) ?_
  refine zget E hw (Nat.le_of_ble_eq_true rfl) (ceC_8 ad cy _) rfl inX5 2 (by decide) k1_156 (fun _ h => h) rfl dX4_reads_12 ?_
  refine lv_ixor hx hb dX4_reads_15 ?_
  exact zreti E hw hr hlk (rt_a hf) (rt_b hf) dX4_reads_16
set_option maxRecDepth 100000 in
set_option maxHeartbeats 4000000 in
theorem c_X5_reads_p8 {l : Launch} {D : va_G} {cy : Cy} {ad : Nat → Nat} {A : Nat → Prop} (hA : okAd 97 ad A) (xq1 : Int32) (σ : Sg) {r : Int32} {σ9 : Sg} (hf : f_X5_reads_p8 xq1 σ = some (r, σ9)) : Met l yX5_reads (.code yX5_reads cX5_reads 2 (some .int) :: TT) ({ frames := 3, cells := 0, slots := 0, locals := 63 } : Room) (zPc D cy 97 (celC ad cy) ad A [.ref (ad 8), .int xq1] σ) (zQi D 97 (celC ad cy) ad A r σ9) 0 0 A := by
  refine zofW (by decide) hA (Nat.le_of_ble_eq_true rfl) ?_
  intro p e s m args below meth c ls E hw hr hlk hl
  have E : ZE p s m args c cX5_reads 2 "KiteSummons$Old" D cy 97 ad A := E
  have hx := E.hx
  have hb := E.hb
  have hl : lv_has ls 2 [(0, .ref (ad 8)), (1, .int xq1)] := hl
  unfold f_X5_reads_p8 at hf
  refine lv_aload_n hx hb dX5_reads_0 rfl (lv_at hl 0 rfl) ?_
  refine lv_bipush (v := 60) hx hb dX5_reads_1 (by decide) ?_
  obtain ⟨σ1, hc, hf⟩ := bd_e hf
  refine zcalv hw (va_runU (As := [.int 60]) (rest := []) E.fix (c_X4_begin_p8 (l := l) hA 60 σ hc) (zcU E k5_104 k1_5 k5_135 k5_136 k5_103 k5_104 k5_137 k5_103 mfu_X4_begin rfl rfl ⟨Nat.le_of_ble_eq_true rfl, Nat.le_of_ble_eq_true rfl⟩) (zPreV E hw (Nat.le_of_ble_eq_true rfl) (ceC_8 ad cy _) rfl _) rfl rfl hl.1 rfl (lv_room (Nat.le_of_ble_eq_true rfl)) dX5_reads_3 ⟨Nat.zero_le _, Nat.zero_le _⟩) (fun H locs hw => ?_)
  refine lv_aload_n hx hb dX5_reads_6 rfl (lv_at hl 0 rfl) ?_
  refine lv_iload_n hx hb dX5_reads_7 rfl (lv_at hl 1 rfl) ?_
  obtain ⟨vq2, σ3, hc, hf⟩ := bd2_e hf
  refine zcali hw (va_runSU2 (As := [.int xq1]) (rest := []) (E.hK.1 5 _ rfl).2 E.fix (c_X4_reads_p8 (l := l) hA xq1 σ1 hc) (zcSU2 E k5_142 k1_5 k5_138 k5_119 k5_139 k1_234 k1_222 mfs_X4_reads rfl rfl ⟨Nat.le_of_ble_eq_true rfl, Nat.le_of_ble_eq_true rfl⟩) (zPreV E hw (Nat.le_of_ble_eq_true rfl) (ceC_8 ad cy _) rfl _) rfl rfl hl.1 rfl (lv_room (Nat.le_of_ble_eq_true rfl)) dX5_reads_8 ⟨Nat.zero_le _, Nat.zero_le _⟩) (fun H locs hw => ?_)
  refine lv_aload_n hx hb dX5_reads_11 rfl (lv_at hl 0 rfl) ?_
  refine zget E hw (Nat.le_of_ble_eq_true rfl) (ceC_8 ad cy _) rfl inX5 2 (by decide) k1_157 (fun x h => u_same (E.ht _ k1_158) x h) rfl dX5_reads_12 ?_
  refine lv_imul hx hb dX5_reads_15 ?_
  exact zreti E hw hr hlk (rt_a hf) (rt_b hf) dX5_reads_16
set_option maxRecDepth 100000 in
set_option maxHeartbeats 4000000 in
theorem c_X4_parts_p3 {l : Launch} {D : va_G} {cy : Cy} {ad : Nat → Nat} {A : Nat → Prop} (hA : okAd 97 ad A) (xq1 : Int32) (σ : Sg) {r : Int32} {σ9 : Sg} (hf : f_X4_parts_p3 xq1 σ = some (r, σ9)) : Met l yX4_parts (.code yX4_parts cX4_parts 3 (some .int) :: TT) ({ frames := 1, cells := 0, slots := 0, locals := 21 } : Room) (zPc D cy 97 (celC ad cy) ad A [.ref (ad 3), .int xq1] σ) (zQi D 97 (celC ad cy) ad A r σ9) 0 0 A := by
  refine zofW (by decide) hA (Nat.le_of_ble_eq_true rfl) ?_
  intro p e s m args below meth c ls E hw hr hlk hl
  have E : ZE p s m args c cX4_parts 3 "KiteSummons$Kite" D cy 97 ad A := E
  have hx := E.hx
  have hb := E.hb
  have hl : lv_has ls 3 [(0, .ref (ad 3)), (1, .int xq1)] := hl
  unfold f_X4_parts_p3 at hf
  refine lv_aload_n hx hb dX4_parts_0 rfl (lv_at hl 0 rfl) ?_
  refine lv_bipush (v := 12) hx hb dX4_parts_1 (by decide) ?_
  obtain ⟨σ1, hc, hf⟩ := bd_e hf
  refine zcalv hw (va_runV (As := [.int 12]) (rest := []) E.fix (c_X4_begin_p3 (l := l) hA 12 σ hc) (zcV E k5_104 k1_5 k5_117 k5_103 k8_187 mf_X4_begin rfl rfl ⟨Nat.le_of_ble_eq_true rfl, Nat.le_of_ble_eq_true rfl⟩) (zPreV E hw (Nat.le_of_ble_eq_true rfl) (ceC_3 ad cy _) rfl _) rfl rfl hl.1 rfl (lv_room (Nat.le_of_ble_eq_true rfl)) dX4_parts_3 ⟨Nat.zero_le _, Nat.zero_le _⟩) (fun H locs hw => ?_)
  refine lv_aload_n hx hb dX4_parts_6 rfl (lv_at hl 0 rfl) ?_
  refine zget E hw (Nat.le_of_ble_eq_true rfl) (ceC_3 ad cy _) rfl inX4 1 (by decide) k1_149 (fun _ h => h) rfl dX4_parts_7 ?_
  refine lv_aload_n hx hb dX4_parts_10 rfl (lv_at hl 0 rfl) ?_
  refine zget E hw (Nat.le_of_ble_eq_true rfl) (ceC_3 ad cy _) rfl inX4 2 (by decide) k1_156 (fun _ h => h) rfl dX4_parts_11 ?_
  refine lv_isub hx hb dX4_parts_14 ?_
  refine lv_topi (fun vq2 evq2 => ?_)
  replace hf := lt_i evq2 hf
  refine lv_istore_n (lv' := [(2, .int vq2), (0, .ref (ad 3)), (1, .int xq1)]) hx hb dX4_parts_15 rfl hl (by decide) rfl (fun ls hl => ?_)
  refine lv_iload_n hx hb dX4_parts_16 rfl (lv_at hl 0 rfl) ?_
  refine lv_if_ne (tgt := 27) hx hb dX4_parts_17 (by decide) (fun h => ?_) (fun h => ?_)
  · replace hf := it_t h hf
    refine lv_iload_n hx hb dX4_parts_27 rfl (lv_at hl 2 rfl) ?_
    refine lv_iload_n hx hb dX4_parts_28 rfl (lv_at hl 0 rfl) ?_
    obtain ⟨hzq3, hf⟩ := gd_e hf
    refine zirem hx hb dX4_parts_29 hzq3 ?_
    exact zreti E hw hr hlk (rt_a hf) (rt_b hf) dX4_parts_30
  · replace hf := it_n h hf
    refine lv_aload_n hx hb dX4_parts_20 rfl (lv_at hl 1 rfl) ?_
    refine lv_iconst (v := 1) hx hb dX4_parts_21 (by decide) ?_
    refine zputs E hw (Nat.le_of_ble_eq_true rfl) (ceC_3 ad cy _) rfl inX4 tyX4 tyX4_ok nmX4 4 (by decide) k1_161 (fun _ h => h) rfl rfl rfl (Nat.le_of_ble_eq_true rfl) (j := 4) (Eq.trans (ceC_3 ad cy _) (by rfl)) dX4_parts_22 (fun σ4 eσ4 H locs hw => ?_)
    replace hf := lt_i eσ4 hf
    refine lv_iconst (v := 0) hx hb dX4_parts_25 (by decide) ?_
    exact zreti E hw hr hlk (rt_a hf) (rt_b hf) dX4_parts_26
set_option maxRecDepth 100000 in
set_option maxHeartbeats 4000000 in
theorem c_X4_parts_p4 {l : Launch} {D : va_G} {cy : Cy} {ad : Nat → Nat} {A : Nat → Prop} (hA : okAd 97 ad A) (xq1 : Int32) (σ : Sg) {r : Int32} {σ9 : Sg} (hf : f_X4_parts_p4 xq1 σ = some (r, σ9)) : Met l yX4_parts (.code yX4_parts cX4_parts 3 (some .int) :: TT) ({ frames := 1, cells := 0, slots := 0, locals := 21 } : Room) (zPc D cy 97 (celC ad cy) ad A [.ref (ad 4), .int xq1] σ) (zQi D 97 (celC ad cy) ad A r σ9) 0 0 A := by
  refine zofW (by decide) hA (Nat.le_of_ble_eq_true rfl) ?_
  intro p e s m args below meth c ls E hw hr hlk hl
  have E : ZE p s m args c cX4_parts 3 "KiteSummons$Kite" D cy 97 ad A := E
  have hx := E.hx
  have hb := E.hb
  have hl : lv_has ls 3 [(0, .ref (ad 4)), (1, .int xq1)] := hl
  unfold f_X4_parts_p4 at hf
  refine lv_aload_n hx hb dX4_parts_0 rfl (lv_at hl 0 rfl) ?_
  refine lv_bipush (v := 12) hx hb dX4_parts_1 (by decide) ?_
  obtain ⟨σ1, hc, hf⟩ := bd_e hf
  refine zcalv hw (va_runU (As := [.int 12]) (rest := []) E.fix (c_X4_begin_p4 (l := l) hA 12 σ hc) (zcU E k5_104 k1_5 k5_117 k8_183 k5_103 k5_104 k8_189 k5_103 mfu_X4_begin rfl rfl ⟨Nat.le_of_ble_eq_true rfl, Nat.le_of_ble_eq_true rfl⟩) (zPreV E hw (Nat.le_of_ble_eq_true rfl) (ceC_4 ad cy _) rfl _) rfl rfl hl.1 rfl (lv_room (Nat.le_of_ble_eq_true rfl)) dX4_parts_3 ⟨Nat.zero_le _, Nat.zero_le _⟩) (fun H locs hw => ?_)
  refine lv_aload_n hx hb dX4_parts_6 rfl (lv_at hl 0 rfl) ?_
  refine zget E hw (Nat.le_of_ble_eq_true rfl) (ceC_4 ad cy _) rfl inX7 1 (by decide) k1_149 (fun _ h => h) rfl dX4_parts_7 ?_
  refine lv_aload_n hx hb dX4_parts_10 rfl (lv_at hl 0 rfl) ?_
  refine zget E hw (Nat.le_of_ble_eq_true rfl) (ceC_4 ad cy _) rfl inX7 2 (by decide) k1_156 (fun _ h => h) rfl dX4_parts_11 ?_
  refine lv_isub hx hb dX4_parts_14 ?_
  refine lv_topi (fun vq2 evq2 => ?_)
  replace hf := lt_i evq2 hf
  refine lv_istore_n (lv' := [(2, .int vq2), (0, .ref (ad 4)), (1, .int xq1)]) hx hb dX4_parts_15 rfl hl (by decide) rfl (fun ls hl => ?_)
  refine lv_iload_n hx hb dX4_parts_16 rfl (lv_at hl 0 rfl) ?_
  refine lv_if_ne (tgt := 27) hx hb dX4_parts_17 (by decide) (fun h => ?_) (fun h => ?_)
  · replace hf := it_t h hf
    refine lv_iload_n hx hb dX4_parts_27 rfl (lv_at hl 2 rfl) ?_
    refine lv_iload_n hx hb dX4_parts_28 rfl (lv_at hl 0 rfl) ?_
    obtain ⟨hzq3, hf⟩ := gd_e hf
    refine zirem hx hb dX4_parts_29 hzq3 ?_
    exact zreti E hw hr hlk (rt_a hf) (rt_b hf) dX4_parts_30
  · replace hf := it_n h hf
    refine lv_aload_n hx hb dX4_parts_20 rfl (lv_at hl 1 rfl) ?_
    refine lv_iconst (v := 1) hx hb dX4_parts_21 (by decide) ?_
    refine zputs E hw (Nat.le_of_ble_eq_true rfl) (ceC_4 ad cy _) rfl inX7 tyX7 tyX7_ok nmX7 4 (by decide) k1_161 (fun _ h => h) rfl rfl rfl (Nat.le_of_ble_eq_true rfl) (j := 4) (Eq.trans (ceC_4 ad cy _) (by rfl)) dX4_parts_22 (fun σ4 eσ4 H locs hw => ?_)
    replace hf := lt_i eσ4 hf
    refine lv_iconst (v := 0) hx hb dX4_parts_25 (by decide) ?_
    exact zreti E hw hr hlk (rt_a hf) (rt_b hf) dX4_parts_26
set_option maxRecDepth 100000 in
set_option maxHeartbeats 4000000 in
theorem c_X4_parts_p5 {l : Launch} {D : va_G} {cy : Cy} {ad : Nat → Nat} {A : Nat → Prop} (hA : okAd 97 ad A) (xq1 : Int32) (σ : Sg) {r : Int32} {σ9 : Sg} (hf : f_X4_parts_p5 xq1 σ = some (r, σ9)) : Met l yX4_parts (.code yX4_parts cX4_parts 3 (some .int) :: TT) ({ frames := 1, cells := 0, slots := 0, locals := 21 } : Room) (zPc D cy 97 (celC ad cy) ad A [.ref (ad 5), .int xq1] σ) (zQi D 97 (celC ad cy) ad A r σ9) 0 0 A := by
  refine zofW (by decide) hA (Nat.le_of_ble_eq_true rfl) ?_
  intro p e s m args below meth c ls E hw hr hlk hl
  have E : ZE p s m args c cX4_parts 3 "KiteSummons$Kite" D cy 97 ad A := E
  have hx := E.hx
  have hb := E.hb
  have hl : lv_has ls 3 [(0, .ref (ad 5)), (1, .int xq1)] := hl
  unfold f_X4_parts_p5 at hf
  refine lv_aload_n hx hb dX4_parts_0 rfl (lv_at hl 0 rfl) ?_
  refine lv_bipush (v := 12) hx hb dX4_parts_1 (by decide) ?_
  obtain ⟨σ1, hc, hf⟩ := bd_e hf
  refine zcalv hw (va_runU (As := [.int 12]) (rest := []) E.fix (c_X4_begin_p5 (l := l) hA 12 σ hc) (zcU E k5_104 k1_5 k5_117 k8_183 k5_103 k5_104 k8_185 k5_103 mfu_X4_begin rfl rfl ⟨Nat.le_of_ble_eq_true rfl, Nat.le_of_ble_eq_true rfl⟩) (zPreV E hw (Nat.le_of_ble_eq_true rfl) (ceC_5 ad cy _) rfl _) rfl rfl hl.1 rfl (lv_room (Nat.le_of_ble_eq_true rfl)) dX4_parts_3 ⟨Nat.zero_le _, Nat.zero_le _⟩) (fun H locs hw => ?_)
  refine lv_aload_n hx hb dX4_parts_6 rfl (lv_at hl 0 rfl) ?_
  refine zget E hw (Nat.le_of_ble_eq_true rfl) (ceC_5 ad cy _) rfl inX2 1 (by decide) k1_149 (fun _ h => h) rfl dX4_parts_7 ?_
  refine lv_aload_n hx hb dX4_parts_10 rfl (lv_at hl 0 rfl) ?_
  refine zget E hw (Nat.le_of_ble_eq_true rfl) (ceC_5 ad cy _) rfl inX2 2 (by decide) k1_156 (fun _ h => h) rfl dX4_parts_11 ?_
  refine lv_isub hx hb dX4_parts_14 ?_
  refine lv_topi (fun vq2 evq2 => ?_)
  replace hf := lt_i evq2 hf
  refine lv_istore_n (lv' := [(2, .int vq2), (0, .ref (ad 5)), (1, .int xq1)]) hx hb dX4_parts_15 rfl hl (by decide) rfl (fun ls hl => ?_)
  refine lv_iload_n hx hb dX4_parts_16 rfl (lv_at hl 0 rfl) ?_
  refine lv_if_ne (tgt := 27) hx hb dX4_parts_17 (by decide) (fun h => ?_) (fun h => ?_)
  · replace hf := it_t h hf
    refine lv_iload_n hx hb dX4_parts_27 rfl (lv_at hl 2 rfl) ?_
    refine lv_iload_n hx hb dX4_parts_28 rfl (lv_at hl 0 rfl) ?_
    obtain ⟨hzq3, hf⟩ := gd_e hf
    refine zirem hx hb dX4_parts_29 hzq3 ?_
    exact zreti E hw hr hlk (rt_a hf) (rt_b hf) dX4_parts_30
  · replace hf := it_n h hf
    refine lv_aload_n hx hb dX4_parts_20 rfl (lv_at hl 1 rfl) ?_
    refine lv_iconst (v := 1) hx hb dX4_parts_21 (by decide) ?_
    refine zputs E hw (Nat.le_of_ble_eq_true rfl) (ceC_5 ad cy _) rfl inX2 tyX2 tyX2_ok nmX2 4 (by decide) k1_161 (fun _ h => h) rfl rfl rfl (Nat.le_of_ble_eq_true rfl) (j := 4) (Eq.trans (ceC_5 ad cy _) (by rfl)) dX4_parts_22 (fun σ4 eσ4 H locs hw => ?_)
    replace hf := lt_i eσ4 hf
    refine lv_iconst (v := 0) hx hb dX4_parts_25 (by decide) ?_
    exact zreti E hw hr hlk (rt_a hf) (rt_b hf) dX4_parts_26
set_option maxRecDepth 100000 in
set_option maxHeartbeats 4000000 in
theorem c_X4_parts_p6 {l : Launch} {D : va_G} {cy : Cy} {ad : Nat → Nat} {A : Nat → Prop} (hA : okAd 97 ad A) (xq1 : Int32) (σ : Sg) {r : Int32} {σ9 : Sg} (hf : f_X4_parts_p6 xq1 σ = some (r, σ9)) : Met l yX4_parts (.code yX4_parts cX4_parts 3 (some .int) :: TT) ({ frames := 1, cells := 0, slots := 0, locals := 21 } : Room) (zPc D cy 97 (celC ad cy) ad A [.ref (ad 6), .int xq1] σ) (zQi D 97 (celC ad cy) ad A r σ9) 0 0 A := by
  refine zofW (by decide) hA (Nat.le_of_ble_eq_true rfl) ?_
  intro p e s m args below meth c ls E hw hr hlk hl
  have E : ZE p s m args c cX4_parts 3 "KiteSummons$Kite" D cy 97 ad A := E
  have hx := E.hx
  have hb := E.hb
  have hl : lv_has ls 3 [(0, .ref (ad 6)), (1, .int xq1)] := hl
  unfold f_X4_parts_p6 at hf
  refine lv_aload_n hx hb dX4_parts_0 rfl (lv_at hl 0 rfl) ?_
  refine lv_bipush (v := 12) hx hb dX4_parts_1 (by decide) ?_
  obtain ⟨σ1, hc, hf⟩ := bd_e hf
  refine zcalv hw (va_runU (As := [.int 12]) (rest := []) E.fix (c_X4_begin_p6 (l := l) hA 12 σ hc) (zcU E k5_104 k1_5 k5_117 k8_183 k5_103 k5_104 k8_186 k5_103 mfu_X4_begin rfl rfl ⟨Nat.le_of_ble_eq_true rfl, Nat.le_of_ble_eq_true rfl⟩) (zPreV E hw (Nat.le_of_ble_eq_true rfl) (ceC_6 ad cy _) rfl _) rfl rfl hl.1 rfl (lv_room (Nat.le_of_ble_eq_true rfl)) dX4_parts_3 ⟨Nat.zero_le _, Nat.zero_le _⟩) (fun H locs hw => ?_)
  refine lv_aload_n hx hb dX4_parts_6 rfl (lv_at hl 0 rfl) ?_
  refine zget E hw (Nat.le_of_ble_eq_true rfl) (ceC_6 ad cy _) rfl inX3 1 (by decide) k1_149 (fun _ h => h) rfl dX4_parts_7 ?_
  refine lv_aload_n hx hb dX4_parts_10 rfl (lv_at hl 0 rfl) ?_
  refine zget E hw (Nat.le_of_ble_eq_true rfl) (ceC_6 ad cy _) rfl inX3 2 (by decide) k1_156 (fun _ h => h) rfl dX4_parts_11 ?_
  refine lv_isub hx hb dX4_parts_14 ?_
  refine lv_topi (fun vq2 evq2 => ?_)
  replace hf := lt_i evq2 hf
  refine lv_istore_n (lv' := [(2, .int vq2), (0, .ref (ad 6)), (1, .int xq1)]) hx hb dX4_parts_15 rfl hl (by decide) rfl (fun ls hl => ?_)
  refine lv_iload_n hx hb dX4_parts_16 rfl (lv_at hl 0 rfl) ?_
  refine lv_if_ne (tgt := 27) hx hb dX4_parts_17 (by decide) (fun h => ?_) (fun h => ?_)
  · replace hf := it_t h hf
    refine lv_iload_n hx hb dX4_parts_27 rfl (lv_at hl 2 rfl) ?_
    refine lv_iload_n hx hb dX4_parts_28 rfl (lv_at hl 0 rfl) ?_
    obtain ⟨hzq3, hf⟩ := gd_e hf
    refine zirem hx hb dX4_parts_29 hzq3 ?_
    exact zreti E hw hr hlk (rt_a hf) (rt_b hf) dX4_parts_30
  · replace hf := it_n h hf
    refine lv_aload_n hx hb dX4_parts_20 rfl (lv_at hl 1 rfl) ?_
    refine lv_iconst (v := 1) hx hb dX4_parts_21 (by decide) ?_
    refine zputs E hw (Nat.le_of_ble_eq_true rfl) (ceC_6 ad cy _) rfl inX3 tyX3 tyX3_ok nmX3 4 (by decide) k1_161 (fun _ h => h) rfl rfl rfl (Nat.le_of_ble_eq_true rfl) (j := 4) (Eq.trans (ceC_6 ad cy _) (by rfl)) dX4_parts_22 (fun σ4 eσ4 H locs hw => ?_)
    replace hf := lt_i eσ4 hf
    refine lv_iconst (v := 0) hx hb dX4_parts_25 (by decide) ?_
    exact zreti E hw hr hlk (rt_a hf) (rt_b hf) dX4_parts_26
set_option maxRecDepth 100000 in
set_option maxHeartbeats 4000000 in
theorem c_X4_parts_p7 {l : Launch} {D : va_G} {cy : Cy} {ad : Nat → Nat} {A : Nat → Prop} (hA : okAd 97 ad A) (xq1 : Int32) (σ : Sg) {r : Int32} {σ9 : Sg} (hf : f_X4_parts_p7 xq1 σ = some (r, σ9)) : Met l yX4_parts (.code yX4_parts cX4_parts 3 (some .int) :: TT) ({ frames := 1, cells := 0, slots := 0, locals := 21 } : Room) (zPc D cy 97 (celC ad cy) ad A [.ref (ad 7), .int xq1] σ) (zQi D 97 (celC ad cy) ad A r σ9) 0 0 A := by
  refine zofW (by decide) hA (Nat.le_of_ble_eq_true rfl) ?_
  intro p e s m args below meth c ls E hw hr hlk hl
  have E : ZE p s m args c cX4_parts 3 "KiteSummons$Kite" D cy 97 ad A := E
  have hx := E.hx
  have hb := E.hb
  have hl : lv_has ls 3 [(0, .ref (ad 7)), (1, .int xq1)] := hl
  unfold f_X4_parts_p7 at hf
  refine lv_aload_n hx hb dX4_parts_0 rfl (lv_at hl 0 rfl) ?_
  refine lv_bipush (v := 12) hx hb dX4_parts_1 (by decide) ?_
  obtain ⟨σ1, hc, hf⟩ := bd_e hf
  refine zcalv hw (va_runU (As := [.int 12]) (rest := []) E.fix (c_X4_begin_p7 (l := l) hA 12 σ hc) (zcU E k5_104 k1_5 k5_117 k8_183 k5_103 k5_104 k8_184 k5_103 mfu_X4_begin rfl rfl ⟨Nat.le_of_ble_eq_true rfl, Nat.le_of_ble_eq_true rfl⟩) (zPreV E hw (Nat.le_of_ble_eq_true rfl) (ceC_7 ad cy _) rfl _) rfl rfl hl.1 rfl (lv_room (Nat.le_of_ble_eq_true rfl)) dX4_parts_3 ⟨Nat.zero_le _, Nat.zero_le _⟩) (fun H locs hw => ?_)
  refine lv_aload_n hx hb dX4_parts_6 rfl (lv_at hl 0 rfl) ?_
  refine zget E hw (Nat.le_of_ble_eq_true rfl) (ceC_7 ad cy _) rfl inX0 1 (by decide) k1_149 (fun _ h => h) rfl dX4_parts_7 ?_
  refine lv_aload_n hx hb dX4_parts_10 rfl (lv_at hl 0 rfl) ?_
  refine zget E hw (Nat.le_of_ble_eq_true rfl) (ceC_7 ad cy _) rfl inX0 2 (by decide) k1_156 (fun _ h => h) rfl dX4_parts_11 ?_
  refine lv_isub hx hb dX4_parts_14 ?_
  refine lv_topi (fun vq2 evq2 => ?_)
  replace hf := lt_i evq2 hf
  refine lv_istore_n (lv' := [(2, .int vq2), (0, .ref (ad 7)), (1, .int xq1)]) hx hb dX4_parts_15 rfl hl (by decide) rfl (fun ls hl => ?_)
  refine lv_iload_n hx hb dX4_parts_16 rfl (lv_at hl 0 rfl) ?_
  refine lv_if_ne (tgt := 27) hx hb dX4_parts_17 (by decide) (fun h => ?_) (fun h => ?_)
  · replace hf := it_t h hf
    refine lv_iload_n hx hb dX4_parts_27 rfl (lv_at hl 2 rfl) ?_
    refine lv_iload_n hx hb dX4_parts_28 rfl (lv_at hl 0 rfl) ?_
    obtain ⟨hzq3, hf⟩ := gd_e hf
    refine zirem hx hb dX4_parts_29 hzq3 ?_
    exact zreti E hw hr hlk (rt_a hf) (rt_b hf) dX4_parts_30
  · replace hf := it_n h hf
    refine lv_aload_n hx hb dX4_parts_20 rfl (lv_at hl 1 rfl) ?_
    refine lv_iconst (v := 1) hx hb dX4_parts_21 (by decide) ?_
    refine zputs E hw (Nat.le_of_ble_eq_true rfl) (ceC_7 ad cy _) rfl inX0 tyX0 tyX0_ok nmX0 4 (by decide) k1_161 (fun _ h => h) rfl rfl rfl (Nat.le_of_ble_eq_true rfl) (j := 4) (Eq.trans (ceC_7 ad cy _) (by rfl)) dX4_parts_22 (fun σ4 eσ4 H locs hw => ?_)
    replace hf := lt_i eσ4 hf
    refine lv_iconst (v := 0) hx hb dX4_parts_25 (by decide) ?_
    exact zreti E hw hr hlk (rt_a hf) (rt_b hf) dX4_parts_26
set_option maxRecDepth 100000 in
set_option maxHeartbeats 4000000 in
theorem c_X0_parts_p7 {l : Launch} {D : va_G} {cy : Cy} {ad : Nat → Nat} {A : Nat → Prop} (hA : okAd 97 ad A) (xq1 : Int32) (σ : Sg) {r : Int32} {σ9 : Sg} (hf : f_X0_parts_p7 xq1 σ = some (r, σ9)) : Met l yX0_parts (.code yX0_parts cX0_parts 2 (some .int) :: TT) ({ frames := 2, cells := 0, slots := 0, locals := 43 } : Room) (zPc D cy 97 (celC ad cy) ad A [.ref (ad 7), .int xq1] σ) (zQi D 97 (celC ad cy) ad A r σ9) 0 0 A := by
  refine zofW (by decide) hA (Nat.le_of_ble_eq_true rfl) ?_
  intro p e s m args below meth c ls E hw hr hlk hl
  have E : ZE p s m args c cX0_parts 2 "KiteSummons$Box" D cy 97 ad A := E
  have hx := E.hx
  have hb := E.hb
  have hl : lv_has ls 2 [(0, .ref (ad 7)), (1, .int xq1)] := hl
  unfold f_X0_parts_p7 at hf
  refine lv_aload_n hx hb dX0_parts_0 rfl (lv_at hl 0 rfl) ?_
  refine lv_bipush (v := 40) hx hb dX0_parts_1 (by decide) ?_
  obtain ⟨σ1, hc, hf⟩ := bd_e hf
  refine zcalv hw (va_runU (As := [.int 40]) (rest := []) E.fix (c_X4_begin_p7 (l := l) hA 40 σ hc) (zcU E k5_104 k1_5 k5_151 k5_152 k5_103 k5_104 k5_153 k5_103 mfu_X4_begin rfl rfl ⟨Nat.le_of_ble_eq_true rfl, Nat.le_of_ble_eq_true rfl⟩) (zPreV E hw (Nat.le_of_ble_eq_true rfl) (ceC_7 ad cy _) rfl _) rfl rfl hl.1 rfl (lv_room (Nat.le_of_ble_eq_true rfl)) dX0_parts_3 ⟨Nat.zero_le _, Nat.zero_le _⟩) (fun H locs hw => ?_)
  refine lv_iconst (v := 0) hx hb dX0_parts_6 (by decide) ?_
  refine lv_aload_n hx hb dX0_parts_7 rfl (lv_at hl 0 rfl) ?_
  refine lv_iload_n hx hb dX0_parts_8 rfl (lv_at hl 1 rfl) ?_
  obtain ⟨vq2, σ3, hc, hf⟩ := bd2_e hf
  refine zcali hw (va_runSU (As := [.int xq1]) (rest := [.int 0]) (E.hK.1 0 _ rfl).2 E.fix (c_X4_parts_p7 (l := l) hA xq1 σ1 hc) (zcSU E k5_166 k1_5 k5_155 k5_145 k5_147 k1_222 mfs_X4_parts rfl rfl ⟨Nat.le_of_ble_eq_true rfl, Nat.le_of_ble_eq_true rfl⟩) (zPreV E hw (Nat.le_of_ble_eq_true rfl) (ceC_7 ad cy _) rfl _) rfl rfl hl.1 rfl (lv_room (Nat.le_of_ble_eq_true rfl)) dX0_parts_9 ⟨Nat.zero_le _, Nat.zero_le _⟩) (fun H locs hw => ?_)
  refine lv_isub hx hb dX0_parts_12 ?_
  exact zreti E hw hr hlk (rt_a hf) (rt_b hf) dX0_parts_13
set_option maxRecDepth 100000 in
set_option maxHeartbeats 4000000 in
theorem c_X4_parts_p8 {l : Launch} {D : va_G} {cy : Cy} {ad : Nat → Nat} {A : Nat → Prop} (hA : okAd 97 ad A) (xq1 : Int32) (σ : Sg) {r : Int32} {σ9 : Sg} (hf : f_X4_parts_p8 xq1 σ = some (r, σ9)) : Met l yX4_parts (.code yX4_parts cX4_parts 3 (some .int) :: TT) ({ frames := 1, cells := 0, slots := 0, locals := 21 } : Room) (zPc D cy 97 (celC ad cy) ad A [.ref (ad 8), .int xq1] σ) (zQi D 97 (celC ad cy) ad A r σ9) 0 0 A := by
  refine zofW (by decide) hA (Nat.le_of_ble_eq_true rfl) ?_
  intro p e s m args below meth c ls E hw hr hlk hl
  have E : ZE p s m args c cX4_parts 3 "KiteSummons$Kite" D cy 97 ad A := E
  have hx := E.hx
  have hb := E.hb
  have hl : lv_has ls 3 [(0, .ref (ad 8)), (1, .int xq1)] := hl
  unfold f_X4_parts_p8 at hf
  refine lv_aload_n hx hb dX4_parts_0 rfl (lv_at hl 0 rfl) ?_
  refine lv_bipush (v := 12) hx hb dX4_parts_1 (by decide) ?_
  obtain ⟨σ1, hc, hf⟩ := bd_e hf
  refine zcalv hw (va_runU (As := [.int 12]) (rest := []) E.fix (c_X4_begin_p8 (l := l) hA 12 σ hc) (zcU E k5_104 k1_5 k5_117 k8_183 k5_103 k5_104 k8_188 k5_103 mfu_X4_begin rfl rfl ⟨Nat.le_of_ble_eq_true rfl, Nat.le_of_ble_eq_true rfl⟩) (zPreV E hw (Nat.le_of_ble_eq_true rfl) (ceC_8 ad cy _) rfl _) rfl rfl hl.1 rfl (lv_room (Nat.le_of_ble_eq_true rfl)) dX4_parts_3 ⟨Nat.zero_le _, Nat.zero_le _⟩) (fun H locs hw => ?_)
  refine lv_aload_n hx hb dX4_parts_6 rfl (lv_at hl 0 rfl) ?_
  refine zget E hw (Nat.le_of_ble_eq_true rfl) (ceC_8 ad cy _) rfl inX5 1 (by decide) k1_149 (fun _ h => h) rfl dX4_parts_7 ?_
  refine lv_aload_n hx hb dX4_parts_10 rfl (lv_at hl 0 rfl) ?_
  refine zget E hw (Nat.le_of_ble_eq_true rfl) (ceC_8 ad cy _) rfl inX5 2 (by decide) k1_156 (fun _ h => h) rfl dX4_parts_11 ?_
  refine lv_isub hx hb dX4_parts_14 ?_
  refine lv_topi (fun vq2 evq2 => ?_)
  replace hf := lt_i evq2 hf
  refine lv_istore_n (lv' := [(2, .int vq2), (0, .ref (ad 8)), (1, .int xq1)]) hx hb dX4_parts_15 rfl hl (by decide) rfl (fun ls hl => ?_)
  refine lv_iload_n hx hb dX4_parts_16 rfl (lv_at hl 0 rfl) ?_
  refine lv_if_ne (tgt := 27) hx hb dX4_parts_17 (by decide) (fun h => ?_) (fun h => ?_)
  · replace hf := it_t h hf
    refine lv_iload_n hx hb dX4_parts_27 rfl (lv_at hl 2 rfl) ?_
    refine lv_iload_n hx hb dX4_parts_28 rfl (lv_at hl 0 rfl) ?_
    obtain ⟨hzq3, hf⟩ := gd_e hf
    refine zirem hx hb dX4_parts_29 hzq3 ?_
    exact zreti E hw hr hlk (rt_a hf) (rt_b hf) dX4_parts_30
  · replace hf := it_n h hf
    refine lv_aload_n hx hb dX4_parts_20 rfl (lv_at hl 1 rfl) ?_
    refine lv_iconst (v := 1) hx hb dX4_parts_21 (by decide) ?_
    refine zputs E hw (Nat.le_of_ble_eq_true rfl) (ceC_8 ad cy _) rfl inX5 tyX5 tyX5_ok nmX5 4 (by decide) k1_161 (fun _ h => h) rfl rfl rfl (Nat.le_of_ble_eq_true rfl) (j := 4) (Eq.trans (ceC_8 ad cy _) (by rfl)) dX4_parts_22 (fun σ4 eσ4 H locs hw => ?_)
    replace hf := lt_i eσ4 hf
    refine lv_iconst (v := 0) hx hb dX4_parts_25 (by decide) ?_
    exact zreti E hw hr hlk (rt_a hf) (rt_b hf) dX4_parts_26
set_option maxRecDepth 100000 in
set_option maxHeartbeats 4000000 in
theorem c_X0_parts_p8 {l : Launch} {D : va_G} {cy : Cy} {ad : Nat → Nat} {A : Nat → Prop} (hA : okAd 97 ad A) (xq1 : Int32) (σ : Sg) {r : Int32} {σ9 : Sg} (hf : f_X0_parts_p8 xq1 σ = some (r, σ9)) : Met l yX0_parts (.code yX0_parts cX0_parts 2 (some .int) :: TT) ({ frames := 2, cells := 0, slots := 0, locals := 43 } : Room) (zPc D cy 97 (celC ad cy) ad A [.ref (ad 8), .int xq1] σ) (zQi D 97 (celC ad cy) ad A r σ9) 0 0 A := by
  refine zofW (by decide) hA (Nat.le_of_ble_eq_true rfl) ?_
  intro p e s m args below meth c ls E hw hr hlk hl
  have E : ZE p s m args c cX0_parts 2 "KiteSummons$Box" D cy 97 ad A := E
  have hx := E.hx
  have hb := E.hb
  have hl : lv_has ls 2 [(0, .ref (ad 8)), (1, .int xq1)] := hl
  unfold f_X0_parts_p8 at hf
  refine lv_aload_n hx hb dX0_parts_0 rfl (lv_at hl 0 rfl) ?_
  refine lv_bipush (v := 40) hx hb dX0_parts_1 (by decide) ?_
  obtain ⟨σ1, hc, hf⟩ := bd_e hf
  refine zcalv hw (va_runU (As := [.int 40]) (rest := []) E.fix (c_X4_begin_p8 (l := l) hA 40 σ hc) (zcU E k5_104 k1_5 k5_151 k5_152 k5_103 k5_104 k5_154 k5_103 mfu_X4_begin rfl rfl ⟨Nat.le_of_ble_eq_true rfl, Nat.le_of_ble_eq_true rfl⟩) (zPreV E hw (Nat.le_of_ble_eq_true rfl) (ceC_8 ad cy _) rfl _) rfl rfl hl.1 rfl (lv_room (Nat.le_of_ble_eq_true rfl)) dX0_parts_3 ⟨Nat.zero_le _, Nat.zero_le _⟩) (fun H locs hw => ?_)
  refine lv_iconst (v := 0) hx hb dX0_parts_6 (by decide) ?_
  refine lv_aload_n hx hb dX0_parts_7 rfl (lv_at hl 0 rfl) ?_
  refine lv_iload_n hx hb dX0_parts_8 rfl (lv_at hl 1 rfl) ?_
  obtain ⟨vq2, σ3, hc, hf⟩ := bd2_e hf
  refine zcali hw (va_runSU (As := [.int xq1]) (rest := [.int 0]) (E.hK.1 5 _ rfl).2 E.fix (c_X4_parts_p8 (l := l) hA xq1 σ1 hc) (zcSU E k5_166 k1_5 k5_155 k5_145 k5_147 k1_222 mfs_X4_parts rfl rfl ⟨Nat.le_of_ble_eq_true rfl, Nat.le_of_ble_eq_true rfl⟩) (zPreV E hw (Nat.le_of_ble_eq_true rfl) (ceC_8 ad cy _) rfl _) rfl rfl hl.1 rfl (lv_room (Nat.le_of_ble_eq_true rfl)) dX0_parts_9 ⟨Nat.zero_le _, Nat.zero_le _⟩) (fun H locs hw => ?_)
  refine lv_isub hx hb dX0_parts_12 ?_
  exact zreti E hw hr hlk (rt_a hf) (rt_b hf) dX0_parts_13
set_option maxRecDepth 100000 in
set_option maxHeartbeats 4000000 in
theorem c_X5_parts_p8 {l : Launch} {D : va_G} {cy : Cy} {ad : Nat → Nat} {A : Nat → Prop} (hA : okAd 97 ad A) (xq1 : Int32) (σ : Sg) {r : Int32} {σ9 : Sg} (hf : f_X5_parts_p8 xq1 σ = some (r, σ9)) : Met l yX5_parts (.code yX5_parts cX5_parts 3 (some .int) :: TT) ({ frames := 3, cells := 0, slots := 0, locals := 64 } : Room) (zPc D cy 97 (celC ad cy) ad A [.ref (ad 8), .int xq1] σ) (zQi D 97 (celC ad cy) ad A r σ9) 0 0 A := by
  refine zofW (by decide) hA (Nat.le_of_ble_eq_true rfl) ?_
  intro p e s m args below meth c ls E hw hr hlk hl
  have E : ZE p s m args c cX5_parts 3 "KiteSummons$Old" D cy 97 ad A := E
  have hx := E.hx
  have hb := E.hb
  have hl : lv_has ls 3 [(0, .ref (ad 8)), (1, .int xq1)] := hl
  unfold f_X5_parts_p8 at hf
  refine lv_aload_n hx hb dX5_parts_0 rfl (lv_at hl 0 rfl) ?_
  refine lv_bipush (v := 61) hx hb dX5_parts_1 (by decide) ?_
  obtain ⟨σ1, hc, hf⟩ := bd_e hf
  refine zcalv hw (va_runU (As := [.int 61]) (rest := []) E.fix (c_X4_begin_p8 (l := l) hA 61 σ hc) (zcU E k5_104 k1_5 k5_135 k5_136 k5_103 k5_104 k5_137 k5_103 mfu_X4_begin rfl rfl ⟨Nat.le_of_ble_eq_true rfl, Nat.le_of_ble_eq_true rfl⟩) (zPreV E hw (Nat.le_of_ble_eq_true rfl) (ceC_8 ad cy _) rfl _) rfl rfl hl.1 rfl (lv_room (Nat.le_of_ble_eq_true rfl)) dX5_parts_3 ⟨Nat.zero_le _, Nat.zero_le _⟩) (fun H locs hw => ?_)
  refine lv_aload_n hx hb dX5_parts_6 rfl (lv_at hl 0 rfl) ?_
  refine lv_iload_n hx hb dX5_parts_7 rfl (lv_at hl 1 rfl) ?_
  obtain ⟨vq2, σ3, hc, hf⟩ := bd2_e hf
  refine zcali hw (va_runSU (As := [.int xq1]) (rest := []) (E.hK.1 5 _ rfl).2 E.fix (c_X0_parts_p8 (l := l) hA xq1 σ1 hc) (zcSU E k5_150 k1_9 k5_161 k5_149 k8_190 k1_234 mfs_X0_parts rfl rfl ⟨Nat.le_of_ble_eq_true rfl, Nat.le_of_ble_eq_true rfl⟩) (zPreV E hw (Nat.le_of_ble_eq_true rfl) (ceC_8 ad cy _) rfl _) rfl rfl hl.1 rfl (lv_room (Nat.le_of_ble_eq_true rfl)) dX5_parts_8 ⟨Nat.zero_le _, Nat.zero_le _⟩) (fun H locs hw => ?_)
  refine lv_istore_n (lv' := [(2, .int vq2), (0, .ref (ad 8)), (1, .int xq1)]) hx hb dX5_parts_11 rfl hl (by decide) rfl (fun ls hl => ?_)
  refine lv_iload_n hx hb dX5_parts_12 rfl (lv_at hl 0 rfl) ?_
  refine lv_aload_n hx hb dX5_parts_13 rfl (lv_at hl 1 rfl) ?_
  refine lv_aload_n hx hb dX5_parts_14 rfl (lv_at hl 1 rfl) ?_
  refine zget E hw (Nat.le_of_ble_eq_true rfl) (ceC_8 ad cy _) rfl inX5 1 (by decide) k1_152 (fun x h => u_same (E.ht _ k1_153) x h) rfl dX5_parts_15 ?_
  obtain ⟨vq4, σ5, hc, hf⟩ := bd2_e hf
  refine zcali hw (va_runU (As := [.int (σ3 8 1)]) (rest := [.int vq2]) E.fix (c_X4_flies_p8 (l := l) hA (σ3 8 1) σ3 hc) (zcU E k5_116 k1_5 k5_162 k5_163 k5_91 k5_116 k5_164 k5_91 mfu_X4_flies rfl rfl ⟨Nat.le_of_ble_eq_true rfl, Nat.le_of_ble_eq_true rfl⟩) (zPreV E hw (Nat.le_of_ble_eq_true rfl) (ceC_8 ad cy _) rfl _) rfl rfl hl.1 rfl (lv_room (Nat.le_of_ble_eq_true rfl)) dX5_parts_18 ⟨Nat.zero_le _, Nat.zero_le _⟩) (fun H locs hw => ?_)
  refine lv_iadd hx hb dX5_parts_21 ?_
  exact zreti E hw hr hlk (rt_a hf) (rt_b hf) dX5_parts_22
set_option maxRecDepth 100000 in
set_option maxHeartbeats 4000000 in
theorem c_X4_calls_p3 {l : Launch} {D : va_G} {cy : Cy} {ad : Nat → Nat} {A : Nat → Prop} (hA : okAd 97 ad A) (xq1 : Int32) (σ : Sg) {r : Int32} {σ9 : Sg} (hf : f_X4_calls_p3 xq1 σ = some (r, σ9)) : Met l yX4_calls (.code yX4_calls cX4_calls 3 (some .int) :: TT) ({ frames := 3, cells := 0, slots := 0, locals := 63 } : Room) (zPc D cy 97 (celC ad cy) ad A [.ref (ad 3), .int xq1] σ) (zQi D 97 (celC ad cy) ad A r σ9) 0 0 A := by
  refine zofW (by decide) hA (Nat.le_of_ble_eq_true rfl) ?_
  intro p e s m args below meth c ls E hw hr hlk hl
  have E : ZE p s m args c cX4_calls 3 "KiteSummons$Kite" D cy 97 ad A := E
  have hx := E.hx
  have hb := E.hb
  have hl : lv_has ls 3 [(0, .ref (ad 3)), (1, .int xq1)] := hl
  unfold f_X4_calls_p3 at hf
  refine lv_aload_n hx hb dX4_calls_0 rfl (lv_at hl 0 rfl) ?_
  refine lv_bipush (v := 13) hx hb dX4_calls_1 (by decide) ?_
  obtain ⟨σ1, hc, hf⟩ := bd_e hf
  refine zcalv hw (va_runV (As := [.int 13]) (rest := []) E.fix (c_X4_begin_p3 (l := l) hA 13 σ hc) (zcV E k5_104 k1_5 k5_117 k5_103 k8_187 mf_X4_begin rfl rfl ⟨Nat.le_of_ble_eq_true rfl, Nat.le_of_ble_eq_true rfl⟩) (zPreV E hw (Nat.le_of_ble_eq_true rfl) (ceC_3 ad cy _) rfl _) rfl rfl hl.1 rfl (lv_room (Nat.le_of_ble_eq_true rfl)) dX4_calls_3 ⟨Nat.zero_le _, Nat.zero_le _⟩) (fun H locs hw => ?_)
  refine lv_aload_n hx hb dX4_calls_6 rfl (lv_at hl 0 rfl) ?_
  refine lv_iload_n hx hb dX4_calls_7 rfl (lv_at hl 1 rfl) ?_
  obtain ⟨vq2, σ3, hc, hf⟩ := bd2_e hf
  refine zcali hw (va_runV (As := [.int xq1]) (rest := []) E.fix (c_X4_reads_p3 (l := l) hA xq1 σ1 hc) (zcV E k5_142 k1_5 k5_186 k5_119 k5_120 mf_X4_reads rfl rfl ⟨Nat.le_of_ble_eq_true rfl, Nat.le_of_ble_eq_true rfl⟩) (zPreV E hw (Nat.le_of_ble_eq_true rfl) (ceC_3 ad cy _) rfl _) rfl rfl hl.1 rfl (lv_room (Nat.le_of_ble_eq_true rfl)) dX4_calls_8 ⟨Nat.zero_le _, Nat.zero_le _⟩) (fun H locs hw => ?_)
  refine lv_istore_n (lv' := [(2, .int vq2), (0, .ref (ad 3)), (1, .int xq1)]) hx hb dX4_calls_11 rfl hl (by decide) rfl (fun ls hl => ?_)
  refine lv_iload_n hx hb dX4_calls_12 rfl (lv_at hl 0 rfl) ?_
  refine lv_aload_n hx hb dX4_calls_13 rfl (lv_at hl 1 rfl) ?_
  refine lv_iload_n hx hb dX4_calls_14 rfl (lv_at hl 2 rfl) ?_
  obtain ⟨vq4, σ5, hc, hf⟩ := bd2_e hf
  refine zcali hw (va_runV (As := [.int xq1]) (rest := [.int vq2]) E.fix (c_X4_parts_p3 (l := l) hA xq1 σ3 hc) (zcV E k5_166 k1_5 k5_187 k5_145 k5_146 mf_X4_parts rfl rfl ⟨Nat.le_of_ble_eq_true rfl, Nat.le_of_ble_eq_true rfl⟩) (zPreV E hw (Nat.le_of_ble_eq_true rfl) (ceC_3 ad cy _) rfl _) rfl rfl hl.1 rfl (lv_room (Nat.le_of_ble_eq_true rfl)) dX4_calls_15 ⟨Nat.zero_le _, Nat.zero_le _⟩) (fun H locs hw => ?_)
  refine lv_iconst (v := 2) hx hb dX4_calls_18 (by decide) ?_
  refine lv_imul hx hb dX4_calls_19 ?_
  refine lv_iadd hx hb dX4_calls_20 ?_
  exact zreti E hw hr hlk (rt_a hf) (rt_b hf) dX4_calls_21
set_option maxRecDepth 100000 in
set_option maxHeartbeats 4000000 in
theorem c_X4_calls_p4 {l : Launch} {D : va_G} {cy : Cy} {ad : Nat → Nat} {A : Nat → Prop} (hA : okAd 97 ad A) (xq1 : Int32) (σ : Sg) {r : Int32} {σ9 : Sg} (hf : f_X4_calls_p4 xq1 σ = some (r, σ9)) : Met l yX4_calls (.code yX4_calls cX4_calls 3 (some .int) :: TT) ({ frames := 4, cells := 0, slots := 0, locals := 84 } : Room) (zPc D cy 97 (celC ad cy) ad A [.ref (ad 4), .int xq1] σ) (zQi D 97 (celC ad cy) ad A r σ9) 0 0 A := by
  refine zofW (by decide) hA (Nat.le_of_ble_eq_true rfl) ?_
  intro p e s m args below meth c ls E hw hr hlk hl
  have E : ZE p s m args c cX4_calls 3 "KiteSummons$Kite" D cy 97 ad A := E
  have hx := E.hx
  have hb := E.hb
  have hl : lv_has ls 3 [(0, .ref (ad 4)), (1, .int xq1)] := hl
  unfold f_X4_calls_p4 at hf
  refine lv_aload_n hx hb dX4_calls_0 rfl (lv_at hl 0 rfl) ?_
  refine lv_bipush (v := 13) hx hb dX4_calls_1 (by decide) ?_
  obtain ⟨σ1, hc, hf⟩ := bd_e hf
  refine zcalv hw (va_runU (As := [.int 13]) (rest := []) E.fix (c_X4_begin_p4 (l := l) hA 13 σ hc) (zcU E k5_104 k1_5 k5_117 k8_183 k5_103 k5_104 k8_189 k5_103 mfu_X4_begin rfl rfl ⟨Nat.le_of_ble_eq_true rfl, Nat.le_of_ble_eq_true rfl⟩) (zPreV E hw (Nat.le_of_ble_eq_true rfl) (ceC_4 ad cy _) rfl _) rfl rfl hl.1 rfl (lv_room (Nat.le_of_ble_eq_true rfl)) dX4_calls_3 ⟨Nat.zero_le _, Nat.zero_le _⟩) (fun H locs hw => ?_)
  refine lv_aload_n hx hb dX4_calls_6 rfl (lv_at hl 0 rfl) ?_
  refine lv_iload_n hx hb dX4_calls_7 rfl (lv_at hl 1 rfl) ?_
  obtain ⟨vq2, σ3, hc, hf⟩ := bd2_e hf
  refine zcali hw (va_runU (As := [.int xq1]) (rest := []) E.fix (c_X4_reads_p4 (l := l) hA xq1 σ1 hc) (zcU E k5_142 k1_5 k5_186 k5_121 k5_119 k5_142 k5_141 k5_119 mfu_X4_reads rfl rfl ⟨Nat.le_of_ble_eq_true rfl, Nat.le_of_ble_eq_true rfl⟩) (zPreV E hw (Nat.le_of_ble_eq_true rfl) (ceC_4 ad cy _) rfl _) rfl rfl hl.1 rfl (lv_room (Nat.le_of_ble_eq_true rfl)) dX4_calls_8 ⟨Nat.zero_le _, Nat.zero_le _⟩) (fun H locs hw => ?_)
  refine lv_istore_n (lv' := [(2, .int vq2), (0, .ref (ad 4)), (1, .int xq1)]) hx hb dX4_calls_11 rfl hl (by decide) rfl (fun ls hl => ?_)
  refine lv_iload_n hx hb dX4_calls_12 rfl (lv_at hl 0 rfl) ?_
  refine lv_aload_n hx hb dX4_calls_13 rfl (lv_at hl 1 rfl) ?_
  refine lv_iload_n hx hb dX4_calls_14 rfl (lv_at hl 2 rfl) ?_
  obtain ⟨vq4, σ5, hc, hf⟩ := bd2_e hf
  refine zcali hw (va_runU (As := [.int xq1]) (rest := [.int vq2]) E.fix (c_X4_parts_p4 (l := l) hA xq1 σ3 hc) (zcU E k5_166 k1_5 k5_187 k5_147 k5_145 k5_166 k5_165 k5_145 mfu_X4_parts rfl rfl ⟨Nat.le_of_ble_eq_true rfl, Nat.le_of_ble_eq_true rfl⟩) (zPreV E hw (Nat.le_of_ble_eq_true rfl) (ceC_4 ad cy _) rfl _) rfl rfl hl.1 rfl (lv_room (Nat.le_of_ble_eq_true rfl)) dX4_calls_15 ⟨Nat.zero_le _, Nat.zero_le _⟩) (fun H locs hw => ?_)
  refine lv_iconst (v := 2) hx hb dX4_calls_18 (by decide) ?_
  refine lv_imul hx hb dX4_calls_19 ?_
  refine lv_iadd hx hb dX4_calls_20 ?_
  exact zreti E hw hr hlk (rt_a hf) (rt_b hf) dX4_calls_21
set_option maxRecDepth 100000 in
set_option maxHeartbeats 4000000 in
theorem c_X4_calls_p5 {l : Launch} {D : va_G} {cy : Cy} {ad : Nat → Nat} {A : Nat → Prop} (hA : okAd 97 ad A) (xq1 : Int32) (σ : Sg) {r : Int32} {σ9 : Sg} (hf : f_X4_calls_p5 xq1 σ = some (r, σ9)) : Met l yX4_calls (.code yX4_calls cX4_calls 3 (some .int) :: TT) ({ frames := 4, cells := 0, slots := 0, locals := 84 } : Room) (zPc D cy 97 (celC ad cy) ad A [.ref (ad 5), .int xq1] σ) (zQi D 97 (celC ad cy) ad A r σ9) 0 0 A := by
  refine zofW (by decide) hA (Nat.le_of_ble_eq_true rfl) ?_
  intro p e s m args below meth c ls E hw hr hlk hl
  have E : ZE p s m args c cX4_calls 3 "KiteSummons$Kite" D cy 97 ad A := E
  have hx := E.hx
  have hb := E.hb
  have hl : lv_has ls 3 [(0, .ref (ad 5)), (1, .int xq1)] := hl
  unfold f_X4_calls_p5 at hf
  refine lv_aload_n hx hb dX4_calls_0 rfl (lv_at hl 0 rfl) ?_
  refine lv_bipush (v := 13) hx hb dX4_calls_1 (by decide) ?_
  obtain ⟨σ1, hc, hf⟩ := bd_e hf
  refine zcalv hw (va_runU (As := [.int 13]) (rest := []) E.fix (c_X4_begin_p5 (l := l) hA 13 σ hc) (zcU E k5_104 k1_5 k5_117 k8_183 k5_103 k5_104 k8_185 k5_103 mfu_X4_begin rfl rfl ⟨Nat.le_of_ble_eq_true rfl, Nat.le_of_ble_eq_true rfl⟩) (zPreV E hw (Nat.le_of_ble_eq_true rfl) (ceC_5 ad cy _) rfl _) rfl rfl hl.1 rfl (lv_room (Nat.le_of_ble_eq_true rfl)) dX4_calls_3 ⟨Nat.zero_le _, Nat.zero_le _⟩) (fun H locs hw => ?_)
  refine lv_aload_n hx hb dX4_calls_6 rfl (lv_at hl 0 rfl) ?_
  refine lv_iload_n hx hb dX4_calls_7 rfl (lv_at hl 1 rfl) ?_
  obtain ⟨vq2, σ3, hc, hf⟩ := bd2_e hf
  refine zcali hw (va_runU (As := [.int xq1]) (rest := []) E.fix (c_X2_reads_p5 (l := l) hA xq1 σ1 hc) (zcU E k5_125 k1_7 k5_186 k5_121 k5_119 k5_142 k5_123 k5_124 mfu_X4_reads rfl rfl ⟨Nat.le_of_ble_eq_true rfl, Nat.le_of_ble_eq_true rfl⟩) (zPreV E hw (Nat.le_of_ble_eq_true rfl) (ceC_5 ad cy _) rfl _) rfl rfl hl.1 rfl (lv_room (Nat.le_of_ble_eq_true rfl)) dX4_calls_8 ⟨Nat.zero_le _, Nat.zero_le _⟩) (fun H locs hw => ?_)
  refine lv_istore_n (lv' := [(2, .int vq2), (0, .ref (ad 5)), (1, .int xq1)]) hx hb dX4_calls_11 rfl hl (by decide) rfl (fun ls hl => ?_)
  refine lv_iload_n hx hb dX4_calls_12 rfl (lv_at hl 0 rfl) ?_
  refine lv_aload_n hx hb dX4_calls_13 rfl (lv_at hl 1 rfl) ?_
  refine lv_iload_n hx hb dX4_calls_14 rfl (lv_at hl 2 rfl) ?_
  obtain ⟨vq4, σ5, hc, hf⟩ := bd2_e hf
  refine zcali hw (va_runU (As := [.int xq1]) (rest := [.int vq2]) E.fix (c_X4_parts_p5 (l := l) hA xq1 σ3 hc) (zcU E k5_166 k1_5 k5_187 k5_147 k5_145 k5_166 k5_156 k5_145 mfu_X4_parts rfl rfl ⟨Nat.le_of_ble_eq_true rfl, Nat.le_of_ble_eq_true rfl⟩) (zPreV E hw (Nat.le_of_ble_eq_true rfl) (ceC_5 ad cy _) rfl _) rfl rfl hl.1 rfl (lv_room (Nat.le_of_ble_eq_true rfl)) dX4_calls_15 ⟨Nat.zero_le _, Nat.zero_le _⟩) (fun H locs hw => ?_)
  refine lv_iconst (v := 2) hx hb dX4_calls_18 (by decide) ?_
  refine lv_imul hx hb dX4_calls_19 ?_
  refine lv_iadd hx hb dX4_calls_20 ?_
  exact zreti E hw hr hlk (rt_a hf) (rt_b hf) dX4_calls_21
set_option maxRecDepth 100000 in
set_option maxHeartbeats 4000000 in
theorem c_X4_calls_p6 {l : Launch} {D : va_G} {cy : Cy} {ad : Nat → Nat} {A : Nat → Prop} (hA : okAd 97 ad A) (xq1 : Int32) (σ : Sg) {r : Int32} {σ9 : Sg} (hf : f_X4_calls_p6 xq1 σ = some (r, σ9)) : Met l yX4_calls (.code yX4_calls cX4_calls 3 (some .int) :: TT) ({ frames := 5, cells := 0, slots := 0, locals := 105 } : Room) (zPc D cy 97 (celC ad cy) ad A [.ref (ad 6), .int xq1] σ) (zQi D 97 (celC ad cy) ad A r σ9) 0 0 A := by
  refine zofW (by decide) hA (Nat.le_of_ble_eq_true rfl) ?_
  intro p e s m args below meth c ls E hw hr hlk hl
  have E : ZE p s m args c cX4_calls 3 "KiteSummons$Kite" D cy 97 ad A := E
  have hx := E.hx
  have hb := E.hb
  have hl : lv_has ls 3 [(0, .ref (ad 6)), (1, .int xq1)] := hl
  unfold f_X4_calls_p6 at hf
  refine lv_aload_n hx hb dX4_calls_0 rfl (lv_at hl 0 rfl) ?_
  refine lv_bipush (v := 13) hx hb dX4_calls_1 (by decide) ?_
  obtain ⟨σ1, hc, hf⟩ := bd_e hf
  refine zcalv hw (va_runU (As := [.int 13]) (rest := []) E.fix (c_X4_begin_p6 (l := l) hA 13 σ hc) (zcU E k5_104 k1_5 k5_117 k8_183 k5_103 k5_104 k8_186 k5_103 mfu_X4_begin rfl rfl ⟨Nat.le_of_ble_eq_true rfl, Nat.le_of_ble_eq_true rfl⟩) (zPreV E hw (Nat.le_of_ble_eq_true rfl) (ceC_6 ad cy _) rfl _) rfl rfl hl.1 rfl (lv_room (Nat.le_of_ble_eq_true rfl)) dX4_calls_3 ⟨Nat.zero_le _, Nat.zero_le _⟩) (fun H locs hw => ?_)
  refine lv_aload_n hx hb dX4_calls_6 rfl (lv_at hl 0 rfl) ?_
  refine lv_iload_n hx hb dX4_calls_7 rfl (lv_at hl 1 rfl) ?_
  obtain ⟨vq2, σ3, hc, hf⟩ := bd2_e hf
  refine zcali hw (va_runU (As := [.int xq1]) (rest := []) E.fix (c_X2_reads_p6 (l := l) hA xq1 σ1 hc) (zcU E k5_125 k1_7 k5_186 k5_121 k5_119 k5_142 k5_131 k5_124 mfu_X4_reads rfl rfl ⟨Nat.le_of_ble_eq_true rfl, Nat.le_of_ble_eq_true rfl⟩) (zPreV E hw (Nat.le_of_ble_eq_true rfl) (ceC_6 ad cy _) rfl _) rfl rfl hl.1 rfl (lv_room (Nat.le_of_ble_eq_true rfl)) dX4_calls_8 ⟨Nat.zero_le _, Nat.zero_le _⟩) (fun H locs hw => ?_)
  refine lv_istore_n (lv' := [(2, .int vq2), (0, .ref (ad 6)), (1, .int xq1)]) hx hb dX4_calls_11 rfl hl (by decide) rfl (fun ls hl => ?_)
  refine lv_iload_n hx hb dX4_calls_12 rfl (lv_at hl 0 rfl) ?_
  refine lv_aload_n hx hb dX4_calls_13 rfl (lv_at hl 1 rfl) ?_
  refine lv_iload_n hx hb dX4_calls_14 rfl (lv_at hl 2 rfl) ?_
  obtain ⟨vq4, σ5, hc, hf⟩ := bd2_e hf
  refine zcali hw (va_runU (As := [.int xq1]) (rest := [.int vq2]) E.fix (c_X4_parts_p6 (l := l) hA xq1 σ3 hc) (zcU E k5_166 k1_5 k5_187 k5_147 k5_145 k5_166 k5_157 k5_145 mfu_X4_parts rfl rfl ⟨Nat.le_of_ble_eq_true rfl, Nat.le_of_ble_eq_true rfl⟩) (zPreV E hw (Nat.le_of_ble_eq_true rfl) (ceC_6 ad cy _) rfl _) rfl rfl hl.1 rfl (lv_room (Nat.le_of_ble_eq_true rfl)) dX4_calls_15 ⟨Nat.zero_le _, Nat.zero_le _⟩) (fun H locs hw => ?_)
  refine lv_iconst (v := 2) hx hb dX4_calls_18 (by decide) ?_
  refine lv_imul hx hb dX4_calls_19 ?_
  refine lv_iadd hx hb dX4_calls_20 ?_
  exact zreti E hw hr hlk (rt_a hf) (rt_b hf) dX4_calls_21
set_option maxRecDepth 100000 in
set_option maxHeartbeats 4000000 in
theorem c_X3_calls_p6 {l : Launch} {D : va_G} {cy : Cy} {ad : Nat → Nat} {A : Nat → Prop} (hA : okAd 97 ad A) (xq1 : Int32) (σ : Sg) {r : Int32} {σ9 : Sg} (hf : f_X3_calls_p6 xq1 σ = some (r, σ9)) : Met l yX3_calls (.code yX3_calls cX3_calls 3 (some .int) :: TT) ({ frames := 6, cells := 0, slots := 0, locals := 127 } : Room) (zPc D cy 97 (celC ad cy) ad A [.ref (ad 6), .int xq1] σ) (zQi D 97 (celC ad cy) ad A r σ9) 0 0 A := by
  refine zofW (by decide) hA (Nat.le_of_ble_eq_true rfl) ?_
  intro p e s m args below meth c ls E hw hr hlk hl
  have E : ZE p s m args c cX3_calls 3 "KiteSummons$Judge" D cy 97 ad A := E
  have hx := E.hx
  have hb := E.hb
  have hl : lv_has ls 3 [(0, .ref (ad 6)), (1, .int xq1)] := hl
  unfold f_X3_calls_p6 at hf
  refine lv_aload_n hx hb dX3_calls_0 rfl (lv_at hl 0 rfl) ?_
  refine lv_bipush (v := 51) hx hb dX3_calls_1 (by decide) ?_
  obtain ⟨σ1, hc, hf⟩ := bd_e hf
  refine zcalv hw (va_runU (As := [.int 51]) (rest := []) E.fix (c_X4_begin_p6 (l := l) hA 51 σ hc) (zcU E k5_104 k1_5 k5_99 k5_100 k5_103 k5_104 k5_102 k5_103 mfu_X4_begin rfl rfl ⟨Nat.le_of_ble_eq_true rfl, Nat.le_of_ble_eq_true rfl⟩) (zPreV E hw (Nat.le_of_ble_eq_true rfl) (ceC_6 ad cy _) rfl _) rfl rfl hl.1 rfl (lv_room (Nat.le_of_ble_eq_true rfl)) dX3_calls_3 ⟨Nat.zero_le _, Nat.zero_le _⟩) (fun H locs hw => ?_)
  refine lv_aload_n hx hb dX3_calls_6 rfl (lv_at hl 0 rfl) ?_
  refine lv_iload_n hx hb dX3_calls_7 rfl (lv_at hl 1 rfl) ?_
  obtain ⟨vq2, σ3, hc, hf⟩ := bd2_e hf
  refine zcali hw (va_runSU2 (As := [.int xq1]) (rest := []) (E.hK.1 3 _ rfl).2 E.fix (c_X4_calls_p6 (l := l) hA xq1 σ1 hc) (zcSU2 E k5_185 k1_5 k5_176 k5_168 k5_177 k1_210 k1_198 mfs_X4_calls rfl rfl ⟨Nat.le_of_ble_eq_true rfl, Nat.le_of_ble_eq_true rfl⟩) (zPreV E hw (Nat.le_of_ble_eq_true rfl) (ceC_6 ad cy _) rfl _) rfl rfl hl.1 rfl (lv_room (Nat.le_of_ble_eq_true rfl)) dX3_calls_8 ⟨Nat.zero_le _, Nat.zero_le _⟩) (fun H locs hw => ?_)
  refine lv_istore_n (lv' := [(2, .int vq2), (0, .ref (ad 6)), (1, .int xq1)]) hx hb dX3_calls_11 rfl hl (by decide) rfl (fun ls hl => ?_)
  refine lv_iload_n hx hb dX3_calls_12 rfl (lv_at hl 0 rfl) ?_
  refine lv_aload_n hx hb dX3_calls_13 rfl (lv_at hl 1 rfl) ?_
  refine lv_aload_n hx hb dX3_calls_14 rfl (lv_at hl 1 rfl) ?_
  refine zget E hw (Nat.le_of_ble_eq_true rfl) (ceC_6 ad cy _) rfl inX3 1 (by decide) k1_154 (fun x h => u_same (E.ht _ k1_155) x h) rfl dX3_calls_15 ?_
  obtain ⟨vq4, σ5, hc, hf⟩ := bd2_e hf
  refine zcali hw (va_runU (As := [.int (σ3 6 1)]) (rest := [.int vq2]) E.fix (c_X2_reads_p6 (l := l) hA (σ3 6 1) σ3 hc) (zcU E k5_125 k1_7 k5_179 k5_180 k5_124 k5_125 k5_182 k5_124 mfu_X2_reads rfl rfl ⟨Nat.le_of_ble_eq_true rfl, Nat.le_of_ble_eq_true rfl⟩) (zPreV E hw (Nat.le_of_ble_eq_true rfl) (ceC_6 ad cy _) rfl _) rfl rfl hl.1 rfl (lv_room (Nat.le_of_ble_eq_true rfl)) dX3_calls_18 ⟨Nat.zero_le _, Nat.zero_le _⟩) (fun H locs hw => ?_)
  refine lv_isub hx hb dX3_calls_21 ?_
  exact zreti E hw hr hlk (rt_a hf) (rt_b hf) dX3_calls_22
set_option maxRecDepth 100000 in
set_option maxHeartbeats 4000000 in
theorem c_X4_calls_p7 {l : Launch} {D : va_G} {cy : Cy} {ad : Nat → Nat} {A : Nat → Prop} (hA : okAd 97 ad A) (xq1 : Int32) (σ : Sg) {r : Int32} {σ9 : Sg} (hf : f_X4_calls_p7 xq1 σ = some (r, σ9)) : Met l yX4_calls (.code yX4_calls cX4_calls 3 (some .int) :: TT) ({ frames := 3, cells := 0, slots := 0, locals := 64 } : Room) (zPc D cy 97 (celC ad cy) ad A [.ref (ad 7), .int xq1] σ) (zQi D 97 (celC ad cy) ad A r σ9) 0 0 A := by
  refine zofW (by decide) hA (Nat.le_of_ble_eq_true rfl) ?_
  intro p e s m args below meth c ls E hw hr hlk hl
  have E : ZE p s m args c cX4_calls 3 "KiteSummons$Kite" D cy 97 ad A := E
  have hx := E.hx
  have hb := E.hb
  have hl : lv_has ls 3 [(0, .ref (ad 7)), (1, .int xq1)] := hl
  unfold f_X4_calls_p7 at hf
  refine lv_aload_n hx hb dX4_calls_0 rfl (lv_at hl 0 rfl) ?_
  refine lv_bipush (v := 13) hx hb dX4_calls_1 (by decide) ?_
  obtain ⟨σ1, hc, hf⟩ := bd_e hf
  refine zcalv hw (va_runU (As := [.int 13]) (rest := []) E.fix (c_X4_begin_p7 (l := l) hA 13 σ hc) (zcU E k5_104 k1_5 k5_117 k8_183 k5_103 k5_104 k8_184 k5_103 mfu_X4_begin rfl rfl ⟨Nat.le_of_ble_eq_true rfl, Nat.le_of_ble_eq_true rfl⟩) (zPreV E hw (Nat.le_of_ble_eq_true rfl) (ceC_7 ad cy _) rfl _) rfl rfl hl.1 rfl (lv_room (Nat.le_of_ble_eq_true rfl)) dX4_calls_3 ⟨Nat.zero_le _, Nat.zero_le _⟩) (fun H locs hw => ?_)
  refine lv_aload_n hx hb dX4_calls_6 rfl (lv_at hl 0 rfl) ?_
  refine lv_iload_n hx hb dX4_calls_7 rfl (lv_at hl 1 rfl) ?_
  obtain ⟨vq2, σ3, hc, hf⟩ := bd2_e hf
  refine zcali hw (va_runU (As := [.int xq1]) (rest := []) E.fix (c_X4_reads_p7 (l := l) hA xq1 σ1 hc) (zcU E k5_142 k1_5 k5_186 k5_121 k5_119 k5_142 k5_122 k5_119 mfu_X4_reads rfl rfl ⟨Nat.le_of_ble_eq_true rfl, Nat.le_of_ble_eq_true rfl⟩) (zPreV E hw (Nat.le_of_ble_eq_true rfl) (ceC_7 ad cy _) rfl _) rfl rfl hl.1 rfl (lv_room (Nat.le_of_ble_eq_true rfl)) dX4_calls_8 ⟨Nat.zero_le _, Nat.zero_le _⟩) (fun H locs hw => ?_)
  refine lv_istore_n (lv' := [(2, .int vq2), (0, .ref (ad 7)), (1, .int xq1)]) hx hb dX4_calls_11 rfl hl (by decide) rfl (fun ls hl => ?_)
  refine lv_iload_n hx hb dX4_calls_12 rfl (lv_at hl 0 rfl) ?_
  refine lv_aload_n hx hb dX4_calls_13 rfl (lv_at hl 1 rfl) ?_
  refine lv_iload_n hx hb dX4_calls_14 rfl (lv_at hl 2 rfl) ?_
  obtain ⟨vq4, σ5, hc, hf⟩ := bd2_e hf
  refine zcali hw (va_runU (As := [.int xq1]) (rest := [.int vq2]) E.fix (c_X0_parts_p7 (l := l) hA xq1 σ3 hc) (zcU E k5_150 k1_9 k5_187 k5_147 k5_145 k5_166 k5_148 k5_149 mfu_X4_parts rfl rfl ⟨Nat.le_of_ble_eq_true rfl, Nat.le_of_ble_eq_true rfl⟩) (zPreV E hw (Nat.le_of_ble_eq_true rfl) (ceC_7 ad cy _) rfl _) rfl rfl hl.1 rfl (lv_room (Nat.le_of_ble_eq_true rfl)) dX4_calls_15 ⟨Nat.zero_le _, Nat.zero_le _⟩) (fun H locs hw => ?_)
  refine lv_iconst (v := 2) hx hb dX4_calls_18 (by decide) ?_
  refine lv_imul hx hb dX4_calls_19 ?_
  refine lv_iadd hx hb dX4_calls_20 ?_
  exact zreti E hw hr hlk (rt_a hf) (rt_b hf) dX4_calls_21
set_option maxRecDepth 100000 in
set_option maxHeartbeats 4000000 in
theorem c_X4_calls_p8 {l : Launch} {D : va_G} {cy : Cy} {ad : Nat → Nat} {A : Nat → Prop} (hA : okAd 97 ad A) (xq1 : Int32) (σ : Sg) {r : Int32} {σ9 : Sg} (hf : f_X4_calls_p8 xq1 σ = some (r, σ9)) : Met l yX4_calls (.code yX4_calls cX4_calls 3 (some .int) :: TT) ({ frames := 4, cells := 0, slots := 0, locals := 86 } : Room) (zPc D cy 97 (celC ad cy) ad A [.ref (ad 8), .int xq1] σ) (zQi D 97 (celC ad cy) ad A r σ9) 0 0 A := by
  refine zofW (by decide) hA (Nat.le_of_ble_eq_true rfl) ?_
  intro p e s m args below meth c ls E hw hr hlk hl
  have E : ZE p s m args c cX4_calls 3 "KiteSummons$Kite" D cy 97 ad A := E
  have hx := E.hx
  have hb := E.hb
  have hl : lv_has ls 3 [(0, .ref (ad 8)), (1, .int xq1)] := hl
  unfold f_X4_calls_p8 at hf
  refine lv_aload_n hx hb dX4_calls_0 rfl (lv_at hl 0 rfl) ?_
  refine lv_bipush (v := 13) hx hb dX4_calls_1 (by decide) ?_
  obtain ⟨σ1, hc, hf⟩ := bd_e hf
  refine zcalv hw (va_runU (As := [.int 13]) (rest := []) E.fix (c_X4_begin_p8 (l := l) hA 13 σ hc) (zcU E k5_104 k1_5 k5_117 k8_183 k5_103 k5_104 k8_188 k5_103 mfu_X4_begin rfl rfl ⟨Nat.le_of_ble_eq_true rfl, Nat.le_of_ble_eq_true rfl⟩) (zPreV E hw (Nat.le_of_ble_eq_true rfl) (ceC_8 ad cy _) rfl _) rfl rfl hl.1 rfl (lv_room (Nat.le_of_ble_eq_true rfl)) dX4_calls_3 ⟨Nat.zero_le _, Nat.zero_le _⟩) (fun H locs hw => ?_)
  refine lv_aload_n hx hb dX4_calls_6 rfl (lv_at hl 0 rfl) ?_
  refine lv_iload_n hx hb dX4_calls_7 rfl (lv_at hl 1 rfl) ?_
  obtain ⟨vq2, σ3, hc, hf⟩ := bd2_e hf
  refine zcali hw (va_runU (As := [.int xq1]) (rest := []) E.fix (c_X5_reads_p8 (l := l) hA xq1 σ1 hc) (zcU E k5_134 k1_10 k5_186 k5_121 k5_119 k5_142 k5_132 k5_133 mfu_X4_reads rfl rfl ⟨Nat.le_of_ble_eq_true rfl, Nat.le_of_ble_eq_true rfl⟩) (zPreV E hw (Nat.le_of_ble_eq_true rfl) (ceC_8 ad cy _) rfl _) rfl rfl hl.1 rfl (lv_room (Nat.le_of_ble_eq_true rfl)) dX4_calls_8 ⟨Nat.zero_le _, Nat.zero_le _⟩) (fun H locs hw => ?_)
  refine lv_istore_n (lv' := [(2, .int vq2), (0, .ref (ad 8)), (1, .int xq1)]) hx hb dX4_calls_11 rfl hl (by decide) rfl (fun ls hl => ?_)
  refine lv_iload_n hx hb dX4_calls_12 rfl (lv_at hl 0 rfl) ?_
  refine lv_aload_n hx hb dX4_calls_13 rfl (lv_at hl 1 rfl) ?_
  refine lv_iload_n hx hb dX4_calls_14 rfl (lv_at hl 2 rfl) ?_
  obtain ⟨vq4, σ5, hc, hf⟩ := bd2_e hf
  refine zcali hw (va_runU (As := [.int xq1]) (rest := [.int vq2]) E.fix (c_X5_parts_p8 (l := l) hA xq1 σ3 hc) (zcU E k5_160 k1_10 k5_187 k5_147 k5_145 k5_166 k5_158 k5_159 mfu_X4_parts rfl rfl ⟨Nat.le_of_ble_eq_true rfl, Nat.le_of_ble_eq_true rfl⟩) (zPreV E hw (Nat.le_of_ble_eq_true rfl) (ceC_8 ad cy _) rfl _) rfl rfl hl.1 rfl (lv_room (Nat.le_of_ble_eq_true rfl)) dX4_calls_15 ⟨Nat.zero_le _, Nat.zero_le _⟩) (fun H locs hw => ?_)
  refine lv_iconst (v := 2) hx hb dX4_calls_18 (by decide) ?_
  refine lv_imul hx hb dX4_calls_19 ?_
  refine lv_iadd hx hb dX4_calls_20 ?_
  exact zreti E hw hr hlk (rt_a hf) (rt_b hf) dX4_calls_21
