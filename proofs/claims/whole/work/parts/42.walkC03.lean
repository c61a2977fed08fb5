set_option maxRecDepth 100000 in
set_option maxHeartbeats 4000000 in
theorem c_X11_worthOnTrial {l : Launch} {D : va_G} {cy : Cy} {ad : Nat → Nat} {A : Nat → Prop} (hA : okAd 97 ad A) (xq1 : Int32) (σ : Sg) {r : Int32} {σ9 : Sg} (hf : f_X11_worthOnTrial xq1 σ = some (r, σ9)) : Met l yX11_worthOnTrial (.code yX11_worthOnTrial cX11_worthOnTrial 4 (some .int) :: TT) ({ frames := 5, cells := 0, slots := 0, locals := 117 } : Room) (zPc D cy 97 (celC ad cy) ad A [.ref (ad 0), .int xq1] σ) (zQi D 97 (celC ad cy) ad A r σ9) 0 0 A := by
  refine zofW (by decide) hA (Nat.le_of_ble_eq_true rfl) ?_
  intro p e s m args below meth c ls E hw hr hlk hl
  have E : ZE p s m args c cX11_worthOnTrial 4 "KiteSummons" D cy 97 ad A := E
  have hx := E.hx
  have hb := E.hb
  have hl : lv_has ls 4 [(0, .ref (ad 0)), (1, .int xq1)] := hl
  have hB4 : ∀ (xq1 : Int32) (kq4 : Int32 → Int32 → Sg → Option (Int32 × Sg)) (hkq4 : ∀ (xq2 : Int32) (xq3 : Int32) (σ : Sg) (H : Heap) (locs : List Loc) (ls : Array Slot), ZS D 97 (celC ad cy) ad A s σ H locs → lv_has ls 4 [(0, .ref (ad 0)), (1, .int xq1), (2, .int xq2), (3, .int xq3)] → kq4 xq2 xq3 σ = some (r, σ9) → W p l e ({ frames := 5, cells := 0, slots := 0, locals := 117 } : Room) s m args below meth c H locs 0 0 (MQ below (zQi D 97 (celC ad cy) ad A r σ9) args s 0 0 A) (F0 m 4 ls [])) (xq2 : Int32) (xq3 : Int32) (σ : Sg) (H : Heap) (locs : List Loc) (ls : Array Slot), ZS D 97 (celC ad cy) ad A s σ H locs → lv_has ls 4 [(0, .ref (ad 0)), (1, .int xq1), (2, .int xq2), (3, .int xq3)] → f_X11_worthOnTrial_b4 kq4 xq1 xq2 xq3 σ = some (r, σ9) → W p l e ({ frames := 5, cells := 0, slots := 0, locals := 117 } : Room) s m args below meth c H locs 0 0 (MQ below (zQi D 97 (celC ad cy) ad A r σ9) args s 0 0 A) (F0 m 4 ls []) := by
    intro xq1 kq4 hkq4 xq2 xq3 σ H locs ls hw hl hf
    unfold f_X11_worthOnTrial_b4 at hf
    refine lv_iload_n hx hb dX11_worthOnTrial_4 rfl (lv_at hl 3 rfl) ?_
    refine lv_iload_n hx hb dX11_worthOnTrial_5 rfl (lv_at hl 1 rfl) ?_
    refine lv_icmp_ge (tgt := 43) hx hb dX11_worthOnTrial_6 (by decide) (fun h => ?_) (fun h => ?_)
    · replace hf := it_t h hf
      refine lv_iload_n hx hb dX11_worthOnTrial_43 rfl (lv_at hl 2 rfl) ?_
      exact zreti E hw hr hlk (rt_a hf) (rt_b hf) dX11_worthOnTrial_44
    · replace hf := it_f h hf
      refine lv_aload_n hx hb dX11_worthOnTrial_9 rfl (lv_at hl 0 rfl) ?_
      refine zget E hw (Nat.le_of_ble_eq_true rfl) (ceC_0 ad cy _) rfl inX11 2 (by decide) k2_123 (fun _ h => h) rfl dX11_worthOnTrial_10 ?_
      refine lv_aload_n hx hb dX11_worthOnTrial_13 rfl (lv_at hl 0 rfl) ?_
      refine zget E hw (Nat.le_of_ble_eq_true rfl) (ceC_0 ad cy _) rfl inX11 6 (by decide) k2_127 (fun _ h => h) rfl dX11_worthOnTrial_14 ?_
      refine zcali hw (va_runV (As := [.ref (ad 64)]) (rest := []) E.fix (c_X1_isOver (l := l) hA 64 (by unfold isSky; omega) σ rfl) (zcV E k3_106 k1_11 k3_103 k3_104 k3_105 mf_X1_isOver rfl rfl ⟨Nat.le_of_ble_eq_true rfl, Nat.le_of_ble_eq_true rfl⟩) (zPreV E hw (Nat.le_of_ble_eq_true rfl) (ceC_24 ad cy _) rfl _) rfl rfl hl.1 rfl (lv_room (Nat.le_of_ble_eq_true rfl)) dX11_worthOnTrial_17 ⟨Nat.zero_le _, Nat.zero_le _⟩) (fun H locs hw => ?_)
      refine lv_if_ne (tgt := 43) hx hb dX11_worthOnTrial_20 (by decide) (fun h => ?_) (fun h => ?_)
      · replace hf := it_t (b2i_n h) hf
        refine lv_iload_n hx hb dX11_worthOnTrial_43 rfl (lv_at hl 2 rfl) ?_
        exact zreti E hw hr hlk (rt_a hf) (rt_b hf) dX11_worthOnTrial_44
      · replace hf := it_f (b2i_0 h) hf
        refine lv_iload_n hx hb dX11_worthOnTrial_23 rfl (lv_at hl 2 rfl) ?_
        refine lv_aload_n hx hb dX11_worthOnTrial_24 rfl (lv_at hl 0 rfl) ?_
        refine zget E hw (Nat.le_of_ble_eq_true rfl) (ceC_0 ad cy _) rfl inX11 2 (by decide) k2_123 (fun _ h => h) rfl dX11_worthOnTrial_25 ?_
        refine lv_aload_n hx hb dX11_worthOnTrial_28 rfl (lv_at hl 0 rfl) ?_
        refine zget E hw (Nat.le_of_ble_eq_true rfl) (ceC_0 ad cy _) rfl inX11 6 (by decide) k2_127 (fun _ h => h) rfl dX11_worthOnTrial_29 ?_
        obtain ⟨vq1, σ2, hc, hf⟩ := bd2_e hf
        refine zcali hw (va_runV (As := [.ref (ad 64)]) (rest := [.int xq2]) E.fix (c_X1_goByRest (l := l) hA 64 (by unfold isSky; omega) σ hc) (zcV E k4_30 k1_11 k4_27 k4_28 k4_29 mf_X1_goByRest rfl rfl ⟨Nat.le_of_ble_eq_true rfl, Nat.le_of_ble_eq_true rfl⟩) (zPreV E hw (Nat.le_of_ble_eq_true rfl) (ceC_24 ad cy _) rfl _) rfl rfl hl.1 rfl (lv_room (Nat.le_of_ble_eq_true rfl)) dX11_worthOnTrial_32 ⟨Nat.zero_le _, Nat.zero_le _⟩) (fun H locs hw => ?_)
        refine lv_iadd hx hb dX11_worthOnTrial_35 ?_
        refine lv_topi (fun vq3 evq3 => ?_)
        replace hf := lt_i evq3 hf
        refine lv_istore_n (lv' := [(2, .int vq3), (0, .ref (ad 0)), (1, .int xq1), (3, .int xq3)]) hx hb dX11_worthOnTrial_36 rfl hl (by decide) rfl (fun ls hl => ?_)
        refine lv_iinc (v := (xq3 + 1)) (lv' := [(3, .int (xq3 + 1)), (2, .int vq3), (0, .ref (ad 0)), (1, .int xq1)]) hx hb dX11_worthOnTrial_37 hl (k := 3) rfl (by rfl) (by decide) rfl (fun ls hl => ?_)
        refine lv_goto (tgt := 4) hx hb dX11_worthOnTrial_40 (by decide) ?_
        exact hkq4 vq3 (xq3 + 1) σ2 _ _ _ hw (lv_sub hl [2, 3, 1, 0] rfl) hf
  have hL4 : ∀ (xq1 : Int32) (n : Nat) (xq2 : Int32) (xq3 : Int32) (σ : Sg) (H : Heap) (locs : List Loc) (ls : Array Slot), ZS D 97 (celC ad cy) ad A s σ H locs → lv_has ls 4 [(0, .ref (ad 0)), (1, .int xq1), (2, .int xq2), (3, .int xq3)] → f_X11_worthOnTrial_l4 xq1 n xq2 xq3 σ = some (r, σ9) → W p l e ({ frames := 5, cells := 0, slots := 0, locals := 117 } : Room) s m args below meth c H locs 0 0 (MQ below (zQi D 97 (celC ad cy) ad A r σ9) args s 0 0 A) (F0 m 4 ls []) := by
    intro xq1 n
    induction n with
    | zero =>
      intro xq2 xq3 σ H locs ls hw hl hf
      exact nn_e hf
    | succ n ih =>
      intro xq2 xq3 σ H locs ls hw hl hf
      exact hB4 xq1 (f_X11_worthOnTrial_l4 xq1 n) ih xq2 xq3 σ H locs ls hw hl hf
  unfold f_X11_worthOnTrial at hf
  refine lv_iconst (v := 0) hx hb dX11_worthOnTrial_0 (by decide) ?_
  refine lv_istore_n (lv' := [(2, .int 0), (0, .ref (ad 0)), (1, .int xq1)]) hx hb dX11_worthOnTrial_1 rfl hl (by decide) rfl (fun ls hl => ?_)
  refine lv_iconst (v := 0) hx hb dX11_worthOnTrial_2 (by decide) ?_
  refine lv_istore_n (lv' := [(3, .int 0), (2, .int 0), (0, .ref (ad 0)), (1, .int xq1)]) hx hb dX11_worthOnTrial_3 rfl hl (by decide) rfl (fun ls hl => ?_)
  exact hL4 xq1 400 0 0 σ _ _ _ hw (lv_sub hl [2, 3, 1, 0] rfl) hf
set_option maxRecDepth 100000 in
set_option maxHeartbeats 4000000 in
theorem c_X11_worthOfRest {l : Launch} {D : va_G} {cy : Cy} {ad : Nat → Nat} {A : Nat → Prop} (hA : okAd 97 ad A) (xq1 : Int32) (σ : Sg) {r : Int32} {σ9 : Sg} (hf : f_X11_worthOfRest xq1 σ = some (r, σ9)) : Met l yX11_worthOfRest (.code yX11_worthOfRest cX11_worthOfRest 2 (some .int) :: TT) ({ frames := 6, cells := 0, slots := 0, locals := 140 } : Room) (zPc D cy 97 (celC ad cy) ad A [.ref (ad 0), .int xq1] σ) (zQi D 97 (celC ad cy) ad A r σ9) 0 0 A := by
  refine zofW (by decide) hA (Nat.le_of_ble_eq_true rfl) ?_
  intro p e s m args below meth c ls E hw hr hlk hl
  have E : ZE p s m args c cX11_worthOfRest 2 "KiteSummons" D cy 97 ad A := E
  have hx := E.hx
  have hb := E.hb
  have hl : lv_has ls 2 [(0, .ref (ad 0)), (1, .int xq1)] := hl
  unfold f_X11_worthOfRest at hf
  refine lv_aload_n hx hb dX11_worthOfRest_0 rfl (lv_at hl 0 rfl) ?_
  refine zget E hw (Nat.le_of_ble_eq_true rfl) (ceC_0 ad cy _) rfl inX11 6 (by decide) k2_127 (fun _ h => h) rfl dX11_worthOfRest_1 ?_
  refine lv_aload_n hx hb dX11_worthOfRest_4 rfl (lv_at hl 0 rfl) ?_
  refine zget E hw (Nat.le_of_ble_eq_true rfl) (ceC_0 ad cy _) rfl inX11 2 (by decide) k2_123 (fun _ h => h) rfl dX11_worthOfRest_5 ?_
  refine zget E hw (Nat.le_of_ble_eq_true rfl) (ceC_24 ad cy _) rfl inX1 15 (by decide) k2_36 (fun _ h => h) rfl dX11_worthOfRest_8 ?_
  obtain ⟨σ1, hc, hf⟩ := lt_e hf
  refine zcalv hw (va_runV (As := [.ref (ad 41)]) (rest := []) E.fix (c_X10_copy (l := l) hA 64 (by unfold isSky; omega) 41 (by unfold isSky; omega) σ hc) (zcV E k4_63 k1_4 k4_60 k4_61 k4_62 mf_X10_copy rfl rfl ⟨Nat.le_of_ble_eq_true rfl, Nat.le_of_ble_eq_true rfl⟩) (zPreV E hw (Nat.le_of_ble_eq_true rfl) (ceC_64 ad cy _) rfl _) rfl rfl hl.1 rfl (lv_room (Nat.le_of_ble_eq_true rfl)) dX11_worthOfRest_11 ⟨Nat.zero_le _, Nat.zero_le _⟩) (fun H locs hw => ?_)
  refine lv_aload_n hx hb dX11_worthOfRest_14 rfl (lv_at hl 0 rfl) ?_
  refine lv_iload_n hx hb dX11_worthOfRest_15 rfl (lv_at hl 1 rfl) ?_
  obtain ⟨vq2, σ3, hc, hf⟩ := bd2_e hf
  refine zcali hw (va_runV (As := [.int xq1]) (rest := []) E.fix (c_X11_worthOnTrial (l := l) hA xq1 σ1 hc) (zcV E k4_68 k1_1 k4_65 k4_67 kp2_8 mf_X11_worthOnTrial rfl rfl ⟨Nat.le_of_ble_eq_true rfl, Nat.le_of_ble_eq_true rfl⟩) (zPreV E hw (Nat.le_of_ble_eq_true rfl) (ceC_0 ad cy _) rfl _) rfl rfl hl.1 rfl (lv_room (Nat.le_of_ble_eq_true rfl)) dX11_worthOfRest_16 ⟨Nat.zero_le _, Nat.zero_le _⟩) (fun H locs hw => ?_)
  exact zreti E hw hr hlk (rt_a hf) (rt_b hf) dX11_worthOfRest_19
set_option maxRecDepth 100000 in
set_option maxHeartbeats 4000000 in
theorem c_X11_on {l : Launch} {D : va_G} {cy : Cy} {ad : Nat → Nat} {A : Nat → Prop} (hA : okAd 97 ad A) (xq1 : Int32) (σ : Sg) {r : Int32} {σ9 : Sg} (hf : f_X11_on xq1 σ = some (r, σ9)) : Met l yX11_on (.code yX11_on cX11_on 2 (some .int) :: TT) ({ frames := 7, cells := 0, slots := 0, locals := 161 } : Room) (zPc D cy 97 (celC ad cy) ad A [.ref (ad 0), .int xq1] σ) (zQi D 97 (celC ad cy) ad A r σ9) 0 0 A := by
  refine zofW (by decide) hA (Nat.le_of_ble_eq_true rfl) ?_
  intro p e s m args below meth c ls E hw hr hlk hl
  have E : ZE p s m args c cX11_on 2 "KiteSummons" D cy 97 ad A := E
  have hx := E.hx
  have hb := E.hb
  have hl : lv_has ls 2 [(0, .ref (ad 0)), (1, .int xq1)] := hl
  unfold f_X11_on at hf
  refine lv_iload_n hx hb dX11_on_0 rfl (lv_at hl 1 rfl) ?_
  refine lv_iconst (v := 0) hx hb dX11_on_1 (by decide) ?_
  refine lv_bipush (v := 16) hx hb dX11_on_2 (by decide) ?_
  refine zcali hw (va_runS (As := [.int xq1, .int 0, .int 16]) (rest := []) E.fix (c_X11_within (l := l) hA xq1 0 16 σ rfl) (zcS E k2_179 k1_1 k2_177 k2_178 mf_X11_within rfl rfl ⟨Nat.le_of_ble_eq_true rfl, Nat.le_of_ble_eq_true rfl⟩) (zPre E hw _) rfl rfl hl.1 rfl (lv_room (Nat.le_of_ble_eq_true rfl)) dX11_on_4 ⟨Nat.zero_le _, Nat.zero_le _⟩) (fun H locs hw => ?_)
  refine lv_if_eq (tgt := 18) hx hb dX11_on_7 (by decide) (fun h => ?_) (fun h => ?_)
  · replace hf := it_f (b2i_0 h) hf
    refine lv_iconst (v := (-1)) hx hb dX11_on_18 (by decide) ?_
    exact zreti E hw hr hlk (rt_a hf) (rt_b hf) dX11_on_19
  · replace hf := it_t (b2i_n h) hf
    refine lv_aload_n hx hb dX11_on_10 rfl (lv_at hl 0 rfl) ?_
    refine lv_iload_n hx hb dX11_on_11 rfl (lv_at hl 1 rfl) ?_
    obtain ⟨vq1, σ2, hc, hf⟩ := bd2_e hf
    refine zcali hw (va_runV (As := [.int xq1]) (rest := []) E.fix (c_X11_worthOfRest (l := l) hA xq1 σ hc) (zcV E k4_59 k1_1 k4_56 k4_58 kp2_7 mf_X11_worthOfRest rfl rfl ⟨Nat.le_of_ble_eq_true rfl, Nat.le_of_ble_eq_true rfl⟩) (zPreV E hw (Nat.le_of_ble_eq_true rfl) (ceC_0 ad cy _) rfl _) rfl rfl hl.1 rfl (lv_room (Nat.le_of_ble_eq_true rfl)) dX11_on_12 ⟨Nat.zero_le _, Nat.zero_le _⟩) (fun H locs hw => ?_)
    refine lv_goto (tgt := 19) hx hb dX11_on_15 (by decide) ?_
    exact zreti E hw hr hlk (rt_a hf) (rt_b hf) dX11_on_19
set_option maxRecDepth 100000 in
set_option maxHeartbeats 4000000 in
theorem c_X11_when {l : Launch} {D : va_G} {cy : Cy} {ad : Nat → Nat} {A : Nat → Prop} (hA : okAd 97 ad A) (xq1 : Int32) (σ : Sg) {r : Int32} {σ9 : Sg} (hf : f_X11_when xq1 σ = some (r, σ9)) : Met l yX11_when (.code yX11_when cX11_when 3 (some .int) :: TT) ({ frames := 5, cells := 0, slots := 0, locals := 117 } : Room) (zPc D cy 97 (celC ad cy) ad A [.ref (ad 0), .int xq1] σ) (zQi D 97 (celC ad cy) ad A r σ9) 0 0 A := by
  refine zofW (by decide) hA (Nat.le_of_ble_eq_true rfl) ?_
  intro p e s m args below meth c ls E hw hr hlk hl
  have E : ZE p s m args c cX11_when 3 "KiteSummons" D cy 97 ad A := E
  have hx := E.hx
  have hb := E.hb
  have hl : lv_has ls 3 [(0, .ref (ad 0)), (1, .int xq1)] := hl
  have hB43 : ∀ (xq1 : Int32) (kq43 : Int32 → Sg → Option (Int32 × Sg)) (hkq43 : ∀ (xq2 : Int32) (σ : Sg) (H : Heap) (locs : List Loc) (ls : Array Slot), ZS D 97 (celC ad cy) ad A s σ H locs → lv_has ls 3 [(0, .ref (ad 0)), (1, .int xq1), (2, .int xq2)] → kq43 xq2 σ = some (r, σ9) → W p l e ({ frames := 5, cells := 0, slots := 0, locals := 117 } : Room) s m args below meth c H locs 0 0 (MQ below (zQi D 97 (celC ad cy) ad A r σ9) args s 0 0 A) (F0 m 43 ls [])) (xq2 : Int32) (σ : Sg) (H : Heap) (locs : List Loc) (ls : Array Slot), ZS D 97 (celC ad cy) ad A s σ H locs → lv_has ls 3 [(0, .ref (ad 0)), (1, .int xq1), (2, .int xq2)] → f_X11_when_b43 kq43 xq1 xq2 σ = some (r, σ9) → W p l e ({ frames := 5, cells := 0, slots := 0, locals := 117 } : Room) s m args below meth c H locs 0 0 (MQ below (zQi D 97 (celC ad cy) ad A r σ9) args s 0 0 A) (F0 m 43 ls []) := by
    intro xq1 kq43 hkq43 xq2 σ H locs ls hw hl hf
    unfold f_X11_when_b43 at hf
    refine lv_iload_n hx hb dX11_when_43 rfl (lv_at hl 2 rfl) ?_
    refine lv_bipush (v := 16) hx hb dX11_when_44 (by decide) ?_
    refine lv_icmp_ge (tgt := 105) hx hb dX11_when_46 (by decide) (fun h => ?_) (fun h => ?_)
    · replace hf := it_t h hf
      refine lv_bipush (v := (-3)) hx hb dX11_when_105 (by decide) ?_
      exact zreti E hw hr hlk (rt_a hf) (rt_b hf) dX11_when_107
    · replace hf := it_f h hf
      refine lv_aload_n hx hb dX11_when_49 rfl (lv_at hl 0 rfl) ?_
      refine zget E hw (Nat.le_of_ble_eq_true rfl) (ceC_0 ad cy _) rfl inX11 2 (by decide) k2_123 (fun _ h => h) rfl dX11_when_50 ?_
      refine lv_aload_n hx hb dX11_when_53 rfl (lv_at hl 0 rfl) ?_
      refine zget E hw (Nat.le_of_ble_eq_true rfl) (ceC_0 ad cy _) rfl inX11 6 (by decide) k2_127 (fun _ h => h) rfl dX11_when_54 ?_
      refine zcali hw (va_runV (As := [.ref (ad 64)]) (rest := []) E.fix (c_X1_isOver (l := l) hA 64 (by unfold isSky; omega) σ rfl) (zcV E k3_106 k1_11 k3_103 k3_104 k3_105 mf_X1_isOver rfl rfl ⟨Nat.le_of_ble_eq_true rfl, Nat.le_of_ble_eq_true rfl⟩) (zPreV E hw (Nat.le_of_ble_eq_true rfl) (ceC_24 ad cy _) rfl _) rfl rfl hl.1 rfl (lv_room (Nat.le_of_ble_eq_true rfl)) dX11_when_57 ⟨Nat.zero_le _, Nat.zero_le _⟩) (fun H locs hw => ?_)
      refine lv_if_ne (tgt := 105) hx hb dX11_when_60 (by decide) (fun h => ?_) (fun h => ?_)
      · replace hf := it_t (b2i_n h) hf
        refine lv_bipush (v := (-3)) hx hb dX11_when_105 (by decide) ?_
        exact zreti E hw hr hlk (rt_a hf) (rt_b hf) dX11_when_107
      · replace hf := it_f (b2i_0 h) hf
        refine lv_aload_n hx hb dX11_when_63 rfl (lv_at hl 0 rfl) ?_
        refine zget E hw (Nat.le_of_ble_eq_true rfl) (ceC_0 ad cy _) rfl inX11 2 (by decide) k2_123 (fun _ h => h) rfl dX11_when_64 ?_
        refine lv_aload_n hx hb dX11_when_67 rfl (lv_at hl 0 rfl) ?_
        refine zget E hw (Nat.le_of_ble_eq_true rfl) (ceC_0 ad cy _) rfl inX11 6 (by decide) k2_127 (fun _ h => h) rfl dX11_when_68 ?_
        obtain ⟨vq2, σ3, hc, hf⟩ := bd2_e hf
        refine zcali hw (va_runV (As := [.ref (ad 64)]) (rest := []) E.fix (c_X1_goByRest (l := l) hA 64 (by unfold isSky; omega) σ hc) (zcV E k4_30 k1_11 k4_27 k4_28 k4_29 mf_X1_goByRest rfl rfl ⟨Nat.le_of_ble_eq_true rfl, Nat.le_of_ble_eq_true rfl⟩) (zPreV E hw (Nat.le_of_ble_eq_true rfl) (ceC_24 ad cy _) rfl _) rfl rfl hl.1 rfl (lv_room (Nat.le_of_ble_eq_true rfl)) dX11_when_71 ⟨Nat.zero_le _, Nat.zero_le _⟩) (fun H locs hw => ?_)
        refine lv_pop hx hb dX11_when_74 rfl ?_
        refine lv_aload_n hx hb dX11_when_75 rfl (lv_at hl 0 rfl) ?_
        refine zget E hw (Nat.le_of_ble_eq_true rfl) (ceC_0 ad cy _) rfl inX11 6 (by decide) k2_127 (fun _ h => h) rfl dX11_when_76 ?_
        refine zget E hw (Nat.le_of_ble_eq_true rfl) (ceC_64 ad cy _) rfl inX10 2 (by decide) k1_115 (fun _ h => h) rfl dX11_when_79 ?_
        refine lv_iload_n hx hb dX11_when_82 rfl (lv_at hl 1 rfl) ?_
        refine zcali hw (va_runS (As := [.int (σ3 64 2), .int xq1]) (rest := []) E.fix (c_X11_isIn (l := l) hA (σ3 64 2) xq1 σ3 rfl) (zcS E k2_197 k1_1 k2_195 k2_196 mf_X11_isIn rfl rfl ⟨Nat.le_of_ble_eq_true rfl, Nat.le_of_ble_eq_true rfl⟩) (zPre E hw _) rfl rfl hl.1 rfl (lv_room (Nat.le_of_ble_eq_true rfl)) dX11_when_83 ⟨Nat.zero_le _, Nat.zero_le _⟩) (fun H locs hw => ?_)
        refine lv_if_ne (tgt := 99) hx hb dX11_when_86 (by decide) (fun h => ?_) (fun h => ?_)
        · replace hf := it_t (b2i_n h) hf
          refine lv_iinc (v := (xq2 + 1)) (lv' := [(2, .int (xq2 + 1)), (0, .ref (ad 0)), (1, .int xq1)]) hx hb dX11_when_99 hl (k := 2) rfl (by rfl) (by decide) rfl (fun ls hl => ?_)
          refine lv_goto (tgt := 43) hx hb dX11_when_102 (by decide) ?_
          exact hkq43 (xq2 + 1) σ3 _ _ _ hw (lv_sub hl [1, 2, 0] rfl) hf
        · replace hf := it_f (b2i_0 h) hf
          refine lv_aload_n hx hb dX11_when_89 rfl (lv_at hl 0 rfl) ?_
          refine zget E hw (Nat.le_of_ble_eq_true rfl) (ceC_0 ad cy _) rfl inX11 6 (by decide) k2_127 (fun _ h => h) rfl dX11_when_90 ?_
          refine zget E hw (Nat.le_of_ble_eq_true rfl) (ceC_64 ad cy _) rfl inX10 0 (by decide) k1_109 (fun _ h => h) rfl dX11_when_93 ?_
          refine lv_iconst (v := 1) hx hb dX11_when_96 (by decide) ?_
          refine lv_isub hx hb dX11_when_97 ?_
          exact zreti E hw hr hlk (rt_a hf) (rt_b hf) dX11_when_98
  have hL43 : ∀ (xq1 : Int32) (n : Nat) (xq2 : Int32) (σ : Sg) (H : Heap) (locs : List Loc) (ls : Array Slot), ZS D 97 (celC ad cy) ad A s σ H locs → lv_has ls 3 [(0, .ref (ad 0)), (1, .int xq1), (2, .int xq2)] → f_X11_when_l43 xq1 n xq2 σ = some (r, σ9) → W p l e ({ frames := 5, cells := 0, slots := 0, locals := 117 } : Room) s m args below meth c H locs 0 0 (MQ below (zQi D 97 (celC ad cy) ad A r σ9) args s 0 0 A) (F0 m 43 ls []) := by
    intro xq1 n
    induction n with
    | zero =>
      intro xq2 σ H locs ls hw hl hf
      exact nn_e hf
    | succ n ih =>
      intro xq2 σ H locs ls hw hl hf
      exact hB43 xq1 (f_X11_when_l43 xq1 n) ih xq2 σ H locs ls hw hl hf
  unfold f_X11_when at hf
  refine lv_aload_n hx hb dX11_when_0 rfl (lv_at hl 0 rfl) ?_
  refine lv_iload_n hx hb dX11_when_1 rfl (lv_at hl 1 rfl) ?_
  refine zcali hw (va_runV (As := [.int xq1]) (rest := []) E.fix (c_X11_isKite (l := l) hA xq1 σ rfl) (zcV E k2_194 k1_1 k2_191 k2_193 kp1_0 mf_X11_isKite rfl rfl ⟨Nat.le_of_ble_eq_true rfl, Nat.le_of_ble_eq_true rfl⟩) (zPreV E hw (Nat.le_of_ble_eq_true rfl) (ceC_0 ad cy _) rfl _) rfl rfl hl.1 rfl (lv_room (Nat.le_of_ble_eq_true rfl)) dX11_when_2 ⟨Nat.zero_le _, Nat.zero_le _⟩) (fun H locs hw => ?_)
  refine lv_if_ne (tgt := 10) hx hb dX11_when_5 (by decide) (fun h => ?_) (fun h => ?_)
  · replace hf := it_t (b2i_n h) hf
    refine lv_aload_n hx hb dX11_when_10 rfl (lv_at hl 0 rfl) ?_
    refine zget E hw (Nat.le_of_ble_eq_true rfl) (ceC_0 ad cy _) rfl inX11 6 (by decide) k2_127 (fun _ h => h) rfl dX11_when_11 ?_
    refine lv_aload_n hx hb dX11_when_14 rfl (lv_at hl 0 rfl) ?_
    refine zget E hw (Nat.le_of_ble_eq_true rfl) (ceC_0 ad cy _) rfl inX11 2 (by decide) k2_123 (fun _ h => h) rfl dX11_when_15 ?_
    refine zget E hw (Nat.le_of_ble_eq_true rfl) (ceC_24 ad cy _) rfl inX1 15 (by decide) k2_36 (fun _ h => h) rfl dX11_when_18 ?_
    obtain ⟨σ1, hc, hf⟩ := lt_e hf
    refine zcalv hw (va_runV (As := [.ref (ad 41)]) (rest := []) E.fix (c_X10_copy (l := l) hA 64 (by unfold isSky; omega) 41 (by unfold isSky; omega) σ hc) (zcV E k4_63 k1_4 k4_60 k4_61 k4_62 mf_X10_copy rfl rfl ⟨Nat.le_of_ble_eq_true rfl, Nat.le_of_ble_eq_true rfl⟩) (zPreV E hw (Nat.le_of_ble_eq_true rfl) (ceC_64 ad cy _) rfl _) rfl rfl hl.1 rfl (lv_room (Nat.le_of_ble_eq_true rfl)) dX11_when_21 ⟨Nat.zero_le _, Nat.zero_le _⟩) (fun H locs hw => ?_)
    refine lv_aload_n hx hb dX11_when_24 rfl (lv_at hl 0 rfl) ?_
    refine zget E hw (Nat.le_of_ble_eq_true rfl) (ceC_0 ad cy _) rfl inX11 6 (by decide) k2_127 (fun _ h => h) rfl dX11_when_25 ?_
    refine zget E hw (Nat.le_of_ble_eq_true rfl) (ceC_64 ad cy _) rfl inX10 2 (by decide) k1_115 (fun _ h => h) rfl dX11_when_28 ?_
    refine lv_iload_n hx hb dX11_when_31 rfl (lv_at hl 1 rfl) ?_
    refine zcali hw (va_runS (As := [.int (σ1 64 2), .int xq1]) (rest := []) E.fix (c_X11_isIn (l := l) hA (σ1 64 2) xq1 σ1 rfl) (zcS E k2_197 k1_1 k2_195 k2_196 mf_X11_isIn rfl rfl ⟨Nat.le_of_ble_eq_true rfl, Nat.le_of_ble_eq_true rfl⟩) (zPre E hw _) rfl rfl hl.1 rfl (lv_room (Nat.le_of_ble_eq_true rfl)) dX11_when_32 ⟨Nat.zero_le _, Nat.zero_le _⟩) (fun H locs hw => ?_)
    refine lv_if_ne (tgt := 41) hx hb dX11_when_35 (by decide) (fun h => ?_) (fun h => ?_)
    · replace hf := it_t (b2i_n h) hf
      refine lv_iconst (v := 0) hx hb dX11_when_41 (by decide) ?_
      refine lv_istore_n (lv' := [(2, .int 0), (0, .ref (ad 0)), (1, .int xq1)]) hx hb dX11_when_42 rfl hl (by decide) rfl (fun ls hl => ?_)
      exact hL43 xq1 400 0 σ1 _ _ _ hw (lv_sub hl [1, 2, 0] rfl) hf
    · replace hf := it_f (b2i_0 h) hf
      refine lv_bipush (v := (-3)) hx hb dX11_when_38 (by decide) ?_
      exact zreti E hw hr hlk (rt_a hf) (rt_b hf) dX11_when_40
  · replace hf := it_f (b2i_0 h) hf
    refine lv_iconst (v := (-1)) hx hb dX11_when_8 (by decide) ?_
    exact zreti E hw hr hlk (rt_a hf) (rt_b hf) dX11_when_9
set_option maxRecDepth 100000 in
set_option maxHeartbeats 4000000 in
theorem c_X11_stringFor {l : Launch} {D : va_G} {cy : Cy} {ad : Nat → Nat} {A : Nat → Prop} (hA : okAd 97 ad A) (xq1 : Int32) (σ : Sg) {r : Int32} {σ9 : Sg} (hf : f_X11_stringFor xq1 σ = some (r, σ9)) : Met l yX11_stringFor (.code yX11_stringFor cX11_stringFor 6 (some .int) :: TT) ({ frames := 6, cells := 0, slots := 0, locals := 140 } : Room) (zPc D cy 97 (celC ad cy) ad A [.ref (ad 0), .int xq1] σ) (zQi D 97 (celC ad cy) ad A r σ9) 0 0 A := by
  refine zofW (by decide) hA (Nat.le_of_ble_eq_true rfl) ?_
  intro p e s m args below meth c ls E hw hr hlk hl
  have E : ZE p s m args c cX11_stringFor 6 "KiteSummons" D cy 97 ad A := E
  have hx := E.hx
  have hb := E.hb
  have hl : lv_has ls 6 [(0, .ref (ad 0)), (1, .int xq1)] := hl
  have hB17 : ∀ (xq1 : Int32) (kq17 : Int32 → Int32 → Int32 → Sg → Option (Int32 × Sg)) (hkq17 : ∀ (xq2 : Int32) (xq3 : Int32) (xq4 : Int32) (σ : Sg) (H : Heap) (locs : List Loc) (ls : Array Slot), ZS D 97 (celC ad cy) ad A s σ H locs → lv_has ls 6 [(0, .ref (ad 0)), (1, .int xq1), (2, .int xq2), (3, .int xq3), (4, .int xq4)] → kq17 xq2 xq3 xq4 σ = some (r, σ9) → W p l e ({ frames := 6, cells := 0, slots := 0, locals := 140 } : Room) s m args below meth c H locs 0 0 (MQ below (zQi D 97 (celC ad cy) ad A r σ9) args s 0 0 A) (F0 m 17 ls [])) (xq2 : Int32) (xq3 : Int32) (xq4 : Int32) (σ : Sg) (H : Heap) (locs : List Loc) (ls : Array Slot), ZS D 97 (celC ad cy) ad A s σ H locs → lv_has ls 6 [(0, .ref (ad 0)), (1, .int xq1), (2, .int xq2), (3, .int xq3), (4, .int xq4)] → f_X11_stringFor_b17 kq17 xq1 xq2 xq3 xq4 σ = some (r, σ9) → W p l e ({ frames := 6, cells := 0, slots := 0, locals := 140 } : Room) s m args below meth c H locs 0 0 (MQ below (zQi D 97 (celC ad cy) ad A r σ9) args s 0 0 A) (F0 m 17 ls []) := by
    intro xq1 kq17 hkq17 xq2 xq3 xq4 σ H locs ls hw hl hf
    unfold f_X11_stringFor_b17 at hf
    refine lv_iload hx hb dX11_stringFor_17 (lv_at hl 4 rfl) ?_
    refine lv_bipush (v := 9) hx hb dX11_stringFor_19 (by decide) ?_
    refine lv_icmp_gt (tgt := 75) hx hb dX11_stringFor_21 (by decide) (fun h => ?_) (fun h => ?_)
    · replace hf := it_t h hf
      refine lv_iload_n hx hb dX11_stringFor_75 rfl (lv_at hl 3 rfl) ?_
      exact zreti E hw hr hlk (rt_a hf) (rt_b hf) dX11_stringFor_76
    · replace hf := it_f h hf
      refine lv_aload_n hx hb dX11_stringFor_24 rfl (lv_at hl 0 rfl) ?_
      refine zget E hw (Nat.le_of_ble_eq_true rfl) (ceC_0 ad cy _) rfl inX11 6 (by decide) k2_127 (fun _ h => h) rfl dX11_stringFor_25 ?_
      refine lv_aload_n hx hb dX11_stringFor_28 rfl (lv_at hl 0 rfl) ?_
      refine zget E hw (Nat.le_of_ble_eq_true rfl) (ceC_0 ad cy _) rfl inX11 2 (by decide) k2_123 (fun _ h => h) rfl dX11_stringFor_29 ?_
      refine zget E hw (Nat.le_of_ble_eq_true rfl) (ceC_24 ad cy _) rfl inX1 15 (by decide) k2_36 (fun _ h => h) rfl dX11_stringFor_32 ?_
      obtain ⟨σ1, hc, hf⟩ := lt_e hf
      refine zcalv hw (va_runV (As := [.ref (ad 41)]) (rest := []) E.fix (c_X10_copy (l := l) hA 64 (by unfold isSky; omega) 41 (by unfold isSky; omega) σ hc) (zcV E k4_63 k1_4 k4_60 k4_61 k4_62 mf_X10_copy rfl rfl ⟨Nat.le_of_ble_eq_true rfl, Nat.le_of_ble_eq_true rfl⟩) (zPreV E hw (Nat.le_of_ble_eq_true rfl) (ceC_64 ad cy _) rfl _) rfl rfl hl.1 rfl (lv_room (Nat.le_of_ble_eq_true rfl)) dX11_stringFor_35 ⟨Nat.zero_le _, Nat.zero_le _⟩) (fun H locs hw => ?_)
      refine lv_aload_n hx hb dX11_stringFor_38 rfl (lv_at hl 0 rfl) ?_
      refine zget E hw (Nat.le_of_ble_eq_true rfl) (ceC_0 ad cy _) rfl inX11 6 (by decide) k2_127 (fun _ h => h) rfl dX11_stringFor_39 ?_
      refine zget E hw (Nat.le_of_ble_eq_true rfl) (ceC_64 ad cy _) rfl inX10 5 (by decide) k1_125 (fun _ h => h) rfl dX11_stringFor_42 ?_
      refine lv_iload_n hx hb dX11_stringFor_45 rfl (lv_at hl 1 rfl) ?_
      refine lv_iload hx hb dX11_stringFor_46 (lv_at hl 4 rfl) ?_
      obtain ⟨σ2, hσ2, hf⟩ := bd_e hf
      refine zastr E hw (Nat.le_of_ble_eq_true rfl) (ceC_66 ad cy) hσ2 dX11_stringFor_48 (fun H locs hw => ?_)
      refine lv_aload_n hx hb dX11_stringFor_49 rfl (lv_at hl 0 rfl) ?_
      refine lv_bipush (v := 16) hx hb dX11_stringFor_50 (by decide) ?_
      obtain ⟨vq3, σ4, hc, hf⟩ := bd2_e hf
      refine zcali hw (va_runV (As := [.int 16]) (rest := []) E.fix (c_X11_worthOnTrial (l := l) hA 16 σ2 hc) (zcV E k4_68 k1_1 k4_65 k4_67 kp2_8 mf_X11_worthOnTrial rfl rfl ⟨Nat.le_of_ble_eq_true rfl, Nat.le_of_ble_eq_true rfl⟩) (zPreV E hw (Nat.le_of_ble_eq_true rfl) (ceC_0 ad cy _) rfl _) rfl rfl hl.1 rfl (lv_room (Nat.le_of_ble_eq_true rfl)) dX11_stringFor_52 ⟨Nat.zero_le _, Nat.zero_le _⟩) (fun H locs hw => ?_)
      refine lv_istore (lv' := [(5, .int vq3), (0, .ref (ad 0)), (1, .int xq1), (2, .int xq2), (3, .int xq3), (4, .int xq4)]) hx hb dX11_stringFor_55 hl (by decide) rfl (fun ls hl => ?_)
      refine lv_iload hx hb dX11_stringFor_57 (lv_at hl 0 rfl) ?_
      refine lv_iload_n hx hb dX11_stringFor_59 rfl (lv_at hl 3 rfl) ?_
      refine lv_icmp_le (tgt := 69) hx hb dX11_stringFor_60 (by decide) (fun h => ?_) (fun h => ?_)
      · replace hf := it_t h hf
        refine lv_iinc (v := (xq4 + 1)) (lv' := [(4, .int (xq4 + 1)), (5, .int vq3), (0, .ref (ad 0)), (1, .int xq1), (2, .int xq2), (3, .int xq3)]) hx hb dX11_stringFor_69 hl (k := 5) rfl (by rfl) (by decide) rfl (fun ls hl => ?_)
        refine lv_goto (tgt := 17) hx hb dX11_stringFor_72 (by decide) ?_
        exact hkq17 xq2 xq3 (xq4 + 1) σ4 _ _ _ hw (lv_sub hl [2, 3, 4, 5, 0] rfl) hf
      · replace hf := it_f h hf
        refine lv_iload hx hb dX11_stringFor_63 (lv_at hl 0 rfl) ?_
        refine lv_istore_n (lv' := [(2, .int vq3), (5, .int vq3), (0, .ref (ad 0)), (1, .int xq1), (3, .int xq3), (4, .int xq4)]) hx hb dX11_stringFor_65 rfl hl (by decide) rfl (fun ls hl => ?_)
        refine lv_iload hx hb dX11_stringFor_66 (lv_at hl 5 rfl) ?_
        refine lv_istore_n (lv' := [(3, .int xq4), (2, .int vq3), (5, .int vq3), (0, .ref (ad 0)), (1, .int xq1), (4, .int xq4)]) hx hb dX11_stringFor_68 rfl hl (by decide) rfl (fun ls hl => ?_)
        refine lv_iinc (v := (xq4 + 1)) (lv' := [(4, .int (xq4 + 1)), (3, .int xq4), (2, .int vq3), (5, .int vq3), (0, .ref (ad 0)), (1, .int xq1)]) hx hb dX11_stringFor_69 hl (k := 5) rfl (by rfl) (by decide) rfl (fun ls hl => ?_)
        refine lv_goto (tgt := 17) hx hb dX11_stringFor_72 (by decide) ?_
        exact hkq17 vq3 xq4 (xq4 + 1) σ4 _ _ _ hw (lv_sub hl [4, 5, 2, 1, 0] rfl) hf
  have hL17 : ∀ (xq1 : Int32) (n : Nat) (xq2 : Int32) (xq3 : Int32) (xq4 : Int32) (σ : Sg) (H : Heap) (locs : List Loc) (ls : Array Slot), ZS D 97 (celC ad cy) ad A s σ H locs → lv_has ls 6 [(0, .ref (ad 0)), (1, .int xq1), (2, .int xq2), (3, .int xq3), (4, .int xq4)] → f_X11_stringFor_l17 xq1 n xq2 xq3 xq4 σ = some (r, σ9) → W p l e ({ frames := 6, cells := 0, slots := 0, locals := 140 } : Room) s m args below meth c H locs 0 0 (MQ below (zQi D 97 (celC ad cy) ad A r σ9) args s 0 0 A) (F0 m 17 ls []) := by
    intro xq1 n
    induction n with
    | zero =>
      intro xq2 xq3 xq4 σ H locs ls hw hl hf
      exact nn_e hf
    | succ n ih =>
      intro xq2 xq3 xq4 σ H locs ls hw hl hf
      exact hB17 xq1 (f_X11_stringFor_l17 xq1 n) ih xq2 xq3 xq4 σ H locs ls hw hl hf
  unfold f_X11_stringFor at hf
  refine lv_aload_n hx hb dX11_stringFor_0 rfl (lv_at hl 0 rfl) ?_
  refine lv_iload_n hx hb dX11_stringFor_1 rfl (lv_at hl 1 rfl) ?_
  refine zcali hw (va_runV (As := [.int xq1]) (rest := []) E.fix (c_X11_isKite (l := l) hA xq1 σ rfl) (zcV E k2_194 k1_1 k2_191 k2_193 kp1_0 mf_X11_isKite rfl rfl ⟨Nat.le_of_ble_eq_true rfl, Nat.le_of_ble_eq_true rfl⟩) (zPreV E hw (Nat.le_of_ble_eq_true rfl) (ceC_0 ad cy _) rfl _) rfl rfl hl.1 rfl (lv_room (Nat.le_of_ble_eq_true rfl)) dX11_stringFor_2 ⟨Nat.zero_le _, Nat.zero_le _⟩) (fun H locs hw => ?_)
  refine lv_if_ne (tgt := 10) hx hb dX11_stringFor_5 (by decide) (fun h => ?_) (fun h => ?_)
  · replace hf := it_t (b2i_n h) hf
    refine lv_iconst (v := (-1)) hx hb dX11_stringFor_10 (by decide) ?_
    refine lv_istore_n (lv' := [(2, .int (-1)), (0, .ref (ad 0)), (1, .int xq1)]) hx hb dX11_stringFor_11 rfl hl (by decide) rfl (fun ls hl => ?_)
    refine lv_iconst (v := 0) hx hb dX11_stringFor_12 (by decide) ?_
    refine lv_istore_n (lv' := [(3, .int 0), (2, .int (-1)), (0, .ref (ad 0)), (1, .int xq1)]) hx hb dX11_stringFor_13 rfl hl (by decide) rfl (fun ls hl => ?_)
    refine lv_iconst (v := 0) hx hb dX11_stringFor_14 (by decide) ?_
    refine lv_istore (lv' := [(4, .int 0), (3, .int 0), (2, .int (-1)), (0, .ref (ad 0)), (1, .int xq1)]) hx hb dX11_stringFor_15 hl (by decide) rfl (fun ls hl => ?_)
    exact hL17 xq1 400 (-1) 0 0 σ _ _ _ hw (lv_sub hl [3, 4, 2, 1, 0] rfl) hf
  · replace hf := it_f (b2i_0 h) hf
    refine lv_iconst (v := (-1)) hx hb dX11_stringFor_8 (by decide) ?_
    exact zreti E hw hr hlk (rt_a hf) (rt_b hf) dX11_stringFor_9
set_option maxRecDepth 100000 in
set_option maxHeartbeats 4000000 in
theorem c_X11_nameFor {l : Launch} {D : va_G} {cy : Cy} {ad : Nat → Nat} {A : Nat → Prop} (hA : okAd 97 ad A) (xq1 : Int32) (σ : Sg) {r : Int32} {σ9 : Sg} (hf : f_X11_nameFor xq1 σ = some (r, σ9)) : Met l yX11_nameFor (.code yX11_nameFor cX11_nameFor 7 (some .int) :: TT) ({ frames := 7, cells := 0, slots := 0, locals := 161 } : Room) (zPc D cy 97 (celC ad cy) ad A [.ref (ad 0), .int xq1] σ) (zQi D 97 (celC ad cy) ad A r σ9) 0 0 A := by
  refine zofW (by decide) hA (Nat.le_of_ble_eq_true rfl) ?_
  intro p e s m args below meth c ls E hw hr hlk hl
  have E : ZE p s m args c cX11_nameFor 7 "KiteSummons" D cy 97 ad A := E
  have hx := E.hx
  have hb := E.hb
  have hl : lv_has ls 7 [(0, .ref (ad 0)), (1, .int xq1)] := hl
  have hB28 : ∀ (xq1 : Int32) (xq2 : Int32) (kq28 : Int32 → Int32 → Int32 → Sg → Option (Int32 × Sg)) (hkq28 : ∀ (xq3 : Int32) (xq4 : Int32) (xq5 : Int32) (σ : Sg) (H : Heap) (locs : List Loc) (ls : Array Slot), ZS D 97 (celC ad cy) ad A s σ H locs → lv_has ls 7 [(0, .ref (ad 0)), (1, .int xq1), (2, .int xq2), (3, .int xq3), (4, .int xq4), (5, .int xq5)] → kq28 xq3 xq4 xq5 σ = some (r, σ9) → W p l e ({ frames := 7, cells := 0, slots := 0, locals := 161 } : Room) s m args below meth c H locs 0 0 (MQ below (zQi D 97 (celC ad cy) ad A r σ9) args s 0 0 A) (F0 m 28 ls [])) (xq3 : Int32) (xq4 : Int32) (xq5 : Int32) (σ : Sg) (H : Heap) (locs : List Loc) (ls : Array Slot), ZS D 97 (celC ad cy) ad A s σ H locs → lv_has ls 7 [(0, .ref (ad 0)), (1, .int xq1), (2, .int xq2), (3, .int xq3), (4, .int xq4), (5, .int xq5)] → f_X11_nameFor_b28 kq28 xq1 xq2 xq3 xq4 xq5 σ = some (r, σ9) → W p l e ({ frames := 7, cells := 0, slots := 0, locals := 161 } : Room) s m args below meth c H locs 0 0 (MQ below (zQi D 97 (celC ad cy) ad A r σ9) args s 0 0 A) (F0 m 28 ls []) := by
    intro xq1 xq2 kq28 hkq28 xq3 xq4 xq5 σ H locs ls hw hl hf
    unfold f_X11_nameFor_b28 at hf
    refine lv_iload hx hb dX11_nameFor_28 (lv_at hl 5 rfl) ?_
    refine lv_bipush (v := 6) hx hb dX11_nameFor_30 (by decide) ?_
    refine lv_icmp_ge (tgt := 73) hx hb dX11_nameFor_32 (by decide) (fun h => ?_) (fun h => ?_)
    · replace hf := it_t h hf
      refine lv_aload_n hx hb dX11_nameFor_73 rfl (lv_at hl 0 rfl) ?_
      refine zget E hw (Nat.le_of_ble_eq_true rfl) (ceC_0 ad cy _) rfl inX11 2 (by decide) k2_123 (fun _ h => h) rfl dX11_nameFor_74 ?_
      refine zget E hw (Nat.le_of_ble_eq_true rfl) (ceC_24 ad cy _) rfl inX1 6 (by decide) k2_21 (fun _ h => h) rfl dX11_nameFor_77 ?_
      refine lv_iload_n hx hb dX11_nameFor_80 rfl (lv_at hl 1 rfl) ?_
      refine lv_iload_n hx hb dX11_nameFor_81 rfl (lv_at hl 2 rfl) ?_
      obtain ⟨σ2, hσ2, hf⟩ := bd_e hf
      refine zastr E hw (Nat.le_of_ble_eq_true rfl) (ceC_26 ad cy) hσ2 dX11_nameFor_82 (fun H locs hw => ?_)
      refine lv_iload hx hb dX11_nameFor_83 (lv_at hl 4 rfl) ?_
      exact zreti E hw hr hlk (rt_a hf) (rt_b hf) dX11_nameFor_85
    · replace hf := it_f h hf
      refine lv_aload_n hx hb dX11_nameFor_35 rfl (lv_at hl 0 rfl) ?_
      refine zget E hw (Nat.le_of_ble_eq_true rfl) (ceC_0 ad cy _) rfl inX11 2 (by decide) k2_123 (fun _ h => h) rfl dX11_nameFor_36 ?_
      refine zget E hw (Nat.le_of_ble_eq_true rfl) (ceC_24 ad cy _) rfl inX1 6 (by decide) k2_21 (fun _ h => h) rfl dX11_nameFor_39 ?_
      refine lv_iload_n hx hb dX11_nameFor_42 rfl (lv_at hl 1 rfl) ?_
      refine lv_iload hx hb dX11_nameFor_43 (lv_at hl 5 rfl) ?_
      obtain ⟨σ3, hσ3, hf⟩ := bd_e hf
      refine zastr E hw (Nat.le_of_ble_eq_true rfl) (ceC_26 ad cy) hσ3 dX11_nameFor_45 (fun H locs hw => ?_)
      refine lv_aload_n hx hb dX11_nameFor_46 rfl (lv_at hl 0 rfl) ?_
      refine lv_bipush (v := 16) hx hb dX11_nameFor_47 (by decide) ?_
      obtain ⟨vq4, σ5, hc, hf⟩ := bd2_e hf
      refine zcali hw (va_runV (As := [.int 16]) (rest := []) E.fix (c_X11_worthOfRest (l := l) hA 16 σ3 hc) (zcV E k4_59 k1_1 k4_56 k4_58 kp2_7 mf_X11_worthOfRest rfl rfl ⟨Nat.le_of_ble_eq_true rfl, Nat.le_of_ble_eq_true rfl⟩) (zPreV E hw (Nat.le_of_ble_eq_true rfl) (ceC_0 ad cy _) rfl _) rfl rfl hl.1 rfl (lv_room (Nat.le_of_ble_eq_true rfl)) dX11_nameFor_49 ⟨Nat.zero_le _, Nat.zero_le _⟩) (fun H locs hw => ?_)
      refine lv_istore (lv' := [(6, .int vq4), (0, .ref (ad 0)), (1, .int xq1), (2, .int xq2), (3, .int xq3), (4, .int xq4), (5, .int xq5)]) hx hb dX11_nameFor_52 hl (by decide) rfl (fun ls hl => ?_)
      refine lv_iload hx hb dX11_nameFor_54 (lv_at hl 0 rfl) ?_
      refine lv_iload_n hx hb dX11_nameFor_56 rfl (lv_at hl 4 rfl) ?_
      refine lv_icmp_le (tgt := 67) hx hb dX11_nameFor_57 (by decide) (fun h => ?_) (fun h => ?_)
      · replace hf := it_t h hf
        refine lv_iinc (v := (xq5 + 1)) (lv' := [(5, .int (xq5 + 1)), (6, .int vq4), (0, .ref (ad 0)), (1, .int xq1), (2, .int xq2), (3, .int xq3), (4, .int xq4)]) hx hb dX11_nameFor_67 hl (k := 6) rfl (by rfl) (by decide) rfl (fun ls hl => ?_)
        refine lv_goto (tgt := 28) hx hb dX11_nameFor_70 (by decide) ?_
        exact hkq28 xq3 xq4 (xq5 + 1) σ5 _ _ _ hw (lv_sub hl [2, 3, 4, 5, 6, 0] rfl) hf
      · replace hf := it_f h hf
        refine lv_iload hx hb dX11_nameFor_60 (lv_at hl 0 rfl) ?_
        refine lv_istore_n (lv' := [(3, .int vq4), (6, .int vq4), (0, .ref (ad 0)), (1, .int xq1), (2, .int xq2), (4, .int xq4), (5, .int xq5)]) hx hb dX11_nameFor_62 rfl hl (by decide) rfl (fun ls hl => ?_)
        refine lv_iload hx hb dX11_nameFor_63 (lv_at hl 6 rfl) ?_
        refine lv_istore (lv' := [(4, .int xq5), (3, .int vq4), (6, .int vq4), (0, .ref (ad 0)), (1, .int xq1), (2, .int xq2), (5, .int xq5)]) hx hb dX11_nameFor_65 hl (by decide) rfl (fun ls hl => ?_)
        refine lv_iinc (v := (xq5 + 1)) (lv' := [(5, .int (xq5 + 1)), (4, .int xq5), (3, .int vq4), (6, .int vq4), (0, .ref (ad 0)), (1, .int xq1), (2, .int xq2)]) hx hb dX11_nameFor_67 hl (k := 6) rfl (by rfl) (by decide) rfl (fun ls hl => ?_)
        refine lv_goto (tgt := 28) hx hb dX11_nameFor_70 (by decide) ?_
        exact hkq28 vq4 xq5 (xq5 + 1) σ5 _ _ _ hw (lv_sub hl [4, 5, 6, 2, 1, 0] rfl) hf
  have hL28 : ∀ (xq1 : Int32) (xq2 : Int32) (n : Nat) (xq3 : Int32) (xq4 : Int32) (xq5 : Int32) (σ : Sg) (H : Heap) (locs : List Loc) (ls : Array Slot), ZS D 97 (celC ad cy) ad A s σ H locs → lv_has ls 7 [(0, .ref (ad 0)), (1, .int xq1), (2, .int xq2), (3, .int xq3), (4, .int xq4), (5, .int xq5)] → f_X11_nameFor_l28 xq1 xq2 n xq3 xq4 xq5 σ = some (r, σ9) → W p l e ({ frames := 7, cells := 0, slots := 0, locals := 161 } : Room) s m args below meth c H locs 0 0 (MQ below (zQi D 97 (celC ad cy) ad A r σ9) args s 0 0 A) (F0 m 28 ls []) := by
    intro xq1 xq2 n
    induction n with
    | zero =>
      intro xq3 xq4 xq5 σ H locs ls hw hl hf
      exact nn_e hf
    | succ n ih =>
      intro xq3 xq4 xq5 σ H locs ls hw hl hf
      exact hB28 xq1 xq2 (f_X11_nameFor_l28 xq1 xq2 n) ih xq3 xq4 xq5 σ H locs ls hw hl hf
  unfold f_X11_nameFor at hf
  refine lv_aload_n hx hb dX11_nameFor_0 rfl (lv_at hl 0 rfl) ?_
  refine lv_iload_n hx hb dX11_nameFor_1 rfl (lv_at hl 1 rfl) ?_
  refine zcali hw (va_runV (As := [.int xq1]) (rest := []) E.fix (c_X11_isKite (l := l) hA xq1 σ rfl) (zcV E k2_194 k1_1 k2_191 k2_193 kp1_0 mf_X11_isKite rfl rfl ⟨Nat.le_of_ble_eq_true rfl, Nat.le_of_ble_eq_true rfl⟩) (zPreV E hw (Nat.le_of_ble_eq_true rfl) (ceC_0 ad cy _) rfl _) rfl rfl hl.1 rfl (lv_room (Nat.le_of_ble_eq_true rfl)) dX11_nameFor_2 ⟨Nat.zero_le _, Nat.zero_le _⟩) (fun H locs hw => ?_)
  refine lv_if_ne (tgt := 10) hx hb dX11_nameFor_5 (by decide) (fun h => ?_) (fun h => ?_)
  · replace hf := it_t (b2i_n h) hf
    refine lv_aload_n hx hb dX11_nameFor_10 rfl (lv_at hl 0 rfl) ?_
    refine zget E hw (Nat.le_of_ble_eq_true rfl) (ceC_0 ad cy _) rfl inX11 2 (by decide) k2_123 (fun _ h => h) rfl dX11_nameFor_11 ?_
    refine zget E hw (Nat.le_of_ble_eq_true rfl) (ceC_24 ad cy _) rfl inX1 6 (by decide) k2_21 (fun _ h => h) rfl dX11_nameFor_14 ?_
    refine lv_iload_n hx hb dX11_nameFor_17 rfl (lv_at hl 1 rfl) ?_
    obtain ⟨vq1, hvq1, hf⟩ := bd_e hf
    refine zaldr E hw (Nat.le_of_ble_eq_true rfl) (ceC_26 ad cy) hvq1 dX11_nameFor_18 ?_
    refine lv_istore_n (lv' := [(2, .int vq1), (0, .ref (ad 0)), (1, .int xq1)]) hx hb dX11_nameFor_19 rfl hl (by decide) rfl (fun ls hl => ?_)
    refine lv_iconst (v := (-1)) hx hb dX11_nameFor_20 (by decide) ?_
    refine lv_istore_n (lv' := [(3, .int (-1)), (2, .int vq1), (0, .ref (ad 0)), (1, .int xq1)]) hx hb dX11_nameFor_21 rfl hl (by decide) rfl (fun ls hl => ?_)
    refine lv_iconst (v := 0) hx hb dX11_nameFor_22 (by decide) ?_
    refine lv_istore (lv' := [(4, .int 0), (3, .int (-1)), (2, .int vq1), (0, .ref (ad 0)), (1, .int xq1)]) hx hb dX11_nameFor_23 hl (by decide) rfl (fun ls hl => ?_)
    refine lv_iconst (v := 0) hx hb dX11_nameFor_25 (by decide) ?_
    refine lv_istore (lv' := [(5, .int 0), (4, .int 0), (3, .int (-1)), (2, .int vq1), (0, .ref (ad 0)), (1, .int xq1)]) hx hb dX11_nameFor_26 hl (by decide) rfl (fun ls hl => ?_)
    exact hL28 xq1 vq1 400 (-1) 0 0 σ _ _ _ hw (lv_sub hl [4, 5, 3, 2, 1, 0] rfl) hf
  · replace hf := it_f (b2i_0 h) hf
    refine lv_iconst (v := (-1)) hx hb dX11_nameFor_8 (by decide) ?_
    exact zreti E hw hr hlk (rt_a hf) (rt_b hf) dX11_nameFor_9
set_option maxRecDepth 100000 in
set_option maxHeartbeats 4000000 in
theorem c_X1_goByAct {l : Launch} {D : va_G} {cy : Cy} {ad : Nat → Nat} {A : Nat → Prop} (hA : okAd 97 ad A) (nq1 : Nat) (hnq1 : isSky nq1) (xq2 : Int32) (σ : Sg) {r : Int32} {σ9 : Sg} (hf : f_X1_goByAct nq1 xq2 σ = some (r, σ9)) : Met l yX1_goByAct (.code yX1_goByAct cX1_goByAct 3 (some .int) :: TT) ({ frames := 4, cells := 0, slots := 0, locals := 96 } : Room) (zPc D cy 97 (celC ad cy) ad A [.ref (ad 24), .ref (ad nq1), .int xq2] σ) (zQi D 97 (celC ad cy) ad A r σ9) 0 0 A := by
  refine zofW (by decide) hA (Nat.le_of_ble_eq_true rfl) ?_
  intro p e s m args below meth c ls E hw hr hlk hl
  have E : ZE p s m args c cX1_goByAct 3 "KiteSummons$County" D cy 97 ad A := E
  have hx := E.hx
  have hb := E.hb
  have hl : lv_has ls 3 [(0, .ref (ad 24)), (1, .ref (ad nq1)), (2, .int xq2)] := hl
  unfold f_X1_goByAct at hf
  refine lv_aload_n hx hb dX1_goByAct_0 rfl (lv_at hl 0 rfl) ?_
  refine lv_aload_n hx hb dX1_goByAct_1 rfl (lv_at hl 1 rfl) ?_
  obtain ⟨σ1, hc, hf⟩ := bd_e hf
  refine zcalv hw (va_runV (As := [.ref (ad nq1)]) (rest := []) E.fix (c_X1_drift (l := l) hA nq1 hnq1 σ hc) (zcV E k4_34 k1_11 k4_31 k4_33 kp2_4 mf_X1_drift rfl rfl ⟨Nat.le_of_ble_eq_true rfl, Nat.le_of_ble_eq_true rfl⟩) (zPreV E hw (Nat.le_of_ble_eq_true rfl) (ceC_24 ad cy _) rfl _) rfl rfl hl.1 rfl (lv_room (Nat.le_of_ble_eq_true rfl)) dX1_goByAct_2 ⟨Nat.zero_le _, Nat.zero_le _⟩) (fun H locs hw => ?_)
  refine lv_aload_n hx hb dX1_goByAct_5 rfl (lv_at hl 0 rfl) ?_
  refine lv_aload_n hx hb dX1_goByAct_6 rfl (lv_at hl 1 rfl) ?_
  refine lv_iload_n hx hb dX1_goByAct_7 rfl (lv_at hl 2 rfl) ?_
  refine lv_iconst (v := 1) hx hb dX1_goByAct_8 (by decide) ?_
  refine lv_isub hx hb dX1_goByAct_9 ?_
  obtain ⟨vq2, σ3, hc, hf⟩ := bd2_e hf
  refine zcali hw (va_runV (As := [.ref (ad nq1), .int (xq2 - 1)]) (rest := []) E.fix (c_X1_tell (l := l) hA nq1 hnq1 (xq2 - 1) σ1 hc) (zcV E k4_50 k1_11 k4_47 k4_49 kp2_6 mf_X1_tell rfl rfl ⟨Nat.le_of_ble_eq_true rfl, Nat.le_of_ble_eq_true rfl⟩) (zPreV E hw (Nat.le_of_ble_eq_true rfl) (ceC_24 ad cy _) rfl _) rfl rfl hl.1 rfl (lv_room (Nat.le_of_ble_eq_true rfl)) dX1_goByAct_10 ⟨Nat.zero_le _, Nat.zero_le _⟩) (fun H locs hw => ?_)
  exact zreti E hw hr hlk (rt_a hf) (rt_b hf) dX1_goByAct_13
set_option maxRecDepth 100000 in
set_option maxHeartbeats 4000000 in
theorem c_X1_isSomeAloftAt {l : Launch} {D : va_G} {cy : Cy} {ad : Nat → Nat} {A : Nat → Prop} (hA : okAd 97 ad A) (nq1 : Nat) (hnq1 : isSky nq1) (xq2 : Int32) (σ : Sg) {r : Bool} (hf : f_X1_isSomeAloftAt nq1 xq2 σ = some r) : Met l yX1_isSomeAloftAt (.code yX1_isSomeAloftAt cX1_isSomeAloftAt 4 (some .boolean) :: TT) ({ frames := 1, cells := 0, slots := 0, locals := 21 } : Room) (zPc D cy 97 (celC ad cy) ad A [.ref (ad 24), .ref (ad nq1), .int xq2] σ) (zQi D 97 (celC ad cy) ad A (b2i r) σ) 0 0 A := by
  refine zofW (by decide) hA (Nat.le_of_ble_eq_true rfl) ?_
  intro p e s m args below meth c ls E hw hr hlk hl
  have E : ZE p s m args c cX1_isSomeAloftAt 4 "KiteSummons$County" D cy 97 ad A := E
  have hx := E.hx
  have hb := E.hb
  have hl : lv_has ls 4 [(0, .ref (ad 24)), (1, .ref (ad nq1)), (2, .int xq2)] := hl
  have hB2 : ∀ (nq1 : Nat) (hnq1 : isSky nq1) (xq2 : Int32) (kq2 : Int32 → Option Bool) (hkq2 : ∀ (xq3 : Int32) (H : Heap) (locs : List Loc) (ls : Array Slot), ZS D 97 (celC ad cy) ad A s σ H locs → lv_has ls 4 [(0, .ref (ad 24)), (1, .ref (ad nq1)), (2, .int xq2), (3, .int xq3)] → kq2 xq3 = some r → W p l e ({ frames := 1, cells := 0, slots := 0, locals := 21 } : Room) s m args below meth c H locs 0 0 (MQ below (zQi D 97 (celC ad cy) ad A (b2i r) σ) args s 0 0 A) (F0 m 2 ls [])) (xq3 : Int32) (H : Heap) (locs : List Loc) (ls : Array Slot), ZS D 97 (celC ad cy) ad A s σ H locs → lv_has ls 4 [(0, .ref (ad 24)), (1, .ref (ad nq1)), (2, .int xq2), (3, .int xq3)] → f_X1_isSomeAloftAt_b2 kq2 nq1 xq2 σ xq3 = some r → W p l e ({ frames := 1, cells := 0, slots := 0, locals := 21 } : Room) s m args below meth c H locs 0 0 (MQ below (zQi D 97 (celC ad cy) ad A (b2i r) σ) args s 0 0 A) (F0 m 2 ls []) := by
    intro nq1 hnq1 xq2 kq2 hkq2 xq3 H locs ls hw hl hf
    unfold f_X1_isSomeAloftAt_b2 at hf
    refine lv_iload_n hx hb dX1_isSomeAloftAt_2 rfl (lv_at hl 3 rfl) ?_
    refine lv_aload_n hx hb dX1_isSomeAloftAt_3 rfl (lv_at hl 0 rfl) ?_
    refine zget E hw (Nat.le_of_ble_eq_true rfl) (ceC_24 ad cy _) rfl inX1 1 (by decide) k2_9 (fun _ h => h) rfl dX1_isSomeAloftAt_4 ?_
    refine lv_icmp_ge (tgt := 39) hx hb dX1_isSomeAloftAt_7 (by decide) (fun h => ?_) (fun h => ?_)
    · replace hf := it_t h hf
      refine lv_iconst (v := 0) hx hb dX1_isSomeAloftAt_39 (by decide) ?_
      exact zretz E hw hr hlk (b_e (rt_1 hf) (by rfl)) rfl dX1_isSomeAloftAt_40
    · replace hf := it_f h hf
      refine lv_aload_n hx hb dX1_isSomeAloftAt_10 rfl (lv_at hl 1 rfl) ?_
      refine zget E hw (ltSky hnq1) (ceSky ad cy _ hnq1) rfl inX10 2 (by decide) k1_114 (fun _ h => h) rfl dX1_isSomeAloftAt_11 ?_
      refine lv_iload_n hx hb dX1_isSomeAloftAt_14 rfl (lv_at hl 3 rfl) ?_
      refine zcali hw (va_runSN (As := [.int (σ nq1 2), .int xq3]) (rest := []) E.fix (c_X11_isIn (l := l) hA (σ nq1 2) xq3 σ rfl) (zcN E k2_197 k1_1 k4_35 k2_196 mf_X11_isIn rfl rfl ⟨Nat.le_of_ble_eq_true rfl, Nat.le_of_ble_eq_true rfl⟩) (zPre E hw _) rfl rfl hl.1 rfl (lv_room (Nat.le_of_ble_eq_true rfl)) dX1_isSomeAloftAt_15 ⟨Nat.zero_le _, Nat.zero_le _⟩) (fun H locs hw => ?_)
      refine lv_if_eq (tgt := 33) hx hb dX1_isSomeAloftAt_18 (by decide) (fun h => ?_) (fun h => ?_)
      · replace hf := it_f (b2i_0 h) hf
        refine lv_iinc (v := (xq3 + 1)) (lv' := [(3, .int (xq3 + 1)), (0, .ref (ad 24)), (1, .ref (ad nq1)), (2, .int xq2)]) hx hb dX1_isSomeAloftAt_33 hl (k := 3) rfl (by rfl) (by decide) rfl (fun ls hl => ?_)
        refine lv_goto (tgt := 2) hx hb dX1_isSomeAloftAt_36 (by decide) ?_
        exact hkq2 (xq3 + 1) _ _ _ hw (lv_sub hl [1, 2, 3, 0] rfl) hf
      · replace hf := it_t (b2i_n h) hf
        refine lv_aload_n hx hb dX1_isSomeAloftAt_21 rfl (lv_at hl 1 rfl) ?_
        refine zget E hw (ltSky hnq1) (ceSky ad cy _ hnq1) rfl inX10 4 (by decide) k1_121 (fun _ h => h) rfl dX1_isSomeAloftAt_22 ?_
        refine lv_iload_n hx hb dX1_isSomeAloftAt_25 rfl (lv_at hl 3 rfl) ?_
        obtain ⟨vq1, hvq1, hf⟩ := bd_e hf
        refine zaldr E hw (ltSkyA hnq1) (fun r => ceSkyA ad cy r hnq1) hvq1 dX1_isSomeAloftAt_26 ?_
        refine lv_iload_n hx hb dX1_isSomeAloftAt_27 rfl (lv_at hl 2 rfl) ?_
        refine lv_icmp_ne (tgt := 33) hx hb dX1_isSomeAloftAt_28 (by decide) (fun h => ?_) (fun h => ?_)
        · replace hf := it_t h hf
          refine lv_iinc (v := (xq3 + 1)) (lv' := [(3, .int (xq3 + 1)), (0, .ref (ad 24)), (1, .ref (ad nq1)), (2, .int xq2)]) hx hb dX1_isSomeAloftAt_33 hl (k := 3) rfl (by rfl) (by decide) rfl (fun ls hl => ?_)
          refine lv_goto (tgt := 2) hx hb dX1_isSomeAloftAt_36 (by decide) ?_
          exact hkq2 (xq3 + 1) _ _ _ hw (lv_sub hl [1, 2, 3, 0] rfl) hf
        · replace hf := it_n h hf
          refine lv_iconst (v := 1) hx hb dX1_isSomeAloftAt_31 (by decide) ?_
          exact zretz E hw hr hlk (b_e (rt_1 hf) (by rfl)) rfl dX1_isSomeAloftAt_32
  have hL2 : ∀ (nq1 : Nat) (hnq1 : isSky nq1) (xq2 : Int32) (n : Nat) (xq3 : Int32) (H : Heap) (locs : List Loc) (ls : Array Slot), ZS D 97 (celC ad cy) ad A s σ H locs → lv_has ls 4 [(0, .ref (ad 24)), (1, .ref (ad nq1)), (2, .int xq2), (3, .int xq3)] → f_X1_isSomeAloftAt_l2 nq1 xq2 σ n xq3 = some r → W p l e ({ frames := 1, cells := 0, slots := 0, locals := 21 } : Room) s m args below meth c H locs 0 0 (MQ below (zQi D 97 (celC ad cy) ad A (b2i r) σ) args s 0 0 A) (F0 m 2 ls []) := by
    intro nq1 hnq1 xq2 n
    induction n with
    | zero =>
      intro xq3 H locs ls hw hl hf
      exact nn_e hf
    | succ n ih =>
      intro xq3 H locs ls hw hl hf
      exact hB2 nq1 hnq1 xq2 (f_X1_isSomeAloftAt_l2 nq1 xq2 σ n) ih xq3 H locs ls hw hl hf
  unfold f_X1_isSomeAloftAt at hf
  refine lv_iconst (v := 0) hx hb dX1_isSomeAloftAt_0 (by decide) ?_
  refine lv_istore_n (lv' := [(3, .int 0), (0, .ref (ad 24)), (1, .ref (ad nq1)), (2, .int xq2)]) hx hb dX1_isSomeAloftAt_1 rfl hl (by decide) rfl (fun ls hl => ?_)
  exact hL2 nq1 hnq1 xq2 400 0 _ _ _ hw (lv_sub hl [1, 2, 3, 0] rfl) hf
set_option maxRecDepth 100000 in
set_option maxHeartbeats 4000000 in
theorem c_X11_over {l : Launch} {D : va_G} {cy : Cy} {ad : Nat → Nat} {A : Nat → Prop} (hA : okAd 97 ad A) (xq1 : Int32) (σ : Sg) {r : Int32} {σ9 : Sg} (hf : f_X11_over xq1 σ = some (r, σ9)) : Met l yX11_over (.code yX11_over cX11_over 3 (some .int) :: TT) ({ frames := 5, cells := 0, slots := 0, locals := 118 } : Room) (zPc D cy 97 (celC ad cy) ad A [.ref (ad 0), .int xq1] σ) (zQi D 97 (celC ad cy) ad A r σ9) 0 0 A := by
  refine zofW (by decide) hA (Nat.le_of_ble_eq_true rfl) ?_
  intro p e s m args below meth c ls E hw hr hlk hl
  have E : ZE p s m args c cX11_over 3 "KiteSummons" D cy 97 ad A := E
  have hx := E.hx
  have hb := E.hb
  have hl : lv_has ls 3 [(0, .ref (ad 0)), (1, .int xq1)] := hl
  have hB28 : ∀ (xq1 : Int32) (kq28 : Int32 → Sg → Option (Int32 × Sg)) (hkq28 : ∀ (xq2 : Int32) (σ : Sg) (H : Heap) (locs : List Loc) (ls : Array Slot), ZS D 97 (celC ad cy) ad A s σ H locs → lv_has ls 3 [(0, .ref (ad 0)), (1, .int xq1), (2, .int xq2)] → kq28 xq2 σ = some (r, σ9) → W p l e ({ frames := 5, cells := 0, slots := 0, locals := 118 } : Room) s m args below meth c H locs 0 0 (MQ below (zQi D 97 (celC ad cy) ad A r σ9) args s 0 0 A) (F0 m 28 ls [])) (xq2 : Int32) (σ : Sg) (H : Heap) (locs : List Loc) (ls : Array Slot), ZS D 97 (celC ad cy) ad A s σ H locs → lv_has ls 3 [(0, .ref (ad 0)), (1, .int xq1), (2, .int xq2)] → f_X11_over_b28 kq28 xq1 xq2 σ = some (r, σ9) → W p l e ({ frames := 5, cells := 0, slots := 0, locals := 118 } : Room) s m args below meth c H locs 0 0 (MQ below (zQi D 97 (celC ad cy) ad A r σ9) args s 0 0 A) (F0 m 28 ls []) := by
    intro xq1 kq28 hkq28 xq2 σ H locs ls hw hl hf
    unfold f_X11_over_b28 at hf
    refine lv_iload_n hx hb dX11_over_28 rfl (lv_at hl 2 rfl) ?_
    refine lv_bipush (v := 16) hx hb dX11_over_29 (by decide) ?_
    refine lv_icmp_ge (tgt := 92) hx hb dX11_over_31 (by decide) (fun h => ?_) (fun h => ?_)
    · replace hf := it_t h hf
      refine lv_bipush (v := (-3)) hx hb dX11_over_92 (by decide) ?_
      exact zreti E hw hr hlk (rt_a hf) (rt_b hf) dX11_over_94
    · replace hf := it_f h hf
      refine lv_aload_n hx hb dX11_over_34 rfl (lv_at hl 0 rfl) ?_
      refine zget E hw (Nat.le_of_ble_eq_true rfl) (ceC_0 ad cy _) rfl inX11 2 (by decide) k2_123 (fun _ h => h) rfl dX11_over_35 ?_
      refine lv_aload_n hx hb dX11_over_38 rfl (lv_at hl 0 rfl) ?_
      refine zget E hw (Nat.le_of_ble_eq_true rfl) (ceC_0 ad cy _) rfl inX11 6 (by decide) k2_127 (fun _ h => h) rfl dX11_over_39 ?_
      refine zcali hw (va_runV (As := [.ref (ad 64)]) (rest := []) E.fix (c_X1_isOver (l := l) hA 64 (by unfold isSky; omega) σ rfl) (zcV E k3_106 k1_11 k3_103 k3_104 k3_105 mf_X1_isOver rfl rfl ⟨Nat.le_of_ble_eq_true rfl, Nat.le_of_ble_eq_true rfl⟩) (zPreV E hw (Nat.le_of_ble_eq_true rfl) (ceC_24 ad cy _) rfl _) rfl rfl hl.1 rfl (lv_room (Nat.le_of_ble_eq_true rfl)) dX11_over_42 ⟨Nat.zero_le _, Nat.zero_le _⟩) (fun H locs hw => ?_)
      refine lv_if_ne (tgt := 92) hx hb dX11_over_45 (by decide) (fun h => ?_) (fun h => ?_)
      · replace hf := it_t (b2i_n h) hf
        refine lv_bipush (v := (-3)) hx hb dX11_over_92 (by decide) ?_
        exact zreti E hw hr hlk (rt_a hf) (rt_b hf) dX11_over_94
      · replace hf := it_f (b2i_0 h) hf
        refine lv_aload_n hx hb dX11_over_48 rfl (lv_at hl 0 rfl) ?_
        refine zget E hw (Nat.le_of_ble_eq_true rfl) (ceC_0 ad cy _) rfl inX11 2 (by decide) k2_123 (fun _ h => h) rfl dX11_over_49 ?_
        refine lv_aload_n hx hb dX11_over_52 rfl (lv_at hl 0 rfl) ?_
        refine zget E hw (Nat.le_of_ble_eq_true rfl) (ceC_0 ad cy _) rfl inX11 6 (by decide) k2_127 (fun _ h => h) rfl dX11_over_53 ?_
        refine lv_iconst (v := 0) hx hb dX11_over_56 (by decide) ?_
        obtain ⟨vq2, σ3, hc, hf⟩ := bd2_e hf
        refine zcali hw (va_runV (As := [.ref (ad 64), .int 0]) (rest := []) E.fix (c_X1_goByAct (l := l) hA 64 (by unfold isSky; omega) 0 σ hc) (zcV E k4_88 k1_11 k4_85 k4_86 k4_87 mf_X1_goByAct rfl rfl ⟨Nat.le_of_ble_eq_true rfl, Nat.le_of_ble_eq_true rfl⟩) (zPreV E hw (Nat.le_of_ble_eq_true rfl) (ceC_24 ad cy _) rfl _) rfl rfl hl.1 rfl (lv_room (Nat.le_of_ble_eq_true rfl)) dX11_over_57 ⟨Nat.zero_le _, Nat.zero_le _⟩) (fun H locs hw => ?_)
        refine lv_pop hx hb dX11_over_60 rfl ?_
        refine lv_aload_n hx hb dX11_over_61 rfl (lv_at hl 0 rfl) ?_
        refine zget E hw (Nat.le_of_ble_eq_true rfl) (ceC_0 ad cy _) rfl inX11 2 (by decide) k2_123 (fun _ h => h) rfl dX11_over_62 ?_
        refine lv_aload_n hx hb dX11_over_65 rfl (lv_at hl 0 rfl) ?_
        refine zget E hw (Nat.le_of_ble_eq_true rfl) (ceC_0 ad cy _) rfl inX11 6 (by decide) k2_127 (fun _ h => h) rfl dX11_over_66 ?_
        refine lv_iload_n hx hb dX11_over_69 rfl (lv_at hl 1 rfl) ?_
        obtain ⟨vq4, hc, hf⟩ := bd_e hf
        refine zcali hw (va_runV (As := [.ref (ad 64), .int xq1]) (rest := []) E.fix (c_X1_isSomeAloftAt (l := l) hA 64 (by unfold isSky; omega) xq1 σ3 hc) (zcV E k4_92 k1_11 k4_89 k4_90 k4_91 mf_X1_isSomeAloftAt rfl rfl ⟨Nat.le_of_ble_eq_true rfl, Nat.le_of_ble_eq_true rfl⟩) (zPreV E hw (Nat.le_of_ble_eq_true rfl) (ceC_24 ad cy _) rfl _) rfl rfl hl.1 rfl (lv_room (Nat.le_of_ble_eq_true rfl)) dX11_over_70 ⟨Nat.zero_le _, Nat.zero_le _⟩) (fun H locs hw => ?_)
        refine lv_if_eq (tgt := 86) hx hb dX11_over_73 (by decide) (fun h => ?_) (fun h => ?_)
        · replace hf := it_f (b2i_0 h) hf
          refine lv_iinc (v := (xq2 + 1)) (lv' := [(2, .int (xq2 + 1)), (0, .ref (ad 0)), (1, .int xq1)]) hx hb dX11_over_86 hl (k := 2) rfl (by rfl) (by decide) rfl (fun ls hl => ?_)
          refine lv_goto (tgt := 28) hx hb dX11_over_89 (by decide) ?_
          exact hkq28 (xq2 + 1) σ3 _ _ _ hw (lv_sub hl [1, 2, 0] rfl) hf
        · replace hf := it_t (b2i_n h) hf
          refine lv_aload_n hx hb dX11_over_76 rfl (lv_at hl 0 rfl) ?_
          refine zget E hw (Nat.le_of_ble_eq_true rfl) (ceC_0 ad cy _) rfl inX11 6 (by decide) k2_127 (fun _ h => h) rfl dX11_over_77 ?_
          refine zget E hw (Nat.le_of_ble_eq_true rfl) (ceC_64 ad cy _) rfl inX10 0 (by decide) k1_109 (fun _ h => h) rfl dX11_over_80 ?_
          refine lv_iconst (v := 1) hx hb dX11_over_83 (by decide) ?_
          refine lv_isub hx hb dX11_over_84 ?_
          exact zreti E hw hr hlk (rt_a hf) (rt_b hf) dX11_over_85
  have hL28 : ∀ (xq1 : Int32) (n : Nat) (xq2 : Int32) (σ : Sg) (H : Heap) (locs : List Loc) (ls : Array Slot), ZS D 97 (celC ad cy) ad A s σ H locs → lv_has ls 3 [(0, .ref (ad 0)), (1, .int xq1), (2, .int xq2)] → f_X11_over_l28 xq1 n xq2 σ = some (r, σ9) → W p l e ({ frames := 5, cells := 0, slots := 0, locals := 118 } : Room) s m args below meth c H locs 0 0 (MQ below (zQi D 97 (celC ad cy) ad A r σ9) args s 0 0 A) (F0 m 28 ls []) := by
    intro xq1 n
    induction n with
    | zero =>
      intro xq2 σ H locs ls hw hl hf
      exact nn_e hf
    | succ n ih =>
      intro xq2 σ H locs ls hw hl hf
      exact hB28 xq1 (f_X11_over_l28 xq1 n) ih xq2 σ H locs ls hw hl hf
  unfold f_X11_over at hf
  refine lv_iload_n hx hb dX11_over_0 rfl (lv_at hl 1 rfl) ?_
  refine lv_iconst (v := 0) hx hb dX11_over_1 (by decide) ?_
  refine lv_bipush (v := 63) hx hb dX11_over_2 (by decide) ?_
  refine zcali hw (va_runS (As := [.int xq1, .int 0, .int 63]) (rest := []) E.fix (c_X11_within (l := l) hA xq1 0 63 σ rfl) (zcS E k2_179 k1_1 k2_177 k2_178 mf_X11_within rfl rfl ⟨Nat.le_of_ble_eq_true rfl, Nat.le_of_ble_eq_true rfl⟩) (zPre E hw _) rfl rfl hl.1 rfl (lv_room (Nat.le_of_ble_eq_true rfl)) dX11_over_4 ⟨Nat.zero_le _, Nat.zero_le _⟩) (fun H locs hw => ?_)
  refine lv_if_ne (tgt := 12) hx hb dX11_over_7 (by decide) (fun h => ?_) (fun h => ?_)
  · replace hf := it_t (b2i_n h) hf
    refine lv_aload_n hx hb dX11_over_12 rfl (lv_at hl 0 rfl) ?_
    refine zget E hw (Nat.le_of_ble_eq_true rfl) (ceC_0 ad cy _) rfl inX11 6 (by decide) k2_127 (fun _ h => h) rfl dX11_over_13 ?_
    refine lv_aload_n hx hb dX11_over_16 rfl (lv_at hl 0 rfl) ?_
    refine zget E hw (Nat.le_of_ble_eq_true rfl) (ceC_0 ad cy _) rfl inX11 2 (by decide) k2_123 (fun _ h => h) rfl dX11_over_17 ?_
    refine zget E hw (Nat.le_of_ble_eq_true rfl) (ceC_24 ad cy _) rfl inX1 15 (by decide) k2_36 (fun _ h => h) rfl dX11_over_20 ?_
    obtain ⟨σ1, hc, hf⟩ := lt_e hf
    refine zcalv hw (va_runV (As := [.ref (ad 41)]) (rest := []) E.fix (c_X10_copy (l := l) hA 64 (by unfold isSky; omega) 41 (by unfold isSky; omega) σ hc) (zcV E k4_63 k1_4 k4_60 k4_61 k4_62 mf_X10_copy rfl rfl ⟨Nat.le_of_ble_eq_true rfl, Nat.le_of_ble_eq_true rfl⟩) (zPreV E hw (Nat.le_of_ble_eq_true rfl) (ceC_64 ad cy _) rfl _) rfl rfl hl.1 rfl (lv_room (Nat.le_of_ble_eq_true rfl)) dX11_over_23 ⟨Nat.zero_le _, Nat.zero_le _⟩) (fun H locs hw => ?_)
    refine lv_iconst (v := 0) hx hb dX11_over_26 (by decide) ?_
    refine lv_istore_n (lv' := [(2, .int 0), (0, .ref (ad 0)), (1, .int xq1)]) hx hb dX11_over_27 rfl hl (by decide) rfl (fun ls hl => ?_)
    exact hL28 xq1 400 0 σ1 _ _ _ hw (lv_sub hl [1, 2, 0] rfl) hf
  · replace hf := it_f (b2i_0 h) hf
    refine lv_iconst (v := (-1)) hx hb dX11_over_10 (by decide) ?_
    exact zreti E hw hr hlk (rt_a hf) (rt_b hf) dX11_over_11
set_option maxRecDepth 100000 in
set_option maxHeartbeats 4000000 in
theorem c_X1_isTangledWithSome {l : Launch} {D : va_G} {cy : Cy} {ad : Nat → Nat} {A : Nat → Prop} (hA : okAd 97 ad A) (xq1 : Int32) (xq2 : Int32) (σ : Sg) {r : Bool} (hf : f_X1_isTangledWithSome xq1 xq2 σ = some r) : Met l yX1_isTangledWithSome (.code yX1_isTangledWithSome cX1_isTangledWithSome 6 (some .boolean) :: TT) ({ frames := 1, cells := 0, slots := 0, locals := 21 } : Room) (zPc D cy 97 (celC ad cy) ad A [.ref (ad 24), .int xq1, .int xq2] σ) (zQi D 97 (celC ad cy) ad A (b2i r) σ) 0 0 A := by
  refine zofW (by decide) hA (Nat.le_of_ble_eq_true rfl) ?_
  intro p e s m args below meth c ls E hw hr hlk hl
  have E : ZE p s m args c cX1_isTangledWithSome 6 "KiteSummons$County" D cy 97 ad A := E
  have hx := E.hx
  have hb := E.hb
  have hl : lv_has ls 6 [(0, .ref (ad 24)), (1, .int xq1), (2, .int xq2)] := hl
  have hB13 : ∀ (xq2 : Int32) (xq3 : Int32) (kq13 : Int32 → Option Bool) (hkq13 : ∀ (xq4 : Int32) (H : Heap) (locs : List Loc) (ls : Array Slot), ZS D 97 (celC ad cy) ad A s σ H locs → lv_has ls 6 [(0, .ref (ad 24)), (2, .int xq2), (3, .int xq3), (4, .int xq4)] → kq13 xq4 = some r → W p l e ({ frames := 1, cells := 0, slots := 0, locals := 21 } : Room) s m args below meth c H locs 0 0 (MQ below (zQi D 97 (celC ad cy) ad A (b2i r) σ) args s 0 0 A) (F0 m 13 ls [])) (xq4 : Int32) (H : Heap) (locs : List Loc) (ls : Array Slot), ZS D 97 (celC ad cy) ad A s σ H locs → lv_has ls 6 [(0, .ref (ad 24)), (2, .int xq2), (3, .int xq3), (4, .int xq4)] → f_X1_isTangledWithSome_b13 kq13 xq2 xq3 σ xq4 = some r → W p l e ({ frames := 1, cells := 0, slots := 0, locals := 21 } : Room) s m args below meth c H locs 0 0 (MQ below (zQi D 97 (celC ad cy) ad A (b2i r) σ) args s 0 0 A) (F0 m 13 ls []) := by
    intro xq2 xq3 kq13 hkq13 xq4 H locs ls hw hl hf
    unfold f_X1_isTangledWithSome_b13 at hf
    refine lv_iload hx hb dX1_isTangledWithSome_13 (lv_at hl 3 rfl) ?_
    refine lv_aload_n hx hb dX1_isTangledWithSome_15 rfl (lv_at hl 0 rfl) ?_
    refine zget E hw (Nat.le_of_ble_eq_true rfl) (ceC_24 ad cy _) rfl inX1 1 (by decide) k2_9 (fun _ h => h) rfl dX1_isTangledWithSome_16 ?_
    refine lv_icmp_ge (tgt := 83) hx hb dX1_isTangledWithSome_19 (by decide) (fun h => ?_) (fun h => ?_)
    · replace hf := it_t h hf
      refine lv_iconst (v := 0) hx hb dX1_isTangledWithSome_83 (by decide) ?_
      exact zretz E hw hr hlk (b_e (rt_1 hf) (by rfl)) rfl dX1_isTangledWithSome_84
    · replace hf := it_f h hf
      refine lv_aload_n hx hb dX1_isTangledWithSome_22 rfl (lv_at hl 0 rfl) ?_
      refine zget E hw (Nat.le_of_ble_eq_true rfl) (ceC_24 ad cy _) rfl inX1 15 (by decide) k2_34 (fun _ h => h) rfl dX1_isTangledWithSome_23 ?_
      refine zget E hw (Nat.le_of_ble_eq_true rfl) (ceC_41 ad cy _) rfl inX10 4 (by decide) k1_121 (fun _ h => h) rfl dX1_isTangledWithSome_26 ?_
      refine lv_iload hx hb dX1_isTangledWithSome_29 (lv_at hl 3 rfl) ?_
      obtain ⟨vq2, hvq2, hf⟩ := bd_e hf
      refine zaldr E hw (Nat.le_of_ble_eq_true rfl) (ceC_42 ad cy) hvq2 dX1_isTangledWithSome_31 ?_
      refine lv_istore (lv' := [(5, .int vq2), (0, .ref (ad 24)), (2, .int xq2), (3, .int xq3), (4, .int xq4)]) hx hb dX1_isTangledWithSome_32 hl (by decide) rfl (fun ls hl => ?_)
      refine lv_iload_n hx hb dX1_isTangledWithSome_34 rfl (lv_at hl 2 rfl) ?_
      refine lv_iload hx hb dX1_isTangledWithSome_35 (lv_at hl 4 rfl) ?_
      refine zcali hw (va_runSN (As := [.int xq2, .int xq4]) (rest := []) E.fix (c_X11_isIn (l := l) hA xq2 xq4 σ rfl) (zcN E k2_197 k1_1 k4_35 k2_196 mf_X11_isIn rfl rfl ⟨Nat.le_of_ble_eq_true rfl, Nat.le_of_ble_eq_true rfl⟩) (zPre E hw _) rfl rfl hl.1 rfl (lv_room (Nat.le_of_ble_eq_true rfl)) dX1_isTangledWithSome_37 ⟨Nat.zero_le _, Nat.zero_le _⟩) (fun H locs hw => ?_)
      refine lv_if_eq (tgt := 77) hx hb dX1_isTangledWithSome_40 (by decide) (fun h => ?_) (fun h => ?_)
      · replace hf := it_f (b2i_0 h) hf
        refine lv_iinc (v := (xq4 + 1)) (lv' := [(4, .int (xq4 + 1)), (5, .int vq2), (0, .ref (ad 24)), (2, .int xq2), (3, .int xq3)]) hx hb dX1_isTangledWithSome_77 hl (k := 4) rfl (by rfl) (by decide) rfl (fun ls hl => ?_)
        refine lv_goto (tgt := 13) hx hb dX1_isTangledWithSome_80 (by decide) ?_
        exact hkq13 (xq4 + 1) _ _ _ hw (lv_sub hl [2, 3, 4, 0] rfl) hf
      · replace hf := it_t (b2i_n h) hf
        refine lv_iload_n hx hb dX1_isTangledWithSome_43 rfl (lv_at hl 3 rfl) ?_
        refine lv_bipush (v := 7) hx hb dX1_isTangledWithSome_44 (by decide) ?_
        refine lv_iand hx hb dX1_isTangledWithSome_46 ?_
        refine lv_iload hx hb dX1_isTangledWithSome_47 (lv_at hl 0 rfl) ?_
        refine lv_bipush (v := 7) hx hb dX1_isTangledWithSome_49 (by decide) ?_
        refine lv_iand hx hb dX1_isTangledWithSome_51 ?_
        refine lv_isub hx hb dX1_isTangledWithSome_52 ?_
        refine zmabs E hl.1 (E.ht _ k4_109) (E.ht _ k3_39) (E.ht _ k1_15) (E.ht _ k3_40) (Nat.le_of_ble_eq_true rfl) (Nat.le_of_ble_eq_true rfl) dX1_isTangledWithSome_53 ?_
        refine lv_iconst (v := 1) hx hb dX1_isTangledWithSome_56 (by decide) ?_
        refine lv_icmp_gt (tgt := 77) hx hb dX1_isTangledWithSome_57 (by decide) (fun h => ?_) (fun h => ?_)
        · replace hf := it_t h hf
          refine lv_iinc (v := (xq4 + 1)) (lv' := [(4, .int (xq4 + 1)), (5, .int vq2), (0, .ref (ad 24)), (2, .int xq2), (3, .int xq3)]) hx hb dX1_isTangledWithSome_77 hl (k := 4) rfl (by rfl) (by decide) rfl (fun ls hl => ?_)
          refine lv_goto (tgt := 13) hx hb dX1_isTangledWithSome_80 (by decide) ?_
          exact hkq13 (xq4 + 1) _ _ _ hw (lv_sub hl [2, 3, 4, 0] rfl) hf
        · replace hf := it_f h hf
          refine lv_iload_n hx hb dX1_isTangledWithSome_60 rfl (lv_at hl 3 rfl) ?_
          refine lv_iconst (v := 3) hx hb dX1_isTangledWithSome_61 (by decide) ?_
          refine zishr hx hb dX1_isTangledWithSome_62 ?_
          refine lv_iload hx hb dX1_isTangledWithSome_63 (lv_at hl 0 rfl) ?_
          refine lv_iconst (v := 3) hx hb dX1_isTangledWithSome_65 (by decide) ?_
          refine zishr hx hb dX1_isTangledWithSome_66 ?_
          refine lv_isub hx hb dX1_isTangledWithSome_67 ?_
          refine zmabs E hl.1 (E.ht _ k4_109) (E.ht _ k3_39) (E.ht _ k1_15) (E.ht _ k3_40) (Nat.le_of_ble_eq_true rfl) (Nat.le_of_ble_eq_true rfl) dX1_isTangledWithSome_68 ?_
          refine lv_iconst (v := 1) hx hb dX1_isTangledWithSome_71 (by decide) ?_
          refine lv_icmp_gt (tgt := 77) hx hb dX1_isTangledWithSome_72 (by decide) (fun h => ?_) (fun h => ?_)
          · replace hf := it_t h hf
            refine lv_iinc (v := (xq4 + 1)) (lv' := [(4, .int (xq4 + 1)), (5, .int vq2), (0, .ref (ad 24)), (2, .int xq2), (3, .int xq3)]) hx hb dX1_isTangledWithSome_77 hl (k := 4) rfl (by rfl) (by decide) rfl (fun ls hl => ?_)
            refine lv_goto (tgt := 13) hx hb dX1_isTangledWithSome_80 (by decide) ?_
            exact hkq13 (xq4 + 1) _ _ _ hw (lv_sub hl [2, 3, 4, 0] rfl) hf
          · replace hf := it_f h hf
            refine lv_iconst (v := 1) hx hb dX1_isTangledWithSome_75 (by decide) ?_
            exact zretz E hw hr hlk (b_e (rt_1 hf) (by rfl)) rfl dX1_isTangledWithSome_76
  have hL13 : ∀ (xq2 : Int32) (xq3 : Int32) (n : Nat) (xq4 : Int32) (H : Heap) (locs : List Loc) (ls : Array Slot), ZS D 97 (celC ad cy) ad A s σ H locs → lv_has ls 6 [(0, .ref (ad 24)), (2, .int xq2), (3, .int xq3), (4, .int xq4)] → f_X1_isTangledWithSome_l13 xq2 xq3 σ n xq4 = some r → W p l e ({ frames := 1, cells := 0, slots := 0, locals := 21 } : Room) s m args below meth c H locs 0 0 (MQ below (zQi D 97 (celC ad cy) ad A (b2i r) σ) args s 0 0 A) (F0 m 13 ls []) := by
    intro xq2 xq3 n
    induction n with
    | zero =>
      intro xq4 H locs ls hw hl hf
      exact nn_e hf
    | succ n ih =>
      intro xq4 H locs ls hw hl hf
      exact hB13 xq2 xq3 (f_X1_isTangledWithSome_l13 xq2 xq3 σ n) ih xq4 H locs ls hw hl hf
  unfold f_X1_isTangledWithSome at hf
  refine lv_aload_n hx hb dX1_isTangledWithSome_0 rfl (lv_at hl 0 rfl) ?_
  refine zget E hw (Nat.le_of_ble_eq_true rfl) (ceC_24 ad cy _) rfl inX1 15 (by decide) k2_34 (fun _ h => h) rfl dX1_isTangledWithSome_1 ?_
  refine zget E hw (Nat.le_of_ble_eq_true rfl) (ceC_41 ad cy _) rfl inX10 4 (by decide) k1_121 (fun _ h => h) rfl dX1_isTangledWithSome_4 ?_
  refine lv_iload_n hx hb dX1_isTangledWithSome_7 rfl (lv_at hl 1 rfl) ?_
  obtain ⟨vq1, hvq1, hf⟩ := bd_e hf
  refine zaldr E hw (Nat.le_of_ble_eq_true rfl) (ceC_42 ad cy) hvq1 dX1_isTangledWithSome_8 ?_
  refine lv_istore_n (lv' := [(3, .int vq1), (0, .ref (ad 24)), (1, .int xq1), (2, .int xq2)]) hx hb dX1_isTangledWithSome_9 rfl hl (by decide) rfl (fun ls hl => ?_)
  refine lv_iconst (v := 0) hx hb dX1_isTangledWithSome_10 (by decide) ?_
  refine lv_istore (lv' := [(4, .int 0), (3, .int vq1), (0, .ref (ad 24)), (1, .int xq1), (2, .int xq2)]) hx hb dX1_isTangledWithSome_11 hl (by decide) rfl (fun ls hl => ?_)
  exact hL13 xq2 vq1 400 0 _ _ _ hw (lv_sub hl [2, 4, 1, 0] rfl) hf
set_option maxRecDepth 100000 in
set_option maxHeartbeats 4000000 in
theorem c_X1_caseOf {l : Launch} {D : va_G} {cy : Cy} {ad : Nat → Nat} {A : Nat → Prop} (hA : okAd 97 ad A) (xq1 : Int32) (σ : Sg) {r : Int32} (hf : f_X1_caseOf xq1 σ = some r) : Met l yX1_caseOf (.code yX1_caseOf cX1_caseOf 5 (some .int) :: TT) ({ frames := 2, cells := 0, slots := 0, locals := 46 } : Room) (zPc D cy 97 (celC ad cy) ad A [.ref (ad 24), .int xq1] σ) (zQi D 97 (celC ad cy) ad A r σ) 0 0 A := by
  refine zofW (by decide) hA (Nat.le_of_ble_eq_true rfl) ?_
  intro p e s m args below meth c ls E hw hr hlk hl
  have E : ZE p s m args c cX1_caseOf 5 "KiteSummons$County" D cy 97 ad A := E
  have hx := E.hx
  have hb := E.hb
  have hl : lv_has ls 5 [(0, .ref (ad 24)), (1, .int xq1)] := hl
  have hB25 : ∀ (xq3 : Int32) (kq14 : Int32 → Int32 → Option Int32) (hkq14 : ∀ (xq2 : Int32) (xq3 : Int32) (H : Heap) (locs : List Loc) (ls : Array Slot), ZS D 97 (celC ad cy) ad A s σ H locs → lv_has ls 5 [(0, .ref (ad 24)), (2, .int xq2), (3, .int xq3)] → kq14 xq2 xq3 = some r → W p l e ({ frames := 2, cells := 0, slots := 0, locals := 46 } : Room) s m args below meth c H locs 0 0 (MQ below (zQi D 97 (celC ad cy) ad A r σ) args s 0 0 A) (F0 m 14 ls [])) (kq25 : Int32 → Int32 → Option Int32) (hkq25 : ∀ (xq2 : Int32) (xq4 : Int32) (H : Heap) (locs : List Loc) (ls : Array Slot), ZS D 97 (celC ad cy) ad A s σ H locs → lv_has ls 5 [(0, .ref (ad 24)), (2, .int xq2), (3, .int xq3), (4, .int xq4)] → kq25 xq2 xq4 = some r → W p l e ({ frames := 2, cells := 0, slots := 0, locals := 46 } : Room) s m args below meth c H locs 0 0 (MQ below (zQi D 97 (celC ad cy) ad A r σ) args s 0 0 A) (F0 m 25 ls [])) (xq2 : Int32) (xq4 : Int32) (H : Heap) (locs : List Loc) (ls : Array Slot), ZS D 97 (celC ad cy) ad A s σ H locs → lv_has ls 5 [(0, .ref (ad 24)), (2, .int xq2), (3, .int xq3), (4, .int xq4)] → f_X1_caseOf_b25 kq14 kq25 xq3 σ xq2 xq4 = some r → W p l e ({ frames := 2, cells := 0, slots := 0, locals := 46 } : Room) s m args below meth c H locs 0 0 (MQ below (zQi D 97 (celC ad cy) ad A r σ) args s 0 0 A) (F0 m 25 ls []) := by
    intro xq3 kq14 hkq14 kq25 hkq25 xq2 xq4 H locs ls hw hl hf
    unfold f_X1_caseOf_b25 at hf
    refine lv_iload hx hb dX1_caseOf_25 (lv_at hl 3 rfl) ?_
    refine lv_aload_n hx hb dX1_caseOf_27 rfl (lv_at hl 0 rfl) ?_
    refine zget E hw (Nat.le_of_ble_eq_true rfl) (ceC_24 ad cy _) rfl inX1 1 (by decide) k2_9 (fun _ h => h) rfl dX1_caseOf_28 ?_
    refine lv_icmp_ge (tgt := 73) hx hb dX1_caseOf_31 (by decide) (fun h => ?_) (fun h => ?_)
    · replace hf := it_t h hf
      refine lv_iinc (v := (xq3 + 1)) (lv' := [(3, .int (xq3 + 1)), (0, .ref (ad 24)), (2, .int xq2), (4, .int xq4)]) hx hb dX1_caseOf_73 hl (k := 2) rfl (by rfl) (by decide) rfl (fun ls hl => ?_)
      refine lv_goto (tgt := 14) hx hb dX1_caseOf_76 (by decide) ?_
      exact hkq14 xq2 (xq3 + 1) _ _ _ hw (lv_sub hl [1, 2, 0] rfl) hf
    · replace hf := it_f h hf
      refine lv_aload_n hx hb dX1_caseOf_34 rfl (lv_at hl 0 rfl) ?_
      refine zget E hw (Nat.le_of_ble_eq_true rfl) (ceC_24 ad cy _) rfl inX1 15 (by decide) k2_34 (fun _ h => h) rfl dX1_caseOf_35 ?_
      refine zget E hw (Nat.le_of_ble_eq_true rfl) (ceC_41 ad cy _) rfl inX10 2 (by decide) k1_114 (fun _ h => h) rfl dX1_caseOf_38 ?_
      refine lv_iload hx hb dX1_caseOf_41 (lv_at hl 3 rfl) ?_
      refine zcali hw (va_runSN (As := [.int (σ 41 2), .int xq4]) (rest := []) E.fix (c_X11_isIn (l := l) hA (σ 41 2) xq4 σ rfl) (zcN E k2_197 k1_1 k4_35 k2_196 mf_X11_isIn rfl rfl ⟨Nat.le_of_ble_eq_true rfl, Nat.le_of_ble_eq_true rfl⟩) (zPre E hw _) rfl rfl hl.1 rfl (lv_room (Nat.le_of_ble_eq_true rfl)) dX1_caseOf_43 ⟨Nat.zero_le _, Nat.zero_le _⟩) (fun H locs hw => ?_)
      refine lv_if_eq (tgt := 67) hx hb dX1_caseOf_46 (by decide) (fun h => ?_) (fun h => ?_)
      · replace hf := it_f (b2i_0 h) hf
        refine lv_iinc (v := (xq4 + 1)) (lv' := [(4, .int (xq4 + 1)), (0, .ref (ad 24)), (2, .int xq2), (3, .int xq3)]) hx hb dX1_caseOf_67 hl (k := 3) rfl (by rfl) (by decide) rfl (fun ls hl => ?_)
        refine lv_goto (tgt := 25) hx hb dX1_caseOf_70 (by decide) ?_
        exact hkq25 xq2 (xq4 + 1) _ _ _ hw (lv_sub hl [1, 2, 3, 0] rfl) hf
      · replace hf := it_t (b2i_n h) hf
        refine lv_aload_n hx hb dX1_caseOf_49 rfl (lv_at hl 0 rfl) ?_
        refine lv_iload hx hb dX1_caseOf_50 (lv_at hl 3 rfl) ?_
        refine lv_iload_n hx hb dX1_caseOf_52 rfl (lv_at hl 1 rfl) ?_
        obtain ⟨vq2, hc, hf⟩ := bd_e hf
        refine zcali hw (va_runV (As := [.int xq4, .int xq2]) (rest := []) E.fix (c_X1_isTangledWithSome (l := l) hA xq4 xq2 σ hc) (zcV E k4_108 k1_11 k4_105 k4_107 kp2_9 mf_X1_isTangledWithSome rfl rfl ⟨Nat.le_of_ble_eq_true rfl, Nat.le_of_ble_eq_true rfl⟩) (zPreV E hw (Nat.le_of_ble_eq_true rfl) (ceC_24 ad cy _) rfl _) rfl rfl hl.1 rfl (lv_room (Nat.le_of_ble_eq_true rfl)) dX1_caseOf_53 ⟨Nat.zero_le _, Nat.zero_le _⟩) (fun H locs hw => ?_)
        refine lv_if_eq (tgt := 67) hx hb dX1_caseOf_56 (by decide) (fun h => ?_) (fun h => ?_)
        · replace hf := it_f (b2i_0 h) hf
          refine lv_iinc (v := (xq4 + 1)) (lv' := [(4, .int (xq4 + 1)), (0, .ref (ad 24)), (2, .int xq2), (3, .int xq3)]) hx hb dX1_caseOf_67 hl (k := 3) rfl (by rfl) (by decide) rfl (fun ls hl => ?_)
          refine lv_goto (tgt := 25) hx hb dX1_caseOf_70 (by decide) ?_
          exact hkq25 xq2 (xq4 + 1) _ _ _ hw (lv_sub hl [1, 2, 3, 0] rfl) hf
        · replace hf := it_t (b2i_n h) hf
          refine lv_iload_n hx hb dX1_caseOf_59 rfl (lv_at hl 1 rfl) ?_
          refine lv_iload hx hb dX1_caseOf_60 (lv_at hl 3 rfl) ?_
          refine lv_iconst (v := 1) hx hb dX1_caseOf_62 (by decide) ?_
          refine zcali hw (va_runSN (As := [.int xq2, .int xq4, .int 1]) (rest := []) E.fix (c_X11_withBit (l := l) hA xq2 xq4 1 σ rfl) (zcN E k2_186 k1_1 k2_184 k2_185 mf_X11_withBit rfl rfl ⟨Nat.le_of_ble_eq_true rfl, Nat.le_of_ble_eq_true rfl⟩) (zPre E hw _) rfl rfl hl.1 rfl (lv_room (Nat.le_of_ble_eq_true rfl)) dX1_caseOf_63 ⟨Nat.zero_le _, Nat.zero_le _⟩) (fun H locs hw => ?_)
          refine lv_topi (fun vq3 evq3 => ?_)
          replace hf := lt_i evq3 hf
          refine lv_istore_n (lv' := [(2, .int vq3), (0, .ref (ad 24)), (3, .int xq3), (4, .int xq4)]) hx hb dX1_caseOf_66 rfl hl (by decide) rfl (fun ls hl => ?_)
          refine lv_iinc (v := (xq4 + 1)) (lv' := [(4, .int (xq4 + 1)), (2, .int vq3), (0, .ref (ad 24)), (3, .int xq3)]) hx hb dX1_caseOf_67 hl (k := 3) rfl (by rfl) (by decide) rfl (fun ls hl => ?_)
          refine lv_goto (tgt := 25) hx hb dX1_caseOf_70 (by decide) ?_
          exact hkq25 vq3 (xq4 + 1) _ _ _ hw (lv_sub hl [2, 1, 3, 0] rfl) hf
  have hL25 : ∀ (xq3 : Int32) (kq14 : Int32 → Int32 → Option Int32) (hkq14 : ∀ (xq2 : Int32) (xq3 : Int32) (H : Heap) (locs : List Loc) (ls : Array Slot), ZS D 97 (celC ad cy) ad A s σ H locs → lv_has ls 5 [(0, .ref (ad 24)), (2, .int xq2), (3, .int xq3)] → kq14 xq2 xq3 = some r → W p l e ({ frames := 2, cells := 0, slots := 0, locals := 46 } : Room) s m args below meth c H locs 0 0 (MQ below (zQi D 97 (celC ad cy) ad A r σ) args s 0 0 A) (F0 m 14 ls [])) (n : Nat) (xq2 : Int32) (xq4 : Int32) (H : Heap) (locs : List Loc) (ls : Array Slot), ZS D 97 (celC ad cy) ad A s σ H locs → lv_has ls 5 [(0, .ref (ad 24)), (2, .int xq2), (3, .int xq3), (4, .int xq4)] → f_X1_caseOf_l25 kq14 xq3 σ n xq2 xq4 = some r → W p l e ({ frames := 2, cells := 0, slots := 0, locals := 46 } : Room) s m args below meth c H locs 0 0 (MQ below (zQi D 97 (celC ad cy) ad A r σ) args s 0 0 A) (F0 m 25 ls []) := by
    intro xq3 kq14 hkq14 n
    induction n with
    | zero =>
      intro xq2 xq4 H locs ls hw hl hf
      exact nn_e hf
    | succ n ih =>
      intro xq2 xq4 H locs ls hw hl hf
      exact hB25 xq3 kq14 hkq14 (f_X1_caseOf_l25 kq14 xq3 σ n) ih xq2 xq4 H locs ls hw hl hf
  have hB14 : ∀ (kq14 : Int32 → Int32 → Option Int32) (hkq14 : ∀ (xq2 : Int32) (xq3 : Int32) (H : Heap) (locs : List Loc) (ls : Array Slot), ZS D 97 (celC ad cy) ad A s σ H locs → lv_has ls 5 [(0, .ref (ad 24)), (2, .int xq2), (3, .int xq3)] → kq14 xq2 xq3 = some r → W p l e ({ frames := 2, cells := 0, slots := 0, locals := 46 } : Room) s m args below meth c H locs 0 0 (MQ below (zQi D 97 (celC ad cy) ad A r σ) args s 0 0 A) (F0 m 14 ls [])) (xq2 : Int32) (xq3 : Int32) (H : Heap) (locs : List Loc) (ls : Array Slot), ZS D 97 (celC ad cy) ad A s σ H locs → lv_has ls 5 [(0, .ref (ad 24)), (2, .int xq2), (3, .int xq3)] → f_X1_caseOf_b14 kq14 σ xq2 xq3 = some r → W p l e ({ frames := 2, cells := 0, slots := 0, locals := 46 } : Room) s m args below meth c H locs 0 0 (MQ below (zQi D 97 (celC ad cy) ad A r σ) args s 0 0 A) (F0 m 14 ls []) := by
    intro kq14 hkq14 xq2 xq3 H locs ls hw hl hf
    unfold f_X1_caseOf_b14 at hf
    refine lv_iload_n hx hb dX1_caseOf_14 rfl (lv_at hl 2 rfl) ?_
    refine lv_aload_n hx hb dX1_caseOf_15 rfl (lv_at hl 0 rfl) ?_
    refine zget E hw (Nat.le_of_ble_eq_true rfl) (ceC_24 ad cy _) rfl inX1 1 (by decide) k2_9 (fun _ h => h) rfl dX1_caseOf_16 ?_
    refine lv_icmp_ge (tgt := 79) hx hb dX1_caseOf_19 (by decide) (fun h => ?_) (fun h => ?_)
    · replace hf := it_t h hf
      refine lv_iload_n hx hb dX1_caseOf_79 rfl (lv_at hl 1 rfl) ?_
      exact zreti E hw hr hlk (rt_1 hf) rfl dX1_caseOf_80
    · replace hf := it_f h hf
      refine lv_iconst (v := 0) hx hb dX1_caseOf_22 (by decide) ?_
      refine lv_istore (lv' := [(4, .int 0), (0, .ref (ad 24)), (2, .int xq2), (3, .int xq3)]) hx hb dX1_caseOf_23 hl (by decide) rfl (fun ls hl => ?_)
      exact hL25 xq3 kq14 hkq14 400 xq2 0 _ _ _ hw (lv_sub hl [1, 2, 3, 0] rfl) hf
  have hL14 : ∀ (n : Nat) (xq2 : Int32) (xq3 : Int32) (H : Heap) (locs : List Loc) (ls : Array Slot), ZS D 97 (celC ad cy) ad A s σ H locs → lv_has ls 5 [(0, .ref (ad 24)), (2, .int xq2), (3, .int xq3)] → f_X1_caseOf_l14 σ n xq2 xq3 = some r → W p l e ({ frames := 2, cells := 0, slots := 0, locals := 46 } : Room) s m args below meth c H locs 0 0 (MQ below (zQi D 97 (celC ad cy) ad A r σ) args s 0 0 A) (F0 m 14 ls []) := by
    intro n
    induction n with
    | zero =>
      intro xq2 xq3 H locs ls hw hl hf
      exact nn_e hf
    | succ n ih =>
      intro xq2 xq3 H locs ls hw hl hf
      exact hB14 (f_X1_caseOf_l14 σ n) ih xq2 xq3 H locs ls hw hl hf
  unfold f_X1_caseOf at hf
  refine lv_aload_n hx hb dX1_caseOf_0 rfl (lv_at hl 0 rfl) ?_
  refine zget E hw (Nat.le_of_ble_eq_true rfl) (ceC_24 ad cy _) rfl inX1 15 (by decide) k2_34 (fun _ h => h) rfl dX1_caseOf_1 ?_
  refine zget E hw (Nat.le_of_ble_eq_true rfl) (ceC_41 ad cy _) rfl inX10 2 (by decide) k1_114 (fun _ h => h) rfl dX1_caseOf_4 ?_
  refine lv_iconst (v := 1) hx hb dX1_caseOf_7 (by decide) ?_
  refine lv_iload_n hx hb dX1_caseOf_8 rfl (lv_at hl 1 rfl) ?_
  refine zishl hx hb dX1_caseOf_9 ?_
  refine lv_iand hx hb dX1_caseOf_10 ?_
  refine lv_topi (fun vq1 evq1 => ?_)
  replace hf := lt_i evq1 hf
  refine lv_istore_n (lv' := [(2, .int vq1), (0, .ref (ad 24)), (1, .int xq1)]) hx hb dX1_caseOf_11 rfl hl (by decide) rfl (fun ls hl => ?_)
  refine lv_iconst (v := 0) hx hb dX1_caseOf_12 (by decide) ?_
  refine lv_istore_n (lv' := [(3, .int 0), (2, .int vq1), (0, .ref (ad 24)), (1, .int xq1)]) hx hb dX1_caseOf_13 rfl hl (by decide) rfl (fun ls hl => ?_)
  exact hL14 400 vq1 0 _ _ _ hw (lv_sub hl [2, 1, 0] rfl) hf
set_option maxRecDepth 100000 in
set_option maxHeartbeats 4000000 in
theorem c_X1_countCases {l : Launch} {D : va_G} {cy : Cy} {ad : Nat → Nat} {A : Nat → Prop} (hA : okAd 97 ad A) (σ : Sg) {r : Int32} (hf : f_X1_countCases σ = some r) : Met l yX1_countCases (.code yX1_countCases cX1_countCases 4 (some .int) :: TT) ({ frames := 3, cells := 0, slots := 0, locals := 70 } : Room) (zPc D cy 97 (celC ad cy) ad A [.ref (ad 24)] σ) (zQi D 97 (celC ad cy) ad A r σ) 0 0 A := by
  refine zofW (by decide) hA (Nat.le_of_ble_eq_true rfl) ?_
  intro p e s m args below meth c ls E hw hr hlk hl
  have E : ZE p s m args c cX1_countCases 4 "KiteSummons$County" D cy 97 ad A := E
  have hx := E.hx
  have hb := E.hb
  have hl : lv_has ls 4 [(0, .ref (ad 24))] := hl
  have hB6 : ∀ (kq6 : Int32 → Int32 → Int32 → Option Int32) (hkq6 : ∀ (xq1 : Int32) (xq2 : Int32) (xq3 : Int32) (H : Heap) (locs : List Loc) (ls : Array Slot), ZS D 97 (celC ad cy) ad A s σ H locs → lv_has ls 4 [(0, .ref (ad 24)), (1, .int xq1), (2, .int xq2), (3, .int xq3)] → kq6 xq1 xq2 xq3 = some r → W p l e ({ frames := 3, cells := 0, slots := 0, locals := 70 } : Room) s m args below meth c H locs 0 0 (MQ below (zQi D 97 (celC ad cy) ad A r σ) args s 0 0 A) (F0 m 6 ls [])) (xq1 : Int32) (xq2 : Int32) (xq3 : Int32) (H : Heap) (locs : List Loc) (ls : Array Slot), ZS D 97 (celC ad cy) ad A s σ H locs → lv_has ls 4 [(0, .ref (ad 24)), (1, .int xq1), (2, .int xq2), (3, .int xq3)] → f_X1_countCases_b6 kq6 σ xq1 xq2 xq3 = some r → W p l e ({ frames := 3, cells := 0, slots := 0, locals := 70 } : Room) s m args below meth c H locs 0 0 (MQ below (zQi D 97 (celC ad cy) ad A r σ) args s 0 0 A) (F0 m 6 ls []) := by
    intro kq6 hkq6 xq1 xq2 xq3 H locs ls hw hl hf
    unfold f_X1_countCases_b6 at hf
    refine lv_iload_n hx hb dX1_countCases_6 rfl (lv_at hl 3 rfl) ?_
    refine lv_aload_n hx hb dX1_countCases_7 rfl (lv_at hl 0 rfl) ?_
    refine zget E hw (Nat.le_of_ble_eq_true rfl) (ceC_24 ad cy _) rfl inX1 1 (by decide) k2_9 (fun _ h => h) rfl dX1_countCases_8 ?_
    refine lv_icmp_ge (tgt := 53) hx hb dX1_countCases_11 (by decide) (fun h => ?_) (fun h => ?_)
    · replace hf := it_t h hf
      refine lv_iload_n hx hb dX1_countCases_53 rfl (lv_at hl 1 rfl) ?_
      exact zreti E hw hr hlk (rt_1 hf) rfl dX1_countCases_54
    · replace hf := it_f h hf
      refine lv_aload_n hx hb dX1_countCases_14 rfl (lv_at hl 0 rfl) ?_
      refine zget E hw (Nat.le_of_ble_eq_true rfl) (ceC_24 ad cy _) rfl inX1 15 (by decide) k2_34 (fun _ h => h) rfl dX1_countCases_15 ?_
      refine zget E hw (Nat.le_of_ble_eq_true rfl) (ceC_41 ad cy _) rfl inX10 2 (by decide) k1_114 (fun _ h => h) rfl dX1_countCases_18 ?_
      refine lv_iload_n hx hb dX1_countCases_21 rfl (lv_at hl 3 rfl) ?_
      refine zcali hw (va_runSN (As := [.int (σ 41 2), .int xq3]) (rest := []) E.fix (c_X11_isIn (l := l) hA (σ 41 2) xq3 σ rfl) (zcN E k2_197 k1_1 k4_35 k2_196 mf_X11_isIn rfl rfl ⟨Nat.le_of_ble_eq_true rfl, Nat.le_of_ble_eq_true rfl⟩) (zPre E hw _) rfl rfl hl.1 rfl (lv_room (Nat.le_of_ble_eq_true rfl)) dX1_countCases_22 ⟨Nat.zero_le _, Nat.zero_le _⟩) (fun H locs hw => ?_)
      refine lv_if_eq (tgt := 47) hx hb dX1_countCases_25 (by decide) (fun h => ?_) (fun h => ?_)
      · replace hf := it_f (b2i_0 h) hf
        refine lv_iinc (v := (xq3 + 1)) (lv' := [(3, .int (xq3 + 1)), (0, .ref (ad 24)), (1, .int xq1), (2, .int xq2)]) hx hb dX1_countCases_47 hl (k := 3) rfl (by rfl) (by decide) rfl (fun ls hl => ?_)
        refine lv_goto (tgt := 6) hx hb dX1_countCases_50 (by decide) ?_
        exact hkq6 xq1 xq2 (xq3 + 1) _ _ _ hw (lv_sub hl [1, 2, 3, 0] rfl) hf
      · replace hf := it_t (b2i_n h) hf
        refine lv_iload_n hx hb dX1_countCases_28 rfl (lv_at hl 2 rfl) ?_
        refine lv_iload_n hx hb dX1_countCases_29 rfl (lv_at hl 3 rfl) ?_
        refine zcali hw (va_runSN (As := [.int xq2, .int xq3]) (rest := []) E.fix (c_X11_isIn (l := l) hA xq2 xq3 σ rfl) (zcN E k2_197 k1_1 k4_35 k2_196 mf_X11_isIn rfl rfl ⟨Nat.le_of_ble_eq_true rfl, Nat.le_of_ble_eq_true rfl⟩) (zPre E hw _) rfl rfl hl.1 rfl (lv_room (Nat.le_of_ble_eq_true rfl)) dX1_countCases_30 ⟨Nat.zero_le _, Nat.zero_le _⟩) (fun H locs hw => ?_)
        refine lv_if_ne (tgt := 47) hx hb dX1_countCases_33 (by decide) (fun h => ?_) (fun h => ?_)
        · replace hf := it_t (b2i_n h) hf
          refine lv_iinc (v := (xq3 + 1)) (lv' := [(3, .int (xq3 + 1)), (0, .ref (ad 24)), (1, .int xq1), (2, .int xq2)]) hx hb dX1_countCases_47 hl (k := 3) rfl (by rfl) (by decide) rfl (fun ls hl => ?_)
          refine lv_goto (tgt := 6) hx hb dX1_countCases_50 (by decide) ?_
          exact hkq6 xq1 xq2 (xq3 + 1) _ _ _ hw (lv_sub hl [1, 2, 3, 0] rfl) hf
        · replace hf := it_f (b2i_0 h) hf
          refine lv_iinc (v := (xq1 + 1)) (lv' := [(1, .int (xq1 + 1)), (0, .ref (ad 24)), (2, .int xq2), (3, .int xq3)]) hx hb dX1_countCases_36 hl (k := 1) rfl (by rfl) (by decide) rfl (fun ls hl => ?_)
          refine lv_iload_n hx hb dX1_countCases_39 rfl (lv_at hl 2 rfl) ?_
          refine lv_aload_n hx hb dX1_countCases_40 rfl (lv_at hl 1 rfl) ?_
          refine lv_iload_n hx hb dX1_countCases_41 rfl (lv_at hl 3 rfl) ?_
          obtain ⟨vq1, hc, hf⟩ := bd_e hf
          refine zcali hw (va_runV (As := [.int xq3]) (rest := [.int xq2]) E.fix (c_X1_caseOf (l := l) hA xq3 σ hc) (zcV E k4_104 k1_11 k4_101 k4_102 k4_103 mf_X1_caseOf rfl rfl ⟨Nat.le_of_ble_eq_true rfl, Nat.le_of_ble_eq_true rfl⟩) (zPreV E hw (Nat.le_of_ble_eq_true rfl) (ceC_24 ad cy _) rfl _) rfl rfl hl.1 rfl (lv_room (Nat.le_of_ble_eq_true rfl)) dX1_countCases_42 ⟨Nat.zero_le _, Nat.zero_le _⟩) (fun H locs hw => ?_)
          refine lv_ior hx hb dX1_countCases_45 ?_
          refine lv_topi (fun vq2 evq2 => ?_)
          replace hf := lt_i evq2 hf
          refine lv_istore_n (lv' := [(2, .int vq2), (1, .int (xq1 + 1)), (0, .ref (ad 24)), (3, .int xq3)]) hx hb dX1_countCases_46 rfl hl (by decide) rfl (fun ls hl => ?_)
          refine lv_iinc (v := (xq3 + 1)) (lv' := [(3, .int (xq3 + 1)), (2, .int vq2), (1, .int (xq1 + 1)), (0, .ref (ad 24))]) hx hb dX1_countCases_47 hl (k := 3) rfl (by rfl) (by decide) rfl (fun ls hl => ?_)
          refine lv_goto (tgt := 6) hx hb dX1_countCases_50 (by decide) ?_
          exact hkq6 (xq1 + 1) vq2 (xq3 + 1) _ _ _ hw (lv_sub hl [3, 2, 1, 0] rfl) hf
  have hL6 : ∀ (n : Nat) (xq1 : Int32) (xq2 : Int32) (xq3 : Int32) (H : Heap) (locs : List Loc) (ls : Array Slot), ZS D 97 (celC ad cy) ad A s σ H locs → lv_has ls 4 [(0, .ref (ad 24)), (1, .int xq1), (2, .int xq2), (3, .int xq3)] → f_X1_countCases_l6 σ n xq1 xq2 xq3 = some r → W p l e ({ frames := 3, cells := 0, slots := 0, locals := 70 } : Room) s m args below meth c H locs 0 0 (MQ below (zQi D 97 (celC ad cy) ad A r σ) args s 0 0 A) (F0 m 6 ls []) := by
    intro n
    induction n with
    | zero =>
      intro xq1 xq2 xq3 H locs ls hw hl hf
      exact nn_e hf
    | succ n ih =>
      intro xq1 xq2 xq3 H locs ls hw hl hf
      exact hB6 (f_X1_countCases_l6 σ n) ih xq1 xq2 xq3 H locs ls hw hl hf
  unfold f_X1_countCases at hf
  refine lv_iconst (v := 0) hx hb dX1_countCases_0 (by decide) ?_
  refine lv_istore_n (lv' := [(1, .int 0), (0, .ref (ad 24))]) hx hb dX1_countCases_1 rfl hl (by decide) rfl (fun ls hl => ?_)
  refine lv_iconst (v := 0) hx hb dX1_countCases_2 (by decide) ?_
  refine lv_istore_n (lv' := [(2, .int 0), (1, .int 0), (0, .ref (ad 24))]) hx hb dX1_countCases_3 rfl hl (by decide) rfl (fun ls hl => ?_)
  refine lv_iconst (v := 0) hx hb dX1_countCases_4 (by decide) ?_
  refine lv_istore_n (lv' := [(3, .int 0), (2, .int 0), (1, .int 0), (0, .ref (ad 24))]) hx hb dX1_countCases_5 rfl hl (by decide) rfl (fun ls hl => ?_)
  exact hL6 400 0 0 0 _ _ _ hw (lv_sub hl [3, 2, 1, 0] rfl) hf
set_option maxRecDepth 100000 in
set_option maxHeartbeats 4000000 in
theorem c_X11_cases {l : Launch} {D : va_G} {cy : Cy} {ad : Nat → Nat} {A : Nat → Prop} (hA : okAd 97 ad A) (xq1 : Int32) (σ : Sg) {r : Int32} (hf : f_X11_cases xq1 σ = some r) : Met l yX11_cases (.code yX11_cases cX11_cases 2 (some .int) :: TT) ({ frames := 4, cells := 0, slots := 0, locals := 93 } : Room) (zPc D cy 97 (celC ad cy) ad A [.ref (ad 0), .int xq1] σ) (zQi D 97 (celC ad cy) ad A r σ) 0 0 A := by
  refine zofW (by decide) hA (Nat.le_of_ble_eq_true rfl) ?_
  intro p e s m args below meth c ls E hw hr hlk hl
  have E : ZE p s m args c cX11_cases 2 "KiteSummons" D cy 97 ad A := E
  have hx := E.hx
  have hb := E.hb
  have hl : lv_has ls 2 [(0, .ref (ad 0)), (1, .int xq1)] := hl
  unfold f_X11_cases at hf
  refine lv_iload_n hx hb dX11_cases_0 rfl (lv_at hl 1 rfl) ?_
  refine lv_iconst (v := (-1)) hx hb dX11_cases_1 (by decide) ?_
  refine lv_icmp_ne (tgt := 13) hx hb dX11_cases_2 (by decide) (fun h => ?_) (fun h => ?_)
  · replace hf := it_t h hf
    refine lv_aload_n hx hb dX11_cases_13 rfl (lv_at hl 0 rfl) ?_
    refine lv_iload_n hx hb dX11_cases_14 rfl (lv_at hl 1 rfl) ?_
    refine zcali hw (va_runV (As := [.int xq1]) (rest := []) E.fix (c_X11_isKite (l := l) hA xq1 σ rfl) (zcV E k2_194 k1_1 k2_191 k2_193 kp1_0 mf_X11_isKite rfl rfl ⟨Nat.le_of_ble_eq_true rfl, Nat.le_of_ble_eq_true rfl⟩) (zPreV E hw (Nat.le_of_ble_eq_true rfl) (ceC_0 ad cy _) rfl _) rfl rfl hl.1 rfl (lv_room (Nat.le_of_ble_eq_true rfl)) dX11_cases_15 ⟨Nat.zero_le _, Nat.zero_le _⟩) (fun H locs hw => ?_)
    refine lv_if_eq (tgt := 32) hx hb dX11_cases_18 (by decide) (fun h => ?_) (fun h => ?_)
    · replace hf := it_f (b2i_0 h) hf
      refine lv_iconst (v := (-1)) hx hb dX11_cases_32 (by decide) ?_
      exact zreti E hw hr hlk (rt_1 hf) rfl dX11_cases_33
    · replace hf := it_t (b2i_n h) hf
      refine lv_aload_n hx hb dX11_cases_21 rfl (lv_at hl 0 rfl) ?_
      refine zget E hw (Nat.le_of_ble_eq_true rfl) (ceC_0 ad cy _) rfl inX11 2 (by decide) k2_123 (fun _ h => h) rfl dX11_cases_22 ?_
      refine lv_iload_n hx hb dX11_cases_25 rfl (lv_at hl 1 rfl) ?_
      obtain ⟨vq1, hc, hf⟩ := bd_e hf
      refine zcali hw (va_runV (As := [.int xq1]) (rest := []) E.fix (c_X1_caseOf (l := l) hA xq1 σ hc) (zcV E k4_104 k1_11 k4_110 k4_102 k4_103 mf_X1_caseOf rfl rfl ⟨Nat.le_of_ble_eq_true rfl, Nat.le_of_ble_eq_true rfl⟩) (zPreV E hw (Nat.le_of_ble_eq_true rfl) (ceC_24 ad cy _) rfl _) rfl rfl hl.1 rfl (lv_room (Nat.le_of_ble_eq_true rfl)) dX11_cases_26 ⟨Nat.zero_le _, Nat.zero_le _⟩) (fun H locs hw => ?_)
      refine lv_goto (tgt := 33) hx hb dX11_cases_29 (by decide) ?_
      exact zreti E hw hr hlk (rt_1 hf) rfl dX11_cases_33
  · replace hf := it_n h hf
    refine lv_aload_n hx hb dX11_cases_5 rfl (lv_at hl 0 rfl) ?_
    refine zget E hw (Nat.le_of_ble_eq_true rfl) (ceC_0 ad cy _) rfl inX11 2 (by decide) k2_123 (fun _ h => h) rfl dX11_cases_6 ?_
    obtain ⟨vq2, hc, hf⟩ := bd_e hf
    refine zcali hw (va_runV (As := []) (rest := []) E.fix (c_X1_countCases (l := l) hA σ hc) (zcV E k4_100 k1_11 k4_97 k4_98 k4_99 mf_X1_countCases rfl rfl ⟨Nat.le_of_ble_eq_true rfl, Nat.le_of_ble_eq_true rfl⟩) (zPreV E hw (Nat.le_of_ble_eq_true rfl) (ceC_24 ad cy _) rfl _) rfl rfl hl.1 rfl (lv_room (Nat.le_of_ble_eq_true rfl)) dX11_cases_9 ⟨Nat.zero_le _, Nat.zero_le _⟩) (fun H locs hw => ?_)
    exact zreti E hw hr hlk (rt_1 hf) rfl dX11_cases_12
set_option maxRecDepth 100000 in
set_option maxHeartbeats 4000000 in
theorem c_X11_fewestSteps_s {l : Launch} {D : va_G} {cy : Cy} {ad : Nat → Nat} {A : Nat → Prop} (hA : okAd 97 ad A) (rec : Int32 → Int32 → Sg → Option Int32) (d : Nat) (hrec : ∀ (xq1 : Int32) (xq2 : Int32) (σ : Sg) {r : Int32}, rec xq1 xq2 σ = some r → Met l yX11_fewestSteps (.code yX11_fewestSteps cX11_fewestSteps 7 (some .int) :: TT) ({ frames := 2 + 1 * d, cells := 0, slots := 0, locals := 42 + 26 * d } : Room) (zPc D cy 97 (celC ad cy) ad A [.ref (ad 0), .int xq1, .int xq2] σ) (zQi D 97 (celC ad cy) ad A r σ) 0 0 A) (xq1 : Int32) (xq2 : Int32) (σ : Sg) {r : Int32} (hf : f_X11_fewestSteps_s rec xq1 xq2 σ = some r) : Met l yX11_fewestSteps (.code yX11_fewestSteps cX11_fewestSteps 7 (some .int) :: TT) ({ frames := 2 + 1 * (d + 1), cells := 0, slots := 0, locals := 42 + 26 * (d + 1) } : Room) (zPc D cy 97 (celC ad cy) ad A [.ref (ad 0), .int xq1, .int xq2] σ) (zQi D 97 (celC ad cy) ad A r σ) 0 0 A := by
  refine zofW (by decide) hA (Nat.le_of_ble_eq_true rfl) ?_
  intro p e s m args below meth c ls E hw hr hlk hl
  have E : ZE p s m args c cX11_fewestSteps 7 "KiteSummons" D cy 97 ad A := E
  have hx := E.hx
  have hb := E.hb
  have hl : lv_has ls 7 [(0, .ref (ad 0)), (1, .int xq1), (2, .int xq2)] := hl
  have hB6 : ∀ (xq1 : Int32) (xq2 : Int32) (kq6 : Int32 → Int32 → Option Int32) (hkq6 : ∀ (xq3 : Int32) (xq4 : Int32) (H : Heap) (locs : List Loc) (ls : Array Slot), ZS D 97 (celC ad cy) ad A s σ H locs → lv_has ls 7 [(0, .ref (ad 0)), (1, .int xq1), (2, .int xq2), (3, .int xq3), (4, .int xq4)] → kq6 xq3 xq4 = some r → W p l e ({ frames := 2 + 1 * (d + 1), cells := 0, slots := 0, locals := 42 + 26 * (d + 1) } : Room) s m args below meth c H locs 0 0 (MQ below (zQi D 97 (celC ad cy) ad A r σ) args s 0 0 A) (F0 m 6 ls [])) (xq3 : Int32) (xq4 : Int32) (H : Heap) (locs : List Loc) (ls : Array Slot), ZS D 97 (celC ad cy) ad A s σ H locs → lv_has ls 7 [(0, .ref (ad 0)), (1, .int xq1), (2, .int xq2), (3, .int xq3), (4, .int xq4)] → f_X11_fewestSteps_b6 rec kq6 xq1 xq2 σ xq3 xq4 = some r → W p l e ({ frames := 2 + 1 * (d + 1), cells := 0, slots := 0, locals := 42 + 26 * (d + 1) } : Room) s m args below meth c H locs 0 0 (MQ below (zQi D 97 (celC ad cy) ad A r σ) args s 0 0 A) (F0 m 6 ls []) := by
    intro xq1 xq2 kq6 hkq6 xq3 xq4 H locs ls hw hl hf
    unfold f_X11_fewestSteps_b6 at hf
    refine lv_iload hx hb dX11_fewestSteps_6 (lv_at hl 4 rfl) ?_
    refine lv_aload_n hx hb dX11_fewestSteps_8 rfl (lv_at hl 0 rfl) ?_
    refine zget E hw (Nat.le_of_ble_eq_true rfl) (ceC_0 ad cy _) rfl inX11 2 (by decide) k2_123 (fun _ h => h) rfl dX11_fewestSteps_9 ?_
    refine zget E hw (Nat.le_of_ble_eq_true rfl) (ceC_24 ad cy _) rfl inX1 1 (by decide) k2_10 (fun _ h => h) rfl dX11_fewestSteps_12 ?_
    refine lv_icmp_ge (tgt := 85) hx hb dX11_fewestSteps_15 (by decide) (fun h => ?_) (fun h => ?_)
    · replace hf := it_t h hf
      refine lv_iload_n hx hb dX11_fewestSteps_85 rfl (lv_at hl 3 rfl) ?_
      refine lv_bipush (v := (-3)) hx hb dX11_fewestSteps_86 (by decide) ?_
      refine lv_icmp_ne (tgt := 95) hx hb dX11_fewestSteps_88 (by decide) (fun h => ?_) (fun h => ?_)
      · replace hf := it_t h hf
        refine lv_iload_n hx hb dX11_fewestSteps_95 rfl (lv_at hl 3 rfl) ?_
        exact zreti E hw hr hlk (rt_1 hf) rfl dX11_fewestSteps_96
      · replace hf := it_n h hf
        refine lv_iconst (v := 0) hx hb dX11_fewestSteps_91 (by decide) ?_
        refine lv_goto (tgt := 96) hx hb dX11_fewestSteps_92 (by decide) ?_
        exact zreti E hw hr hlk (rt_1 hf) rfl dX11_fewestSteps_96
    · replace hf := it_f h hf
      refine lv_iload_n hx hb dX11_fewestSteps_18 rfl (lv_at hl 2 rfl) ?_
      refine lv_iload hx hb dX11_fewestSteps_19 (lv_at hl 4 rfl) ?_
      refine zcali hw (va_runS (As := [.int xq2, .int xq4]) (rest := []) E.fix (c_X11_isIn (l := l) hA xq2 xq4 σ rfl) (zcS E k2_197 k1_1 k2_195 k2_196 mf_X11_isIn rfl rfl ⟨by dsimp only; omega, by dsimp only; omega⟩) (zPre E hw _) rfl rfl hl.1 rfl (lv_room (Nat.le_of_ble_eq_true rfl)) dX11_fewestSteps_21 ⟨Nat.zero_le _, Nat.zero_le _⟩) (fun H locs hw => ?_)
      refine lv_if_eq (tgt := 79) hx hb dX11_fewestSteps_24 (by decide) (fun h => ?_) (fun h => ?_)
      · replace hf := it_f (b2i_0 h) hf
        refine lv_iinc (v := (xq4 + 1)) (lv' := [(4, .int (xq4 + 1)), (0, .ref (ad 0)), (1, .int xq1), (2, .int xq2), (3, .int xq3)]) hx hb dX11_fewestSteps_79 hl (k := 4) rfl (by rfl) (by decide) rfl (fun ls hl => ?_)
        refine lv_goto (tgt := 6) hx hb dX11_fewestSteps_82 (by decide) ?_
        exact hkq6 xq3 (xq4 + 1) _ _ _ hw (lv_sub hl [1, 2, 3, 4, 0] rfl) hf
      · replace hf := it_t (b2i_n h) hf
        refine lv_aload_n hx hb dX11_fewestSteps_27 rfl (lv_at hl 0 rfl) ?_
        refine zget E hw (Nat.le_of_ble_eq_true rfl) (ceC_0 ad cy _) rfl inX11 2 (by decide) k2_123 (fun _ h => h) rfl dX11_fewestSteps_28 ?_
        refine zget E hw (Nat.le_of_ble_eq_true rfl) (ceC_24 ad cy _) rfl inX1 15 (by decide) k2_36 (fun _ h => h) rfl dX11_fewestSteps_31 ?_
        refine zget E hw (Nat.le_of_ble_eq_true rfl) (ceC_41 ad cy _) rfl inX10 4 (by decide) k1_122 (fun _ h => h) rfl dX11_fewestSteps_34 ?_
        refine lv_iload hx hb dX11_fewestSteps_37 (lv_at hl 4 rfl) ?_
        obtain ⟨vq1, hvq1, hf⟩ := bd_e hf
        refine zaldr E hw (Nat.le_of_ble_eq_true rfl) (ceC_42 ad cy) hvq1 dX11_fewestSteps_39 ?_
        refine lv_istore (lv' := [(5, .int vq1), (0, .ref (ad 0)), (1, .int xq1), (2, .int xq2), (3, .int xq3), (4, .int xq4)]) hx hb dX11_fewestSteps_40 hl (by decide) rfl (fun ls hl => ?_)
        refine lv_iload_n hx hb dX11_fewestSteps_42 rfl (lv_at hl 2 rfl) ?_
        refine lv_iload hx hb dX11_fewestSteps_43 (lv_at hl 0 rfl) ?_
        refine zcali hw (va_runS (As := [.int xq1, .int vq1]) (rest := []) E.fix (c_X11_far (l := l) hA xq1 vq1 σ rfl) (zcS E k3_37 k1_1 k4_119 k3_36 mf_X11_far rfl rfl ⟨by dsimp only; omega, by dsimp only; omega⟩) (zPre E hw _) rfl rfl hl.1 rfl (lv_room (Nat.le_of_ble_eq_true rfl)) dX11_fewestSteps_45 ⟨Nat.zero_le _, Nat.zero_le _⟩) (fun H locs hw => ?_)
        refine lv_aload_n hx hb dX11_fewestSteps_48 rfl (lv_at hl 1 rfl) ?_
        refine lv_iload hx hb dX11_fewestSteps_49 (lv_at hl 0 rfl) ?_
        refine lv_iload_n hx hb dX11_fewestSteps_51 rfl (lv_at hl 3 rfl) ?_
        refine lv_iload hx hb dX11_fewestSteps_52 (lv_at hl 5 rfl) ?_
        refine lv_iconst (v := 0) hx hb dX11_fewestSteps_54 (by decide) ?_
        refine zcali hw (va_runS (As := [.int xq2, .int xq4, .int 0]) (rest := [.int vq1, .ref (ad 0), .int (f_X11_far xq1 vq1 σ)]) E.fix (c_X11_withBit (l := l) hA xq2 xq4 0 σ rfl) (zcS E k2_186 k1_1 k3_69 k2_185 mf_X11_withBit rfl rfl ⟨by dsimp only; omega, by dsimp only; omega⟩) (zPre E hw _) rfl rfl hl.1 rfl (lv_room (Nat.le_of_ble_eq_true rfl)) dX11_fewestSteps_55 ⟨Nat.zero_le _, Nat.zero_le _⟩) (fun H locs hw => ?_)
        obtain ⟨vq2, hc, hf⟩ := bd_e hf
        refine zcali hw (va_runV (As := [.int vq1, .int (f_X11_withBit xq2 xq4 0 σ)]) (rest := [.int (f_X11_far xq1 vq1 σ)]) E.fix (hrec vq1 (f_X11_withBit xq2 xq4 0 σ) σ hc) (zcV E k4_118 k1_1 k4_115 k4_117 kp2_10 mf_X11_fewestSteps rfl rfl ⟨by dsimp only; omega, by dsimp only; omega⟩) (zPreV E hw (Nat.le_of_ble_eq_true rfl) (ceC_0 ad cy _) rfl _) rfl rfl hl.1 rfl (lv_room (Nat.le_of_ble_eq_true rfl)) dX11_fewestSteps_58 ⟨Nat.zero_le _, Nat.zero_le _⟩) (fun H locs hw => ?_)
        refine lv_iadd hx hb dX11_fewestSteps_61 ?_
        refine lv_topi (fun vq3 evq3 => ?_)
        replace hf := lt_i evq3 hf
        refine lv_istore (lv' := [(6, .int vq3), (5, .int vq1), (0, .ref (ad 0)), (1, .int xq1), (2, .int xq2), (3, .int xq3), (4, .int xq4)]) hx hb dX11_fewestSteps_62 hl (by decide) rfl (fun ls hl => ?_)
        refine lv_iload_n hx hb dX11_fewestSteps_64 rfl (lv_at hl 5 rfl) ?_
        refine lv_bipush (v := (-3)) hx hb dX11_fewestSteps_65 (by decide) ?_
        refine lv_icmp_eq (tgt := 76) hx hb dX11_fewestSteps_67 (by decide) (fun h => ?_) (fun h => ?_)
        · replace hf := it_t h hf
          refine lv_iload hx hb dX11_fewestSteps_76 (lv_at hl 0 rfl) ?_
          refine lv_istore_n (lv' := [(3, .int vq3), (6, .int vq3), (5, .int vq1), (0, .ref (ad 0)), (1, .int xq1), (2, .int xq2), (4, .int xq4)]) hx hb dX11_fewestSteps_78 rfl hl (by decide) rfl (fun ls hl => ?_)
          refine lv_iinc (v := (xq4 + 1)) (lv' := [(4, .int (xq4 + 1)), (3, .int vq3), (6, .int vq3), (5, .int vq1), (0, .ref (ad 0)), (1, .int xq1), (2, .int xq2)]) hx hb dX11_fewestSteps_79 hl (k := 6) rfl (by rfl) (by decide) rfl (fun ls hl => ?_)
          refine lv_goto (tgt := 6) hx hb dX11_fewestSteps_82 (by decide) ?_
          exact hkq6 vq3 (xq4 + 1) _ _ _ hw (lv_sub hl [4, 5, 6, 1, 0] rfl) hf
        · replace hf := it_f h hf
          refine lv_iload hx hb dX11_fewestSteps_70 (lv_at hl 0 rfl) ?_
          refine lv_iload_n hx hb dX11_fewestSteps_72 rfl (lv_at hl 5 rfl) ?_
          refine lv_icmp_ge (tgt := 79) hx hb dX11_fewestSteps_73 (by decide) (fun h => ?_) (fun h => ?_)
          · replace hf := it_t h hf
            refine lv_iinc (v := (xq4 + 1)) (lv' := [(4, .int (xq4 + 1)), (6, .int vq3), (5, .int vq1), (0, .ref (ad 0)), (1, .int xq1), (2, .int xq2), (3, .int xq3)]) hx hb dX11_fewestSteps_79 hl (k := 6) rfl (by rfl) (by decide) rfl (fun ls hl => ?_)
            refine lv_goto (tgt := 6) hx hb dX11_fewestSteps_82 (by decide) ?_
            exact hkq6 xq3 (xq4 + 1) _ _ _ hw (lv_sub hl [3, 4, 5, 6, 0] rfl) hf
          · replace hf := it_f h hf
            refine lv_iload hx hb dX11_fewestSteps_76 (lv_at hl 0 rfl) ?_
            refine lv_istore_n (lv' := [(3, .int vq3), (6, .int vq3), (5, .int vq1), (0, .ref (ad 0)), (1, .int xq1), (2, .int xq2), (4, .int xq4)]) hx hb dX11_fewestSteps_78 rfl hl (by decide) rfl (fun ls hl => ?_)
            refine lv_iinc (v := (xq4 + 1)) (lv' := [(4, .int (xq4 + 1)), (3, .int vq3), (6, .int vq3), (5, .int vq1), (0, .ref (ad 0)), (1, .int xq1), (2, .int xq2)]) hx hb dX11_fewestSteps_79 hl (k := 6) rfl (by rfl) (by decide) rfl (fun ls hl => ?_)
            refine lv_goto (tgt := 6) hx hb dX11_fewestSteps_82 (by decide) ?_
            exact hkq6 vq3 (xq4 + 1) _ _ _ hw (lv_sub hl [4, 5, 6, 1, 0] rfl) hf
  have hL6 : ∀ (xq1 : Int32) (xq2 : Int32) (n : Nat) (xq3 : Int32) (xq4 : Int32) (H : Heap) (locs : List Loc) (ls : Array Slot), ZS D 97 (celC ad cy) ad A s σ H locs → lv_has ls 7 [(0, .ref (ad 0)), (1, .int xq1), (2, .int xq2), (3, .int xq3), (4, .int xq4)] → f_X11_fewestSteps_l6 rec xq1 xq2 σ n xq3 xq4 = some r → W p l e ({ frames := 2 + 1 * (d + 1), cells := 0, slots := 0, locals := 42 + 26 * (d + 1) } : Room) s m args below meth c H locs 0 0 (MQ below (zQi D 97 (celC ad cy) ad A r σ) args s 0 0 A) (F0 m 6 ls []) := by
    intro xq1 xq2 n
    induction n with
    | zero =>
      intro xq3 xq4 H locs ls hw hl hf
      exact nn_e hf
    | succ n ih =>
      intro xq3 xq4 H locs ls hw hl hf
      exact hB6 xq1 xq2 (f_X11_fewestSteps_l6 rec xq1 xq2 σ n) ih xq3 xq4 H locs ls hw hl hf
  unfold f_X11_fewestSteps_s at hf
  refine lv_bipush (v := (-3)) hx hb dX11_fewestSteps_0 (by decide) ?_
  refine lv_istore_n (lv' := [(3, .int (-3)), (0, .ref (ad 0)), (1, .int xq1), (2, .int xq2)]) hx hb dX11_fewestSteps_2 rfl hl (by decide) rfl (fun ls hl => ?_)
  refine lv_iconst (v := 0) hx hb dX11_fewestSteps_3 (by decide) ?_
  refine lv_istore (lv' := [(4, .int 0), (3, .int (-3)), (0, .ref (ad 0)), (1, .int xq1), (2, .int xq2)]) hx hb dX11_fewestSteps_4 hl (by decide) rfl (fun ls hl => ?_)
  exact hL6 xq1 xq2 400 (-3) 0 _ _ _ hw (lv_sub hl [2, 3, 4, 1, 0] rfl) hf
theorem c_X11_fewestSteps {l : Launch} {D : va_G} {cy : Cy} {ad : Nat → Nat} {A : Nat → Prop} (hA : okAd 97 ad A) : ∀ (d : Nat) (xq1 : Int32) (xq2 : Int32) (σ : Sg) {r : Int32}, f_X11_fewestSteps d xq1 xq2 σ = some r → Met l yX11_fewestSteps (.code yX11_fewestSteps cX11_fewestSteps 7 (some .int) :: TT) ({ frames := 2 + 1 * d, cells := 0, slots := 0, locals := 42 + 26 * d } : Room) (zPc D cy 97 (celC ad cy) ad A [.ref (ad 0), .int xq1, .int xq2] σ) (zQi D 97 (celC ad cy) ad A r σ) 0 0 A := by
  intro d
  induction d with
  | zero =>
    intro xq1 xq2 σ r hf
    exact nn_e hf
  | succ d ih =>
    intro xq1 xq2 σ r hf
    exact c_X11_fewestSteps_s hA (f_X11_fewestSteps d) d ih xq1 xq2 σ hf
set_option maxRecDepth 100000 in
set_option maxHeartbeats 4000000 in
theorem c_X11_firstOnCircuit {l : Launch} {D : va_G} {cy : Cy} {ad : Nat → Nat} {A : Nat → Prop} (hA : okAd 97 ad A) (xq1 : Int32) (xq2 : Int32) (xq3 : Int32) (σ : Sg) {r : Int32} (hf : f_X11_firstOnCircuit xq1 xq2 xq3 σ = some r) : Met l yX11_firstOnCircuit (.code yX11_firstOnCircuit cX11_firstOnCircuit 6 (some .int) :: TT) ({ frames := 11, cells := 0, slots := 0, locals := 276 } : Room) (zPc D cy 97 (celC ad cy) ad A [.ref (ad 0), .int xq1, .int xq2, .int xq3] σ) (zQi D 97 (celC ad cy) ad A r σ) 0 0 A := by
  refine zofW (by decide) hA (Nat.le_of_ble_eq_true rfl) ?_
  intro p e s m args below meth c ls E hw hr hlk hl
  have E : ZE p s m args c cX11_firstOnCircuit 6 "KiteSummons" D cy 97 ad A := E
  have hx := E.hx
  have hb := E.hb
  have hl : lv_has ls 6 [(0, .ref (ad 0)), (1, .int xq1), (2, .int xq2), (3, .int xq3)] := hl
  have hB3 : ∀ (xq1 : Int32) (xq2 : Int32) (xq3 : Int32) (kq3 : Int32 → Option Int32) (hkq3 : ∀ (xq4 : Int32) (H : Heap) (locs : List Loc) (ls : Array Slot), ZS D 97 (celC ad cy) ad A s σ H locs → lv_has ls 6 [(0, .ref (ad 0)), (1, .int xq1), (2, .int xq2), (3, .int xq3), (4, .int xq4)] → kq3 xq4 = some r → W p l e ({ frames := 11, cells := 0, slots := 0, locals := 276 } : Room) s m args below meth c H locs 0 0 (MQ below (zQi D 97 (celC ad cy) ad A r σ) args s 0 0 A) (F0 m 3 ls [])) (xq4 : Int32) (H : Heap) (locs : List Loc) (ls : Array Slot), ZS D 97 (celC ad cy) ad A s σ H locs → lv_has ls 6 [(0, .ref (ad 0)), (1, .int xq1), (2, .int xq2), (3, .int xq3), (4, .int xq4)] → f_X11_firstOnCircuit_b3 kq3 xq1 xq2 xq3 σ xq4 = some r → W p l e ({ frames := 11, cells := 0, slots := 0, locals := 276 } : Room) s m args below meth c H locs 0 0 (MQ below (zQi D 97 (celC ad cy) ad A r σ) args s 0 0 A) (F0 m 3 ls []) := by
    intro xq1 xq2 xq3 kq3 hkq3 xq4 H locs ls hw hl hf
    unfold f_X11_firstOnCircuit_b3 at hf
    refine lv_iload hx hb dX11_firstOnCircuit_3 (lv_at hl 4 rfl) ?_
    refine lv_aload_n hx hb dX11_firstOnCircuit_5 rfl (lv_at hl 0 rfl) ?_
    refine zget E hw (Nat.le_of_ble_eq_true rfl) (ceC_0 ad cy _) rfl inX11 2 (by decide) k2_123 (fun _ h => h) rfl dX11_firstOnCircuit_6 ?_
    refine zget E hw (Nat.le_of_ble_eq_true rfl) (ceC_24 ad cy _) rfl inX1 1 (by decide) k2_10 (fun _ h => h) rfl dX11_firstOnCircuit_9 ?_
    refine lv_icmp_ge (tgt := 72) hx hb dX11_firstOnCircuit_12 (by decide) (fun h => ?_) (fun h => ?_)
    · replace hf := it_t h hf
      refine lv_bipush (v := (-3)) hx hb dX11_firstOnCircuit_72 (by decide) ?_
      exact zreti E hw hr hlk (rt_1 hf) rfl dX11_firstOnCircuit_74
    · replace hf := it_f h hf
      refine lv_iload_n hx hb dX11_firstOnCircuit_15 rfl (lv_at hl 2 rfl) ?_
      refine lv_iload hx hb dX11_firstOnCircuit_16 (lv_at hl 4 rfl) ?_
      refine zcali hw (va_runS (As := [.int xq2, .int xq4]) (rest := []) E.fix (c_X11_isIn (l := l) hA xq2 xq4 σ rfl) (zcS E k2_197 k1_1 k2_195 k2_196 mf_X11_isIn rfl rfl ⟨Nat.le_of_ble_eq_true rfl, Nat.le_of_ble_eq_true rfl⟩) (zPre E hw _) rfl rfl hl.1 rfl (lv_room (Nat.le_of_ble_eq_true rfl)) dX11_firstOnCircuit_18 ⟨Nat.zero_le _, Nat.zero_le _⟩) (fun H locs hw => ?_)
      refine lv_if_eq (tgt := 66) hx hb dX11_firstOnCircuit_21 (by decide) (fun h => ?_) (fun h => ?_)
      · replace hf := it_f (b2i_0 h) hf
        refine lv_iinc (v := (xq4 + 1)) (lv' := [(4, .int (xq4 + 1)), (0, .ref (ad 0)), (1, .int xq1), (2, .int xq2), (3, .int xq3)]) hx hb dX11_firstOnCircuit_66 hl (k := 4) rfl (by rfl) (by decide) rfl (fun ls hl => ?_)
        refine lv_goto (tgt := 3) hx hb dX11_firstOnCircuit_69 (by decide) ?_
        exact hkq3 (xq4 + 1) _ _ _ hw (lv_sub hl [1, 2, 3, 4, 0] rfl) hf
      · replace hf := it_t (b2i_n h) hf
        refine lv_aload_n hx hb dX11_firstOnCircuit_24 rfl (lv_at hl 0 rfl) ?_
        refine zget E hw (Nat.le_of_ble_eq_true rfl) (ceC_0 ad cy _) rfl inX11 2 (by decide) k2_123 (fun _ h => h) rfl dX11_firstOnCircuit_25 ?_
        refine zget E hw (Nat.le_of_ble_eq_true rfl) (ceC_24 ad cy _) rfl inX1 15 (by decide) k2_36 (fun _ h => h) rfl dX11_firstOnCircuit_28 ?_
        refine zget E hw (Nat.le_of_ble_eq_true rfl) (ceC_41 ad cy _) rfl inX10 4 (by decide) k1_122 (fun _ h => h) rfl dX11_firstOnCircuit_31 ?_
        refine lv_iload hx hb dX11_firstOnCircuit_34 (lv_at hl 4 rfl) ?_
        obtain ⟨vq1, hvq1, hf⟩ := bd_e hf
        refine zaldr E hw (Nat.le_of_ble_eq_true rfl) (ceC_42 ad cy) hvq1 dX11_firstOnCircuit_36 ?_
        refine lv_istore (lv' := [(5, .int vq1), (0, .ref (ad 0)), (1, .int xq1), (2, .int xq2), (3, .int xq3), (4, .int xq4)]) hx hb dX11_firstOnCircuit_37 hl (by decide) rfl (fun ls hl => ?_)
        refine lv_iload_n hx hb dX11_firstOnCircuit_39 rfl (lv_at hl 2 rfl) ?_
        refine lv_iload hx hb dX11_firstOnCircuit_40 (lv_at hl 0 rfl) ?_
        refine zcali hw (va_runS (As := [.int xq1, .int vq1]) (rest := []) E.fix (c_X11_far (l := l) hA xq1 vq1 σ rfl) (zcS E k3_37 k1_1 k4_119 k3_36 mf_X11_far rfl rfl ⟨Nat.le_of_ble_eq_true rfl, Nat.le_of_ble_eq_true rfl⟩) (zPre E hw _) rfl rfl hl.1 rfl (lv_room (Nat.le_of_ble_eq_true rfl)) dX11_firstOnCircuit_42 ⟨Nat.zero_le _, Nat.zero_le _⟩) (fun H locs hw => ?_)
        refine lv_aload_n hx hb dX11_firstOnCircuit_45 rfl (lv_at hl 1 rfl) ?_
        refine lv_iload hx hb dX11_firstOnCircuit_46 (lv_at hl 0 rfl) ?_
        refine lv_iload_n hx hb dX11_firstOnCircuit_48 rfl (lv_at hl 3 rfl) ?_
        refine lv_iload hx hb dX11_firstOnCircuit_49 (lv_at hl 5 rfl) ?_
        refine lv_iconst (v := 0) hx hb dX11_firstOnCircuit_51 (by decide) ?_
        refine zcali hw (va_runS (As := [.int xq2, .int xq4, .int 0]) (rest := [.int vq1, .ref (ad 0), .int (f_X11_far xq1 vq1 σ)]) E.fix (c_X11_withBit (l := l) hA xq2 xq4 0 σ rfl) (zcS E k2_186 k1_1 k3_69 k2_185 mf_X11_withBit rfl rfl ⟨Nat.le_of_ble_eq_true rfl, Nat.le_of_ble_eq_true rfl⟩) (zPre E hw _) rfl rfl hl.1 rfl (lv_room (Nat.le_of_ble_eq_true rfl)) dX11_firstOnCircuit_52 ⟨Nat.zero_le _, Nat.zero_le _⟩) (fun H locs hw => ?_)
        obtain ⟨vq2, hc, hf⟩ := bd_e hf
        refine zcali hw (va_runV (As := [.int vq1, .int (f_X11_withBit xq2 xq4 0 σ)]) (rest := [.int (f_X11_far xq1 vq1 σ)]) E.fix (c_X11_fewestSteps (l := l) hA 8 vq1 (f_X11_withBit xq2 xq4 0 σ) σ hc) (zcV E k4_118 k1_1 k4_115 k4_117 kp2_10 mf_X11_fewestSteps rfl rfl ⟨Nat.le_of_ble_eq_true rfl, Nat.le_of_ble_eq_true rfl⟩) (zPreV E hw (Nat.le_of_ble_eq_true rfl) (ceC_0 ad cy _) rfl _) rfl rfl hl.1 rfl (lv_room (Nat.le_of_ble_eq_true rfl)) dX11_firstOnCircuit_55 ⟨Nat.zero_le _, Nat.zero_le _⟩) (fun H locs hw => ?_)
        refine lv_iadd hx hb dX11_firstOnCircuit_58 ?_
        refine lv_iload_n hx hb dX11_firstOnCircuit_59 rfl (lv_at hl 4 rfl) ?_
        refine lv_icmp_ne (tgt := 66) hx hb dX11_firstOnCircuit_60 (by decide) (fun h => ?_) (fun h => ?_)
        · replace hf := it_t h hf
          refine lv_iinc (v := (xq4 + 1)) (lv' := [(4, .int (xq4 + 1)), (5, .int vq1), (0, .ref (ad 0)), (1, .int xq1), (2, .int xq2), (3, .int xq3)]) hx hb dX11_firstOnCircuit_66 hl (k := 5) rfl (by rfl) (by decide) rfl (fun ls hl => ?_)
          refine lv_goto (tgt := 3) hx hb dX11_firstOnCircuit_69 (by decide) ?_
          exact hkq3 (xq4 + 1) _ _ _ hw (lv_sub hl [2, 3, 4, 5, 0] rfl) hf
        · replace hf := it_n h hf
          refine lv_iload hx hb dX11_firstOnCircuit_63 (lv_at hl 5 rfl) ?_
          exact zreti E hw hr hlk (rt_1 hf) rfl dX11_firstOnCircuit_65
  have hL3 : ∀ (xq1 : Int32) (xq2 : Int32) (xq3 : Int32) (n : Nat) (xq4 : Int32) (H : Heap) (locs : List Loc) (ls : Array Slot), ZS D 97 (celC ad cy) ad A s σ H locs → lv_has ls 6 [(0, .ref (ad 0)), (1, .int xq1), (2, .int xq2), (3, .int xq3), (4, .int xq4)] → f_X11_firstOnCircuit_l3 xq1 xq2 xq3 σ n xq4 = some r → W p l e ({ frames := 11, cells := 0, slots := 0, locals := 276 } : Room) s m args below meth c H locs 0 0 (MQ below (zQi D 97 (celC ad cy) ad A r σ) args s 0 0 A) (F0 m 3 ls []) := by
    intro xq1 xq2 xq3 n
    induction n with
    | zero =>
      intro xq4 H locs ls hw hl hf
      exact nn_e hf
    | succ n ih =>
      intro xq4 H locs ls hw hl hf
      exact hB3 xq1 xq2 xq3 (f_X11_firstOnCircuit_l3 xq1 xq2 xq3 σ n) ih xq4 H locs ls hw hl hf
  unfold f_X11_firstOnCircuit at hf
  refine lv_iconst (v := 0) hx hb dX11_firstOnCircuit_0 (by decide) ?_
  refine lv_istore (lv' := [(4, .int 0), (0, .ref (ad 0)), (1, .int xq1), (2, .int xq2), (3, .int xq3)]) hx hb dX11_firstOnCircuit_1 hl (by decide) rfl (fun ls hl => ?_)
  exact hL3 xq1 xq2 xq3 400 0 _ _ _ hw (lv_sub hl [1, 2, 3, 4, 0] rfl) hf
set_option maxRecDepth 100000 in
set_option maxHeartbeats 4000000 in
theorem c_X11_circuit {l : Launch} {D : va_G} {cy : Cy} {ad : Nat → Nat} {A : Nat → Prop} (hA : okAd 97 ad A) (xq1 : Int32) (xq2 : Int32) (σ : Sg) {r : Int32} (hf : f_X11_circuit xq1 xq2 σ = some r) : Met l yX11_circuit (.code yX11_circuit cX11_circuit 5 (some .int) :: TT) ({ frames := 12, cells := 0, slots := 0, locals := 301 } : Room) (zPc D cy 97 (celC ad cy) ad A [.ref (ad 0), .int xq1, .int xq2] σ) (zQi D 97 (celC ad cy) ad A r σ) 0 0 A := by
  refine zofW (by decide) hA (Nat.le_of_ble_eq_true rfl) ?_
  intro p e s m args below meth c ls E hw hr hlk hl
  have E : ZE p s m args c cX11_circuit 5 "KiteSummons" D cy 97 ad A := E
  have hx := E.hx
  have hb := E.hb
  have hl : lv_has ls 5 [(0, .ref (ad 0)), (1, .int xq1), (2, .int xq2)] := hl
  unfold f_X11_circuit at hf
  refine lv_iload_n hx hb dX11_circuit_0 rfl (lv_at hl 1 rfl) ?_
  refine lv_iconst (v := 0) hx hb dX11_circuit_1 (by decide) ?_
  refine lv_bipush (v := 63) hx hb dX11_circuit_2 (by decide) ?_
  refine zcali hw (va_runS (As := [.int xq1, .int 0, .int 63]) (rest := []) E.fix (c_X11_within (l := l) hA xq1 0 63 σ rfl) (zcS E k2_179 k1_1 k2_177 k2_178 mf_X11_within rfl rfl ⟨Nat.le_of_ble_eq_true rfl, Nat.le_of_ble_eq_true rfl⟩) (zPre E hw _) rfl rfl hl.1 rfl (lv_room (Nat.le_of_ble_eq_true rfl)) dX11_circuit_4 ⟨Nat.zero_le _, Nat.zero_le _⟩) (fun H locs hw => ?_)
  refine lv_if_eq (tgt := 19) hx hb dX11_circuit_7 (by decide) (fun h => ?_) (fun h => ?_)
  · replace hf := it_f (b2i_0 h) hf
    refine lv_iconst (v := (-1)) hx hb dX11_circuit_19 (by decide) ?_
    exact zreti E hw hr hlk (rt_1 hf) rfl dX11_circuit_20
  · replace hf := it_t (b2i_n h) hf
    refine lv_iload_n hx hb dX11_circuit_10 rfl (lv_at hl 2 rfl) ?_
    refine lv_iconst (v := 0) hx hb dX11_circuit_11 (by decide) ?_
    refine lv_iconst (v := 1) hx hb dX11_circuit_12 (by decide) ?_
    refine zcali hw (va_runS (As := [.int xq2, .int 0, .int 1]) (rest := []) E.fix (c_X11_within (l := l) hA xq2 0 1 σ rfl) (zcS E k2_179 k1_1 k2_177 k2_178 mf_X11_within rfl rfl ⟨Nat.le_of_ble_eq_true rfl, Nat.le_of_ble_eq_true rfl⟩) (zPre E hw _) rfl rfl hl.1 rfl (lv_room (Nat.le_of_ble_eq_true rfl)) dX11_circuit_13 ⟨Nat.zero_le _, Nat.zero_le _⟩) (fun H locs hw => ?_)
    refine lv_if_ne (tgt := 21) hx hb dX11_circuit_16 (by decide) (fun h => ?_) (fun h => ?_)
    · replace hf := it_t (b2i_n h) hf
      refine lv_aload_n hx hb dX11_circuit_21 rfl (lv_at hl 0 rfl) ?_
      refine zget E hw (Nat.le_of_ble_eq_true rfl) (ceC_0 ad cy _) rfl inX11 2 (by decide) k2_123 (fun _ h => h) rfl dX11_circuit_22 ?_
      refine zcali hw (va_runV (As := []) (rest := []) E.fix (c_X1_allKites (l := l) hA σ rfl) (zcV E k3_98 k1_11 k3_95 k3_96 k3_97 mf_X1_allKites rfl rfl ⟨Nat.le_of_ble_eq_true rfl, Nat.le_of_ble_eq_true rfl⟩) (zPreV E hw (Nat.le_of_ble_eq_true rfl) (ceC_24 ad cy _) rfl _) rfl rfl hl.1 rfl (lv_room (Nat.le_of_ble_eq_true rfl)) dX11_circuit_25 ⟨Nat.zero_le _, Nat.zero_le _⟩) (fun H locs hw => ?_)
      refine lv_aload_n hx hb dX11_circuit_28 rfl (lv_at hl 0 rfl) ?_
      refine zget E hw (Nat.le_of_ble_eq_true rfl) (ceC_0 ad cy _) rfl inX11 2 (by decide) k2_123 (fun _ h => h) rfl dX11_circuit_29 ?_
      refine zget E hw (Nat.le_of_ble_eq_true rfl) (ceC_24 ad cy _) rfl inX1 15 (by decide) k2_36 (fun _ h => h) rfl dX11_circuit_32 ?_
      refine zget E hw (Nat.le_of_ble_eq_true rfl) (ceC_41 ad cy _) rfl inX10 2 (by decide) k1_115 (fun _ h => h) rfl dX11_circuit_35 ?_
      refine lv_iconst (v := (-1)) hx hb dX11_circuit_38 (by decide) ?_
      refine lv_ixor hx hb dX11_circuit_39 ?_
      refine lv_iand hx hb dX11_circuit_40 ?_
      refine lv_topi (fun vq1 evq1 => ?_)
      replace hf := lt_i evq1 hf
      refine lv_istore_n (lv' := [(3, .int vq1), (0, .ref (ad 0)), (1, .int xq1), (2, .int xq2)]) hx hb dX11_circuit_41 rfl hl (by decide) rfl (fun ls hl => ?_)
      refine lv_aload_n hx hb dX11_circuit_42 rfl (lv_at hl 1 rfl) ?_
      refine lv_iload_n hx hb dX11_circuit_43 rfl (lv_at hl 2 rfl) ?_
      refine lv_iload_n hx hb dX11_circuit_44 rfl (lv_at hl 0 rfl) ?_
      obtain ⟨vq2, hc, hf⟩ := bd_e hf
      refine zcali hw (va_runV (As := [.int xq1, .int vq1]) (rest := []) E.fix (c_X11_fewestSteps (l := l) hA 8 xq1 vq1 σ hc) (zcV E k4_118 k1_1 k4_115 k4_117 kp2_10 mf_X11_fewestSteps rfl rfl ⟨Nat.le_of_ble_eq_true rfl, Nat.le_of_ble_eq_true rfl⟩) (zPreV E hw (Nat.le_of_ble_eq_true rfl) (ceC_0 ad cy _) rfl _) rfl rfl hl.1 rfl (lv_room (Nat.le_of_ble_eq_true rfl)) dX11_circuit_45 ⟨Nat.zero_le _, Nat.zero_le _⟩) (fun H locs hw => ?_)
      refine lv_istore (lv' := [(4, .int vq2), (3, .int vq1), (0, .ref (ad 0)), (1, .int xq1), (2, .int xq2)]) hx hb dX11_circuit_48 hl (by decide) rfl (fun ls hl => ?_)
      refine lv_iload_n hx hb dX11_circuit_50 rfl (lv_at hl 4 rfl) ?_
      refine lv_if_ne (tgt := 59) hx hb dX11_circuit_51 (by decide) (fun h => ?_) (fun h => ?_)
      · replace hf := it_t h hf
        refine lv_aload_n hx hb dX11_circuit_59 rfl (lv_at hl 2 rfl) ?_
        refine lv_iload_n hx hb dX11_circuit_60 rfl (lv_at hl 3 rfl) ?_
        refine lv_iload_n hx hb dX11_circuit_61 rfl (lv_at hl 1 rfl) ?_
        refine lv_iload hx hb dX11_circuit_62 (lv_at hl 0 rfl) ?_
        obtain ⟨vq3, hc, hf⟩ := bd_e hf
        refine zcali hw (va_runV (As := [.int xq1, .int vq1, .int vq2]) (rest := []) E.fix (c_X11_firstOnCircuit (l := l) hA xq1 vq1 vq2 σ hc) (zcV E k4_123 k1_1 k4_120 k4_122 kp2_11 mf_X11_firstOnCircuit rfl rfl ⟨Nat.le_of_ble_eq_true rfl, Nat.le_of_ble_eq_true rfl⟩) (zPreV E hw (Nat.le_of_ble_eq_true rfl) (ceC_0 ad cy _) rfl _) rfl rfl hl.1 rfl (lv_room (Nat.le_of_ble_eq_true rfl)) dX11_circuit_64 ⟨Nat.zero_le _, Nat.zero_le _⟩) (fun H locs hw => ?_)
        exact zreti E hw hr hlk (rt_1 hf) rfl dX11_circuit_67
      · replace hf := it_n h hf
        refine lv_iload hx hb dX11_circuit_54 (lv_at hl 0 rfl) ?_
        refine lv_goto (tgt := 67) hx hb dX11_circuit_56 (by decide) ?_
        exact zreti E hw hr hlk (rt_1 hf) rfl dX11_circuit_67
    · replace hf := it_f (b2i_0 h) hf
      refine lv_iconst (v := (-1)) hx hb dX11_circuit_19 (by decide) ?_
      exact zreti E hw hr hlk (rt_1 hf) rfl dX11_circuit_20
set_option maxRecDepth 100000 in
set_option maxHeartbeats 4000000 in
theorem c_X11_isPlanLength {l : Launch} {D : va_G} {cy : Cy} {ad : Nat → Nat} {A : Nat → Prop} (hA : okAd 97 ad A) (xq0 : Int32) (σ : Sg) {r : Bool} (hf : f_X11_isPlanLength xq0 σ = r) : Met l yX11_isPlanLength (.code yX11_isPlanLength cX11_isPlanLength 1 (some .boolean) :: TT) ({ frames := 1, cells := 0, slots := 0, locals := 22 } : Room) (zPc D cy 97 (celC ad cy) ad A [.int xq0] σ) (zQi D 97 (celC ad cy) ad A (b2i r) σ) 0 0 A := by
  refine zofW (by decide) hA (Nat.le_of_ble_eq_true rfl) ?_
  intro p e s m args below meth c ls E hw hr hlk hl
  have E : ZE p s m args c cX11_isPlanLength 1 "KiteSummons" D cy 97 ad A := E
  have hx := E.hx
  have hb := E.hb
  have hl : lv_has ls 1 [(0, .int xq0)] := hl
  unfold f_X11_isPlanLength at hf
  refine lv_iload_n hx hb dX11_isPlanLength_0 rfl (lv_at hl 0 rfl) ?_
  refine lv_iconst (v := 0) hx hb dX11_isPlanLength_1 (by decide) ?_
  refine lv_iconst (v := 4) hx hb dX11_isPlanLength_2 (by decide) ?_
  refine zcali hw (va_runS (As := [.int xq0, .int 0, .int 4]) (rest := []) E.fix (c_X11_within (l := l) hA xq0 0 4 σ rfl) (zcS E k2_179 k1_1 k2_177 k2_178 mf_X11_within rfl rfl ⟨Nat.le_of_ble_eq_true rfl, Nat.le_of_ble_eq_true rfl⟩) (zPre E hw _) rfl rfl hl.1 rfl (lv_room (Nat.le_of_ble_eq_true rfl)) dX11_isPlanLength_3 ⟨Nat.zero_le _, Nat.zero_le _⟩) (fun H locs hw => ?_)
  exact zretz E hw hr hlk (b_e hf (by rfl)) rfl dX11_isPlanLength_6
set_option maxRecDepth 100000 in
set_option maxHeartbeats 4000000 in
theorem c_X6_weigh {l : Launch} {D : va_G} {cy : Cy} {ad : Nat → Nat} {A : Nat → Prop} (hA : okAd 97 ad A) (xq1 : Int32) (xq2 : Int32) (xq3 : Int32) (σ : Sg) {σ9 : Sg} (hf : f_X6_weigh xq1 xq2 xq3 σ = some σ9) : Met l yX6_weigh (.code yX6_weigh cX6_weigh 5 none :: TT) ({ frames := 1, cells := 0, slots := 0, locals := 40 } : Room) (zPc D cy 97 (celC ad cy) ad A [.ref (ad 78), .int xq1, .int xq2, .int xq3] σ) (zQv D 97 (celC ad cy) ad A σ9) 0 0 A := by
  refine zofW (by decide) hA (Nat.le_of_ble_eq_true rfl) ?_
  intro p e s m args below meth c ls E hw hr hlk hl
  have E : ZE p s m args c cX6_weigh 5 "KiteSummons$Plans" D cy 97 ad A := E
  have hx := E.hx
  have hb := E.hb
  have hl : lv_has ls 5 [(0, .ref (ad 78)), (1, .int xq1), (2, .int xq2), (3, .int xq3)] := hl
  have hB58 : ∀ (xq1 : Int32) (xq2 : Int32) (σ : Sg) (H : Heap) (locs : List Loc) (ls : Array Slot), ZS D 97 (celC ad cy) ad A s σ H locs → lv_has ls 5 [(0, .ref (ad 78)), (1, .int xq1), (2, .int xq2)] → f_X6_weigh_b58 xq1 xq2 σ = some σ9 → W p l e ({ frames := 1, cells := 0, slots := 0, locals := 40 } : Room) s m args below meth c H locs 0 0 (MQ below (zQv D 97 (celC ad cy) ad A σ9) args s 0 0 A) (F0 m 58 ls []) := by
    intro xq1 xq2 σ H locs ls hw hl hf
    unfold f_X6_weigh_b58 at hf
    refine lv_iload_n hx hb dX6_weigh_58 rfl (lv_at hl 2 rfl) ?_
    refine lv_aload_n hx hb dX6_weigh_59 rfl (lv_at hl 0 rfl) ?_
    refine zget E hw (Nat.le_of_ble_eq_true rfl) (ceC_78 ad cy _) rfl inX6 5 (by decide) k2_86 (fun _ h => h) rfl dX6_weigh_60 ?_
    refine lv_icmp_ne (tgt := 79) hx hb dX6_weigh_63 (by decide) (fun h => ?_) (fun h => ?_)
    · replace hf := it_t h hf
      refine lv_iload_n hx hb dX6_weigh_79 rfl (lv_at hl 2 rfl) ?_
      refine lv_aload_n hx hb dX6_weigh_80 rfl (lv_at hl 0 rfl) ?_
      refine zget E hw (Nat.le_of_ble_eq_true rfl) (ceC_78 ad cy _) rfl inX6 5 (by decide) k2_86 (fun _ h => h) rfl dX6_weigh_81 ?_
      refine lv_icmp_le (tgt := 116) hx hb dX6_weigh_84 (by decide) (fun h => ?_) (fun h => ?_)
      · replace hf := it_t h hf
        exact zretv E hw hr hlk (rt_1 hf) dX6_weigh_116
      · replace hf := it_f h hf
        refine lv_aload_n hx hb dX6_weigh_87 rfl (lv_at hl 0 rfl) ?_
        refine lv_iload_n hx hb dX6_weigh_88 rfl (lv_at hl 2 rfl) ?_
        refine zputs E hw (Nat.le_of_ble_eq_true rfl) (ceC_78 ad cy _) rfl inX6 tyX6 tyX6_ok nmX6 5 (by decide) k2_86 (fun _ h => h) rfl rfl rfl (Nat.le_of_ble_eq_true rfl) (j := 5) (Eq.trans (ceC_78 ad cy _) (by rfl)) dX6_weigh_89 (fun σ6 eσ6 H locs hw => ?_)
        replace hf := lt_i eσ6 hf
        refine lv_aload_n hx hb dX6_weigh_92 rfl (lv_at hl 0 rfl) ?_
        refine lv_iconst (v := 1) hx hb dX6_weigh_93 (by decide) ?_
        refine zputs E hw (Nat.le_of_ble_eq_true rfl) (ceC_78 ad cy _) rfl inX6 tyX6 tyX6_ok nmX6 6 (by decide) k2_88 (fun _ h => h) rfl rfl rfl (Nat.le_of_ble_eq_true rfl) (j := 6) (Eq.trans (ceC_78 ad cy _) (by rfl)) dX6_weigh_94 (fun σ7 eσ7 H locs hw => ?_)
        replace hf := lt_i eσ7 hf
        refine lv_aload_n hx hb dX6_weigh_97 rfl (lv_at hl 0 rfl) ?_
        refine lv_iload_n hx hb dX6_weigh_98 rfl (lv_at hl 1 rfl) ?_
        refine zputs E hw (Nat.le_of_ble_eq_true rfl) (ceC_78 ad cy _) rfl inX6 tyX6 tyX6_ok nmX6 4 (by decide) k2_84 (fun _ h => h) rfl rfl rfl (Nat.le_of_ble_eq_true rfl) (j := 4) (Eq.trans (ceC_78 ad cy _) (by rfl)) dX6_weigh_99 (fun σ8 eσ8 H locs hw => ?_)
        replace hf := lt_i eσ8 hf
        refine lv_aload_n hx hb dX6_weigh_102 rfl (lv_at hl 0 rfl) ?_
        refine zget E hw (Nat.le_of_ble_eq_true rfl) (ceC_78 ad cy _) rfl inX6 2 (by decide) k2_81 (fun _ h => h) rfl dX6_weigh_103 ?_
        refine lv_iconst (v := 0) hx hb dX6_weigh_106 (by decide) ?_
        refine lv_aload_n hx hb dX6_weigh_107 rfl (lv_at hl 0 rfl) ?_
        refine zget E hw (Nat.le_of_ble_eq_true rfl) (ceC_78 ad cy _) rfl inX6 3 (by decide) k2_82 (fun _ h => h) rfl dX6_weigh_108 ?_
        refine lv_iconst (v := 0) hx hb dX6_weigh_111 (by decide) ?_
        refine lv_iconst (v := 4) hx hb dX6_weigh_112 (by decide) ?_
        refine zcopy E hw hl.1 (E.ht _ k4_145) (E.ht _ k4_22) (E.ht _ k4_21) (E.ht _ k1_20) (Nat.le_of_ble_eq_true rfl) (ceC_80 ad cy) (Nat.le_of_ble_eq_true rfl) (ceC_81 ad cy) 4 ⟨by rfl, by decide⟩ (Nat.le_of_ble_eq_true rfl) (Nat.le_of_ble_eq_true rfl) (Nat.le_of_ble_eq_true rfl) (Nat.le_of_ble_eq_true rfl) dX6_weigh_113 (fun σ9 eσ9 H locs hw => ?_)
        replace hf := lt_i eσ9 hf
        exact zretv E hw hr hlk (rt_1 hf) dX6_weigh_116
    · replace hf := it_n h hf
      refine lv_aload_n hx hb dX6_weigh_66 rfl (lv_at hl 0 rfl) ?_
      refine lv_dup hx hb dX6_weigh_67 rfl ?_
      refine zget E hw (Nat.le_of_ble_eq_true rfl) (ceC_78 ad cy _) rfl inX6 6 (by decide) k2_88 (fun _ h => h) rfl dX6_weigh_68 ?_
      refine lv_iconst (v := 1) hx hb dX6_weigh_71 (by decide) ?_
      refine lv_iadd hx hb dX6_weigh_72 ?_
      refine zputs E hw (Nat.le_of_ble_eq_true rfl) (ceC_78 ad cy _) rfl inX6 tyX6 tyX6_ok nmX6 6 (by decide) k2_88 (fun _ h => h) rfl rfl rfl (Nat.le_of_ble_eq_true rfl) (j := 6) (Eq.trans (ceC_78 ad cy _) (by rfl)) dX6_weigh_73 (fun σ10 eσ10 H locs hw => ?_)
      replace hf := lt_i eσ10 hf
      refine lv_goto (tgt := 116) hx hb dX6_weigh_76 (by decide) ?_
      exact zretv E hw hr hlk (rt_1 hf) dX6_weigh_116
  unfold f_X6_weigh at hf
  refine lv_aload_n hx hb dX6_weigh_0 rfl (lv_at hl 0 rfl) ?_
  refine zget E hw (Nat.le_of_ble_eq_true rfl) (ceC_78 ad cy _) rfl inX6 1 (by decide) k2_80 (fun _ h => h) rfl dX6_weigh_1 ?_
  refine lv_iload_n hx hb dX6_weigh_4 rfl (lv_at hl 1 rfl) ?_
  obtain ⟨hiq1, hf⟩ := gd_e hf
  refine zaldq E hw (Nat.le_of_ble_eq_true rfl) 4 rfl rfl (ceC_79 ad cy _) hiq1 dX6_weigh_5 ?_
  refine zget E hw (ltSky (skyOf (nlt hiq1))) (ceSky ad cy _ (skyOf (nlt hiq1))) rfl inX10 3 (by decide) k1_119 (fun _ h => h) rfl dX6_weigh_6 ?_
  refine lv_topi (fun vq2 evq2 => ?_)
  replace hf := lt_i evq2 hf
  refine lv_istore (lv' := [(4, .int vq2), (0, .ref (ad 78)), (1, .int xq1), (2, .int xq2), (3, .int xq3)]) hx hb dX6_weigh_9 hl (by decide) rfl (fun ls hl => ?_)
  refine lv_aload_n hx hb dX6_weigh_11 rfl (lv_at hl 1 rfl) ?_
  refine lv_dup hx hb dX6_weigh_12 rfl ?_
  refine zget E hw (Nat.le_of_ble_eq_true rfl) (ceC_78 ad cy _) rfl inX6 9 (by decide) k2_93 (fun _ h => h) rfl dX6_weigh_13 ?_
  refine lv_iload hx hb dX6_weigh_16 (lv_at hl 0 rfl) ?_
  refine lv_ior hx hb dX6_weigh_18 ?_
  refine zputs E hw (Nat.le_of_ble_eq_true rfl) (ceC_78 ad cy _) rfl inX6 tyX6 tyX6_ok nmX6 9 (by decide) k2_93 (fun _ h => h) rfl rfl rfl (Nat.le_of_ble_eq_true rfl) (j := 9) (Eq.trans (ceC_78 ad cy _) (by rfl)) dX6_weigh_19 (fun σ3 eσ3 H locs hw => ?_)
  replace hf := lt_i eσ3 hf
  refine lv_iload hx hb dX6_weigh_22 (lv_at hl 0 rfl) ?_
  refine lv_aload_n hx hb dX6_weigh_24 rfl (lv_at hl 1 rfl) ?_
  refine zget E hw (Nat.le_of_ble_eq_true rfl) (ceC_78 ad cy _) rfl inX6 8 (by decide) k2_92 (fun _ h => h) rfl dX6_weigh_25 ?_
  refine lv_iand hx hb dX6_weigh_28 ?_
  refine lv_aload_n hx hb dX6_weigh_29 rfl (lv_at hl 1 rfl) ?_
  refine zget E hw (Nat.le_of_ble_eq_true rfl) (ceC_78 ad cy _) rfl inX6 8 (by decide) k2_92 (fun _ h => h) rfl dX6_weigh_30 ?_
  refine lv_icmp_ne (tgt := 58) hx hb dX6_weigh_33 (by decide) (fun h => ?_) (fun h => ?_)
  · replace hf := it_t h hf
    exact hB58 xq1 xq2 σ3 _ _ _ hw (lv_sub hl [1, 2, 3] rfl) hf
  · replace hf := it_n h hf
    refine lv_aload_n hx hb dX6_weigh_36 rfl (lv_at hl 1 rfl) ?_
    refine zget E hw (Nat.le_of_ble_eq_true rfl) (ceC_78 ad cy _) rfl inX6 7 (by decide) k2_90 (fun _ h => h) rfl dX6_weigh_37 ?_
    refine lv_bipush (v := (-3)) hx hb dX6_weigh_40 (by decide) ?_
    refine lv_icmp_eq (tgt := 53) hx hb dX6_weigh_42 (by decide) (fun h => ?_) (fun h => ?_)
    · replace hf := it_t h hf
      refine lv_aload_n hx hb dX6_weigh_53 rfl (lv_at hl 1 rfl) ?_
      refine lv_iload_n hx hb dX6_weigh_54 rfl (lv_at hl 4 rfl) ?_
      refine zputs E hw (Nat.le_of_ble_eq_true rfl) (ceC_78 ad cy _) rfl inX6 tyX6 tyX6_ok nmX6 7 (by decide) k2_90 (fun _ h => h) rfl rfl rfl (Nat.le_of_ble_eq_true rfl) (j := 7) (Eq.trans (ceC_78 ad cy _) (by rfl)) dX6_weigh_55 (fun σ4 eσ4 H locs hw => ?_)
      replace hf := lt_i eσ4 hf
      exact hB58 xq1 xq2 σ4 _ _ _ hw (lv_sub hl [1, 2, 3] rfl) hf
    · replace hf := it_f h hf
      refine lv_iload_n hx hb dX6_weigh_45 rfl (lv_at hl 4 rfl) ?_
      refine lv_aload_n hx hb dX6_weigh_46 rfl (lv_at hl 1 rfl) ?_
      refine zget E hw (Nat.le_of_ble_eq_true rfl) (ceC_78 ad cy _) rfl inX6 7 (by decide) k2_90 (fun _ h => h) rfl dX6_weigh_47 ?_
      refine lv_icmp_ge (tgt := 58) hx hb dX6_weigh_50 (by decide) (fun h => ?_) (fun h => ?_)
      · replace hf := it_t h hf
        exact hB58 xq1 xq2 σ3 _ _ _ hw (lv_sub hl [1, 2, 3] rfl) hf
      · replace hf := it_f h hf
        refine lv_aload_n hx hb dX6_weigh_53 rfl (lv_at hl 1 rfl) ?_
        refine lv_iload_n hx hb dX6_weigh_54 rfl (lv_at hl 4 rfl) ?_
        refine zputs E hw (Nat.le_of_ble_eq_true rfl) (ceC_78 ad cy _) rfl inX6 tyX6 tyX6_ok nmX6 7 (by decide) k2_90 (fun _ h => h) rfl rfl rfl (Nat.le_of_ble_eq_true rfl) (j := 7) (Eq.trans (ceC_78 ad cy _) (by rfl)) dX6_weigh_55 (fun σ5 eσ5 H locs hw => ?_)
        replace hf := lt_i eσ5 hf
        exact hB58 xq1 xq2 σ5 _ _ _ hw (lv_sub hl [1, 2, 3] rfl) hf
