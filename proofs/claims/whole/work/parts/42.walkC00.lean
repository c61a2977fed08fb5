set_option maxRecDepth 100000 in
set_option maxHeartbeats 4000000 in
theorem c_X11_within {l : Launch} {D : va_G} {cy : Cy} {ad : Nat → Nat} {A : Nat → Prop} (hA : okAd 97 ad A) (xq0 : Int32) (xq1 : Int32) (xq2 : Int32) (σ : Sg) {r : Bool} (hf : f_X11_within xq0 xq1 xq2 σ = r) : Met l yX11_within (.code yX11_within cX11_within 3 (some .boolean) :: TT) ({ frames := 0, cells := 0, slots := 0, locals := 0 } : Room) (zPc D cy 97 (celC ad cy) ad A [.int xq0, .int xq1, .int xq2] σ) (zQi D 97 (celC ad cy) ad A (b2i r) σ) 0 0 A := by
  refine zofW (by decide) hA (Nat.le_of_ble_eq_true rfl) ?_
  intro p e s m args below meth c ls E hw hr hlk hl
  have E : ZE p s m args c cX11_within 3 "KiteSummons" D cy 97 ad A := E
  have hx := E.hx
  have hb := E.hb
  have hl : lv_has ls 3 [(0, .int xq0), (1, .int xq1), (2, .int xq2)] := hl
  unfold f_X11_within at hf
  refine lv_iload_n hx hb dX11_within_0 rfl (lv_at hl 0 rfl) ?_
  refine lv_iload_n hx hb dX11_within_1 rfl (lv_at hl 1 rfl) ?_
  refine lv_icmp_lt (tgt := 14) hx hb dX11_within_2 (by decide) (fun h => ?_) (fun h => ?_)
  · replace hf := it_t h hf
    refine lv_iconst (v := 0) hx hb dX11_within_14 (by decide) ?_
    exact zretz E hw hr hlk (b_e hf (by rfl)) rfl dX11_within_15
  · replace hf := it_f h hf
    refine lv_iload_n hx hb dX11_within_5 rfl (lv_at hl 0 rfl) ?_
    refine lv_iload_n hx hb dX11_within_6 rfl (lv_at hl 2 rfl) ?_
    refine lv_icmp_gt (tgt := 14) hx hb dX11_within_7 (by decide) (fun h => ?_) (fun h => ?_)
    · replace hf := it_t h hf
      refine lv_iconst (v := 0) hx hb dX11_within_14 (by decide) ?_
      exact zretz E hw hr hlk (b_e hf (by rfl)) rfl dX11_within_15
    · replace hf := it_f h hf
      refine lv_iconst (v := 1) hx hb dX11_within_10 (by decide) ?_
      refine lv_goto (tgt := 15) hx hb dX11_within_11 (by decide) ?_
      exact zretz E hw hr hlk (b_e hf (by rfl)) rfl dX11_within_15
set_option maxRecDepth 100000 in
set_option maxHeartbeats 4000000 in
theorem c_X11_withBit {l : Launch} {D : va_G} {cy : Cy} {ad : Nat → Nat} {A : Nat → Prop} (hA : okAd 97 ad A) (xq0 : Int32) (xq1 : Int32) (xq2 : Int32) (σ : Sg) {r : Int32} (hf : f_X11_withBit xq0 xq1 xq2 σ = r) : Met l yX11_withBit (.code yX11_withBit cX11_withBit 3 (some .int) :: TT) ({ frames := 0, cells := 0, slots := 0, locals := 0 } : Room) (zPc D cy 97 (celC ad cy) ad A [.int xq0, .int xq1, .int xq2] σ) (zQi D 97 (celC ad cy) ad A r σ) 0 0 A := by
  refine zofW (by decide) hA (Nat.le_of_ble_eq_true rfl) ?_
  intro p e s m args below meth c ls E hw hr hlk hl
  have E : ZE p s m args c cX11_withBit 3 "KiteSummons" D cy 97 ad A := E
  have hx := E.hx
  have hb := E.hb
  have hl : lv_has ls 3 [(0, .int xq0), (1, .int xq1), (2, .int xq2)] := hl
  unfold f_X11_withBit at hf
  refine lv_iload_n hx hb dX11_withBit_0 rfl (lv_at hl 2 rfl) ?_
  refine lv_iconst (v := 1) hx hb dX11_withBit_1 (by decide) ?_
  refine lv_icmp_ne (tgt := 13) hx hb dX11_withBit_2 (by decide) (fun h => ?_) (fun h => ?_)
  · replace hf := it_t h hf
    refine lv_iload_n hx hb dX11_withBit_13 rfl (lv_at hl 0 rfl) ?_
    refine lv_iconst (v := 1) hx hb dX11_withBit_14 (by decide) ?_
    refine lv_iload_n hx hb dX11_withBit_15 rfl (lv_at hl 1 rfl) ?_
    refine zishl hx hb dX11_withBit_16 ?_
    refine lv_iconst (v := (-1)) hx hb dX11_withBit_17 (by decide) ?_
    refine lv_ixor hx hb dX11_withBit_18 ?_
    refine lv_iand hx hb dX11_withBit_19 ?_
    exact zreti E hw hr hlk hf rfl dX11_withBit_20
  · replace hf := it_n h hf
    refine lv_iload_n hx hb dX11_withBit_5 rfl (lv_at hl 0 rfl) ?_
    refine lv_iconst (v := 1) hx hb dX11_withBit_6 (by decide) ?_
    refine lv_iload_n hx hb dX11_withBit_7 rfl (lv_at hl 1 rfl) ?_
    refine zishl hx hb dX11_withBit_8 ?_
    refine lv_ior hx hb dX11_withBit_9 ?_
    refine lv_goto (tgt := 20) hx hb dX11_withBit_10 (by decide) ?_
    exact zreti E hw hr hlk hf rfl dX11_withBit_20
set_option maxRecDepth 100000 in
set_option maxHeartbeats 4000000 in
theorem c_X1_addKite {l : Launch} {D : va_G} {cy : Cy} {ad : Nat → Nat} {A : Nat → Prop} (hA : okAd 97 ad A) (xq1 : Int32) (xq2 : Int32) (xq3 : Int32) (xq4 : Int32) (σ : Sg) {r : Int32} {σ9 : Sg} (hf : f_X1_addKite xq1 xq2 xq3 xq4 σ = some (r, σ9)) : Met l yX1_addKite (.code yX1_addKite cX1_addKite 6 (some .int) :: TT) ({ frames := 1, cells := 0, slots := 0, locals := 22 } : Room) (zPc D cy 97 (celC ad cy) ad A [.ref (ad 24), .int xq1, .int xq2, .int xq3, .int xq4] σ) (zQi D 97 (celC ad cy) ad A r σ9) 0 0 A := by
  refine zofW (by decide) hA (Nat.le_of_ble_eq_true rfl) ?_
  intro p e s m args below meth c ls E hw hr hlk hl
  have E : ZE p s m args c cX1_addKite 6 "KiteSummons$County" D cy 97 ad A := E
  have hx := E.hx
  have hb := E.hb
  have hl : lv_has ls 6 [(0, .ref (ad 24)), (1, .int xq1), (2, .int xq2), (3, .int xq3), (4, .int xq4)] := hl
  unfold f_X1_addKite at hf
  refine lv_aload_n hx hb dX1_addKite_0 rfl (lv_at hl 0 rfl) ?_
  refine zget E hw (Nat.le_of_ble_eq_true rfl) (ceC_24 ad cy _) rfl inX1 1 (by decide) k2_9 (fun _ h => h) rfl dX1_addKite_1 ?_
  refine lv_topi (fun vq1 evq1 => ?_)
  replace hf := lt_i evq1 hf
  refine lv_istore (lv' := [(5, .int vq1), (0, .ref (ad 24)), (1, .int xq1), (2, .int xq2), (3, .int xq3), (4, .int xq4)]) hx hb dX1_addKite_4 hl (by decide) rfl (fun ls hl => ?_)
  refine lv_aload_n hx hb dX1_addKite_6 rfl (lv_at hl 1 rfl) ?_
  refine lv_dup hx hb dX1_addKite_7 rfl ?_
  refine zget E hw (Nat.le_of_ble_eq_true rfl) (ceC_24 ad cy _) rfl inX1 1 (by decide) k2_9 (fun _ h => h) rfl dX1_addKite_8 ?_
  refine lv_iconst (v := 1) hx hb dX1_addKite_11 (by decide) ?_
  refine lv_iadd hx hb dX1_addKite_12 ?_
  refine zputs E hw (Nat.le_of_ble_eq_true rfl) (ceC_24 ad cy _) rfl inX1 tyX1 tyX1_ok nmX1 1 (by decide) k2_9 (fun _ h => h) rfl rfl rfl (Nat.le_of_ble_eq_true rfl) (j := 1) (Eq.trans (ceC_24 ad cy _) (by rfl)) dX1_addKite_13 (fun σ2 eσ2 H locs hw => ?_)
  replace hf := lt_i eσ2 hf
  refine lv_aload_n hx hb dX1_addKite_16 rfl (lv_at hl 1 rfl) ?_
  refine zget E hw (Nat.le_of_ble_eq_true rfl) (ceC_24 ad cy _) rfl inX1 5 (by decide) k2_18 (fun _ h => h) rfl dX1_addKite_17 ?_
  refine lv_iload hx hb dX1_addKite_20 (lv_at hl 0 rfl) ?_
  refine lv_iload_n hx hb dX1_addKite_22 rfl (lv_at hl 2 rfl) ?_
  obtain ⟨σ3, hσ3, hf⟩ := bd_e hf
  refine zastr E hw (Nat.le_of_ble_eq_true rfl) (ceC_25 ad cy) hσ3 dX1_addKite_23 (fun H locs hw => ?_)
  refine lv_aload_n hx hb dX1_addKite_24 rfl (lv_at hl 1 rfl) ?_
  refine zget E hw (Nat.le_of_ble_eq_true rfl) (ceC_24 ad cy _) rfl inX1 6 (by decide) k2_20 (fun _ h => h) rfl dX1_addKite_25 ?_
  refine lv_iload hx hb dX1_addKite_28 (lv_at hl 0 rfl) ?_
  refine lv_iload hx hb dX1_addKite_30 (lv_at hl 5 rfl) ?_
  obtain ⟨σ4, hσ4, hf⟩ := bd_e hf
  refine zastr E hw (Nat.le_of_ble_eq_true rfl) (ceC_26 ad cy) hσ4 dX1_addKite_32 (fun H locs hw => ?_)
  refine lv_aload_n hx hb dX1_addKite_33 rfl (lv_at hl 1 rfl) ?_
  refine zget E hw (Nat.le_of_ble_eq_true rfl) (ceC_24 ad cy _) rfl inX1 15 (by decide) k2_34 (fun _ h => h) rfl dX1_addKite_34 ?_
  refine zget E hw (Nat.le_of_ble_eq_true rfl) (ceC_41 ad cy _) rfl inX10 4 (by decide) k1_121 (fun _ h => h) rfl dX1_addKite_37 ?_
  refine lv_iload hx hb dX1_addKite_40 (lv_at hl 0 rfl) ?_
  refine lv_iload_n hx hb dX1_addKite_42 rfl (lv_at hl 3 rfl) ?_
  obtain ⟨σ5, hσ5, hf⟩ := bd_e hf
  refine zastr E hw (Nat.le_of_ble_eq_true rfl) (ceC_42 ad cy) hσ5 dX1_addKite_43 (fun H locs hw => ?_)
  refine lv_aload_n hx hb dX1_addKite_44 rfl (lv_at hl 1 rfl) ?_
  refine zget E hw (Nat.le_of_ble_eq_true rfl) (ceC_24 ad cy _) rfl inX1 15 (by decide) k2_34 (fun _ h => h) rfl dX1_addKite_45 ?_
  refine zget E hw (Nat.le_of_ble_eq_true rfl) (ceC_41 ad cy _) rfl inX10 5 (by decide) k1_124 (fun _ h => h) rfl dX1_addKite_48 ?_
  refine lv_iload hx hb dX1_addKite_51 (lv_at hl 0 rfl) ?_
  refine lv_iload_n hx hb dX1_addKite_53 rfl (lv_at hl 4 rfl) ?_
  obtain ⟨σ6, hσ6, hf⟩ := bd_e hf
  refine zastr E hw (Nat.le_of_ble_eq_true rfl) (ceC_43 ad cy) hσ6 dX1_addKite_54 (fun H locs hw => ?_)
  refine lv_aload_n hx hb dX1_addKite_55 rfl (lv_at hl 1 rfl) ?_
  refine zget E hw (Nat.le_of_ble_eq_true rfl) (ceC_24 ad cy _) rfl inX1 15 (by decide) k2_34 (fun _ h => h) rfl dX1_addKite_56 ?_
  refine lv_aload_n hx hb dX1_addKite_59 rfl (lv_at hl 1 rfl) ?_
  refine zget E hw (Nat.le_of_ble_eq_true rfl) (ceC_24 ad cy _) rfl inX1 15 (by decide) k2_34 (fun _ h => h) rfl dX1_addKite_60 ?_
  refine zget E hw (Nat.le_of_ble_eq_true rfl) (ceC_41 ad cy _) rfl inX10 2 (by decide) k1_114 (fun _ h => h) rfl dX1_addKite_63 ?_
  refine lv_iload hx hb dX1_addKite_66 (lv_at hl 0 rfl) ?_
  refine lv_iconst (v := 1) hx hb dX1_addKite_68 (by decide) ?_
  refine zcali hw (va_runSN (As := [.int (σ6 41 2), .int vq1, .int 1]) (rest := [.ref (ad 41)]) E.fix (c_X11_withBit (l := l) hA (σ6 41 2) vq1 1 σ6 rfl) (zcN E k2_186 k1_1 k2_184 k2_185 mf_X11_withBit rfl rfl ⟨Nat.le_of_ble_eq_true rfl, Nat.le_of_ble_eq_true rfl⟩) (zPre E hw _) rfl rfl hl.1 rfl (lv_room (Nat.le_of_ble_eq_true rfl)) dX1_addKite_69 ⟨Nat.zero_le _, Nat.zero_le _⟩) (fun H locs hw => ?_)
  refine zputs E hw (Nat.le_of_ble_eq_true rfl) (ceC_41 ad cy _) rfl inX10 tyX10 tyX10_ok nmX10 2 (by decide) k1_114 (fun _ h => h) rfl rfl rfl (Nat.le_of_ble_eq_true rfl) (j := 2) (Eq.trans (ceC_41 ad cy _) (by rfl)) dX1_addKite_72 (fun σ7 eσ7 H locs hw => ?_)
  replace hf := lt_i eσ7 hf
  refine lv_aload_n hx hb dX1_addKite_75 rfl (lv_at hl 1 rfl) ?_
  refine zget E hw (Nat.le_of_ble_eq_true rfl) (ceC_24 ad cy _) rfl inX1 15 (by decide) k2_34 (fun _ h => h) rfl dX1_addKite_76 ?_
  refine lv_aload_n hx hb dX1_addKite_79 rfl (lv_at hl 1 rfl) ?_
  refine zget E hw (Nat.le_of_ble_eq_true rfl) (ceC_24 ad cy _) rfl inX1 15 (by decide) k2_34 (fun _ h => h) rfl dX1_addKite_80 ?_
  refine zget E hw (Nat.le_of_ble_eq_true rfl) (ceC_41 ad cy _) rfl inX10 3 (by decide) k1_117 (fun _ h => h) rfl dX1_addKite_83 ?_
  refine lv_iload hx hb dX1_addKite_86 (lv_at hl 0 rfl) ?_
  refine lv_iconst (v := 0) hx hb dX1_addKite_88 (by decide) ?_
  refine zcali hw (va_runSN (As := [.int (σ7 41 3), .int vq1, .int 0]) (rest := [.ref (ad 41)]) E.fix (c_X11_withBit (l := l) hA (σ7 41 3) vq1 0 σ7 rfl) (zcN E k2_186 k1_1 k2_184 k2_185 mf_X11_withBit rfl rfl ⟨Nat.le_of_ble_eq_true rfl, Nat.le_of_ble_eq_true rfl⟩) (zPre E hw _) rfl rfl hl.1 rfl (lv_room (Nat.le_of_ble_eq_true rfl)) dX1_addKite_89 ⟨Nat.zero_le _, Nat.zero_le _⟩) (fun H locs hw => ?_)
  refine zputs E hw (Nat.le_of_ble_eq_true rfl) (ceC_41 ad cy _) rfl inX10 tyX10 tyX10_ok nmX10 3 (by decide) k1_117 (fun _ h => h) rfl rfl rfl (Nat.le_of_ble_eq_true rfl) (j := 3) (Eq.trans (ceC_41 ad cy _) (by rfl)) dX1_addKite_92 (fun σ8 eσ8 H locs hw => ?_)
  replace hf := lt_i eσ8 hf
  refine lv_iload hx hb dX1_addKite_95 (lv_at hl 0 rfl) ?_
  exact zreti E hw hr hlk (rt_a hf) (rt_b hf) dX1_addKite_97
set_option maxRecDepth 100000 in
set_option maxHeartbeats 4000000 in
theorem c_X11_kite {l : Launch} {D : va_G} {cy : Cy} {ad : Nat → Nat} {A : Nat → Prop} (hA : okAd 97 ad A) (xq1 : Int32) (xq2 : Int32) (xq3 : Int32) (xq4 : Int32) (σ : Sg) {r : Int32} {σ9 : Sg} (hf : f_X11_kite xq1 xq2 xq3 xq4 σ = some (r, σ9)) : Met l yX11_kite (.code yX11_kite cX11_kite 5 (some .int) :: TT) ({ frames := 2, cells := 0, slots := 0, locals := 47 } : Room) (zPc D cy 97 (celC ad cy) ad A [.ref (ad 0), .int xq1, .int xq2, .int xq3, .int xq4] σ) (zQi D 97 (celC ad cy) ad A r σ9) 0 0 A := by
  refine zofW (by decide) hA (Nat.le_of_ble_eq_true rfl) ?_
  intro p e s m args below meth c ls E hw hr hlk hl
  have E : ZE p s m args c cX11_kite 5 "KiteSummons" D cy 97 ad A := E
  have hx := E.hx
  have hb := E.hb
  have hl : lv_has ls 5 [(0, .ref (ad 0)), (1, .int xq1), (2, .int xq2), (3, .int xq3), (4, .int xq4)] := hl
  unfold f_X11_kite at hf
  refine lv_iload_n hx hb dX11_kite_0 rfl (lv_at hl 1 rfl) ?_
  refine lv_iconst (v := 1) hx hb dX11_kite_1 (by decide) ?_
  refine lv_iconst (v := 5) hx hb dX11_kite_2 (by decide) ?_
  refine zcali hw (va_runS (As := [.int xq1, .int 1, .int 5]) (rest := []) E.fix (c_X11_within (l := l) hA xq1 1 5 σ rfl) (zcS E k2_179 k1_1 k2_177 k2_178 mf_X11_within rfl rfl ⟨Nat.le_of_ble_eq_true rfl, Nat.le_of_ble_eq_true rfl⟩) (zPre E hw _) rfl rfl hl.1 rfl (lv_room (Nat.le_of_ble_eq_true rfl)) dX11_kite_3 ⟨Nat.zero_le _, Nat.zero_le _⟩) (fun H locs hw => ?_)
  refine lv_if_eq (tgt := 39) hx hb dX11_kite_6 (by decide) (fun h => ?_) (fun h => ?_)
  · replace hf := it_f (b2i_0 h) hf
    refine lv_iconst (v := (-1)) hx hb dX11_kite_39 (by decide) ?_
    exact zreti E hw hr hlk (rt_a hf) (rt_b hf) dX11_kite_40
  · replace hf := it_t (b2i_n h) hf
    refine lv_iload_n hx hb dX11_kite_9 rfl (lv_at hl 2 rfl) ?_
    refine lv_iconst (v := 0) hx hb dX11_kite_10 (by decide) ?_
    refine lv_bipush (v := 63) hx hb dX11_kite_11 (by decide) ?_
    refine zcali hw (va_runS (As := [.int xq2, .int 0, .int 63]) (rest := []) E.fix (c_X11_within (l := l) hA xq2 0 63 σ rfl) (zcS E k2_179 k1_1 k2_177 k2_178 mf_X11_within rfl rfl ⟨Nat.le_of_ble_eq_true rfl, Nat.le_of_ble_eq_true rfl⟩) (zPre E hw _) rfl rfl hl.1 rfl (lv_room (Nat.le_of_ble_eq_true rfl)) dX11_kite_13 ⟨Nat.zero_le _, Nat.zero_le _⟩) (fun H locs hw => ?_)
    refine lv_if_eq (tgt := 39) hx hb dX11_kite_16 (by decide) (fun h => ?_) (fun h => ?_)
    · replace hf := it_f (b2i_0 h) hf
      refine lv_iconst (v := (-1)) hx hb dX11_kite_39 (by decide) ?_
      exact zreti E hw hr hlk (rt_a hf) (rt_b hf) dX11_kite_40
    · replace hf := it_t (b2i_n h) hf
      refine lv_iload_n hx hb dX11_kite_19 rfl (lv_at hl 3 rfl) ?_
      refine lv_iconst (v := 0) hx hb dX11_kite_20 (by decide) ?_
      refine lv_bipush (v := 9) hx hb dX11_kite_21 (by decide) ?_
      refine zcali hw (va_runS (As := [.int xq3, .int 0, .int 9]) (rest := []) E.fix (c_X11_within (l := l) hA xq3 0 9 σ rfl) (zcS E k2_179 k1_1 k2_177 k2_178 mf_X11_within rfl rfl ⟨Nat.le_of_ble_eq_true rfl, Nat.le_of_ble_eq_true rfl⟩) (zPre E hw _) rfl rfl hl.1 rfl (lv_room (Nat.le_of_ble_eq_true rfl)) dX11_kite_23 ⟨Nat.zero_le _, Nat.zero_le _⟩) (fun H locs hw => ?_)
      refine lv_if_eq (tgt := 39) hx hb dX11_kite_26 (by decide) (fun h => ?_) (fun h => ?_)
      · replace hf := it_f (b2i_0 h) hf
        refine lv_iconst (v := (-1)) hx hb dX11_kite_39 (by decide) ?_
        exact zreti E hw hr hlk (rt_a hf) (rt_b hf) dX11_kite_40
      · replace hf := it_t (b2i_n h) hf
        refine lv_iload hx hb dX11_kite_29 (lv_at hl 4 rfl) ?_
        refine lv_iconst (v := 0) hx hb dX11_kite_31 (by decide) ?_
        refine lv_iconst (v := 5) hx hb dX11_kite_32 (by decide) ?_
        refine zcali hw (va_runS (As := [.int xq4, .int 0, .int 5]) (rest := []) E.fix (c_X11_within (l := l) hA xq4 0 5 σ rfl) (zcS E k2_179 k1_1 k2_177 k2_178 mf_X11_within rfl rfl ⟨Nat.le_of_ble_eq_true rfl, Nat.le_of_ble_eq_true rfl⟩) (zPre E hw _) rfl rfl hl.1 rfl (lv_room (Nat.le_of_ble_eq_true rfl)) dX11_kite_33 ⟨Nat.zero_le _, Nat.zero_le _⟩) (fun H locs hw => ?_)
        refine lv_if_ne (tgt := 41) hx hb dX11_kite_36 (by decide) (fun h => ?_) (fun h => ?_)
        · replace hf := it_t (b2i_n h) hf
          refine lv_aload_n hx hb dX11_kite_41 rfl (lv_at hl 0 rfl) ?_
          refine zget E hw (Nat.le_of_ble_eq_true rfl) (ceC_0 ad cy _) rfl inX11 2 (by decide) k2_123 (fun _ h => h) rfl dX11_kite_42 ?_
          refine zget E hw (Nat.le_of_ble_eq_true rfl) (ceC_24 ad cy _) rfl inX1 1 (by decide) k2_10 (fun _ h => h) rfl dX11_kite_45 ?_
          refine lv_bipush (v := 6) hx hb dX11_kite_48 (by decide) ?_
          refine lv_icmp_lt (tgt := 58) hx hb dX11_kite_50 (by decide) (fun h => ?_) (fun h => ?_)
          · replace hf := it_t h hf
            refine lv_aload_n hx hb dX11_kite_58 rfl (lv_at hl 0 rfl) ?_
            refine zget E hw (Nat.le_of_ble_eq_true rfl) (ceC_0 ad cy _) rfl inX11 2 (by decide) k2_123 (fun _ h => h) rfl dX11_kite_59 ?_
            refine lv_iload_n hx hb dX11_kite_62 rfl (lv_at hl 1 rfl) ?_
            refine lv_iload_n hx hb dX11_kite_63 rfl (lv_at hl 2 rfl) ?_
            refine lv_iload_n hx hb dX11_kite_64 rfl (lv_at hl 3 rfl) ?_
            refine lv_iload hx hb dX11_kite_65 (lv_at hl 4 rfl) ?_
            obtain ⟨vq1, σ2, hc, hf⟩ := bd2_e hf
            refine zcali hw (va_runV (As := [.int xq1, .int xq2, .int xq3, .int xq4]) (rest := []) E.fix (c_X1_addKite (l := l) hA xq1 xq2 xq3 xq4 σ hc) (zcV E k2_183 k1_11 k2_180 k2_181 k2_182 mf_X1_addKite rfl rfl ⟨Nat.le_of_ble_eq_true rfl, Nat.le_of_ble_eq_true rfl⟩) (zPreV E hw (Nat.le_of_ble_eq_true rfl) (ceC_24 ad cy _) rfl _) rfl rfl hl.1 rfl (lv_room (Nat.le_of_ble_eq_true rfl)) dX11_kite_67 ⟨Nat.zero_le _, Nat.zero_le _⟩) (fun H locs hw => ?_)
            exact zreti E hw hr hlk (rt_a hf) (rt_b hf) dX11_kite_70
          · replace hf := it_f h hf
            refine lv_bipush (v := (-2)) hx hb dX11_kite_53 (by decide) ?_
            refine lv_goto (tgt := 70) hx hb dX11_kite_55 (by decide) ?_
            exact zreti E hw hr hlk (rt_a hf) (rt_b hf) dX11_kite_70
        · replace hf := it_f (b2i_0 h) hf
          refine lv_iconst (v := (-1)) hx hb dX11_kite_39 (by decide) ?_
          exact zreti E hw hr hlk (rt_a hf) (rt_b hf) dX11_kite_40
set_option maxRecDepth 100000 in
set_option maxHeartbeats 4000000 in
theorem c_X11_isKite {l : Launch} {D : va_G} {cy : Cy} {ad : Nat → Nat} {A : Nat → Prop} (hA : okAd 97 ad A) (xq1 : Int32) (σ : Sg) {r : Bool} (hf : f_X11_isKite xq1 σ = r) : Met l yX11_isKite (.code yX11_isKite cX11_isKite 2 (some .boolean) :: TT) ({ frames := 1, cells := 0, slots := 0, locals := 22 } : Room) (zPc D cy 97 (celC ad cy) ad A [.ref (ad 0), .int xq1] σ) (zQi D 97 (celC ad cy) ad A (b2i r) σ) 0 0 A := by
  refine zofW (by decide) hA (Nat.le_of_ble_eq_true rfl) ?_
  intro p e s m args below meth c ls E hw hr hlk hl
  have E : ZE p s m args c cX11_isKite 2 "KiteSummons" D cy 97 ad A := E
  have hx := E.hx
  have hb := E.hb
  have hl : lv_has ls 2 [(0, .ref (ad 0)), (1, .int xq1)] := hl
  unfold f_X11_isKite at hf
  refine lv_iload_n hx hb dX11_isKite_0 rfl (lv_at hl 1 rfl) ?_
  refine lv_iconst (v := 0) hx hb dX11_isKite_1 (by decide) ?_
  refine lv_aload_n hx hb dX11_isKite_2 rfl (lv_at hl 0 rfl) ?_
  refine zget E hw (Nat.le_of_ble_eq_true rfl) (ceC_0 ad cy _) rfl inX11 2 (by decide) k2_123 (fun _ h => h) rfl dX11_isKite_3 ?_
  refine zget E hw (Nat.le_of_ble_eq_true rfl) (ceC_24 ad cy _) rfl inX1 1 (by decide) k2_10 (fun _ h => h) rfl dX11_isKite_6 ?_
  refine lv_iconst (v := 1) hx hb dX11_isKite_9 (by decide) ?_
  refine lv_isub hx hb dX11_isKite_10 ?_
  refine zcali hw (va_runS (As := [.int xq1, .int 0, .int ((σ 24 1) - 1)]) (rest := []) E.fix (c_X11_within (l := l) hA xq1 0 ((σ 24 1) - 1) σ rfl) (zcS E k2_179 k1_1 k2_177 k2_178 mf_X11_within rfl rfl ⟨Nat.le_of_ble_eq_true rfl, Nat.le_of_ble_eq_true rfl⟩) (zPre E hw _) rfl rfl hl.1 rfl (lv_room (Nat.le_of_ble_eq_true rfl)) dX11_isKite_11 ⟨Nat.zero_le _, Nat.zero_le _⟩) (fun H locs hw => ?_)
  exact zretz E hw hr hlk (b_e hf (by rfl)) rfl dX11_isKite_14
set_option maxRecDepth 100000 in
set_option maxHeartbeats 4000000 in
theorem c_X11_isIn {l : Launch} {D : va_G} {cy : Cy} {ad : Nat → Nat} {A : Nat → Prop} (hA : okAd 97 ad A) (xq0 : Int32) (xq1 : Int32) (σ : Sg) {r : Bool} (hf : f_X11_isIn xq0 xq1 σ = r) : Met l yX11_isIn (.code yX11_isIn cX11_isIn 2 (some .boolean) :: TT) ({ frames := 0, cells := 0, slots := 0, locals := 0 } : Room) (zPc D cy 97 (celC ad cy) ad A [.int xq0, .int xq1] σ) (zQi D 97 (celC ad cy) ad A (b2i r) σ) 0 0 A := by
  refine zofW (by decide) hA (Nat.le_of_ble_eq_true rfl) ?_
  intro p e s m args below meth c ls E hw hr hlk hl
  have E : ZE p s m args c cX11_isIn 2 "KiteSummons" D cy 97 ad A := E
  have hx := E.hx
  have hb := E.hb
  have hl : lv_has ls 2 [(0, .int xq0), (1, .int xq1)] := hl
  unfold f_X11_isIn at hf
  refine lv_iload_n hx hb dX11_isIn_0 rfl (lv_at hl 0 rfl) ?_
  refine lv_iload_n hx hb dX11_isIn_1 rfl (lv_at hl 1 rfl) ?_
  refine zishr hx hb dX11_isIn_2 ?_
  refine lv_iconst (v := 1) hx hb dX11_isIn_3 (by decide) ?_
  refine lv_iand hx hb dX11_isIn_4 ?_
  refine lv_iconst (v := 1) hx hb dX11_isIn_5 (by decide) ?_
  refine lv_icmp_ne (tgt := 13) hx hb dX11_isIn_6 (by decide) (fun h => ?_) (fun h => ?_)
  · replace hf := it_t h hf
    refine lv_iconst (v := 0) hx hb dX11_isIn_13 (by decide) ?_
    exact zretz E hw hr hlk (b_e hf (by rfl)) rfl dX11_isIn_14
  · replace hf := it_n h hf
    refine lv_iconst (v := 1) hx hb dX11_isIn_9 (by decide) ?_
    refine lv_goto (tgt := 14) hx hb dX11_isIn_10 (by decide) ?_
    exact zretz E hw hr hlk (b_e hf (by rfl)) rfl dX11_isIn_14
set_option maxRecDepth 100000 in
set_option maxHeartbeats 4000000 in
theorem c_X1_windOf {l : Launch} {D : va_G} {cy : Cy} {ad : Nat → Nat} {A : Nat → Prop} (hA : okAd 97 ad A) (xq1 : Int32) (σ : Sg) {r : Int32} (hf : f_X1_windOf xq1 σ = some r) : Met l yX1_windOf (.code yX1_windOf cX1_windOf 2 (some .int) :: TT) ({ frames := 1, cells := 0, slots := 0, locals := 22 } : Room) (zPc D cy 97 (celC ad cy) ad A [.ref (ad 24), .int xq1] σ) (zQi D 97 (celC ad cy) ad A r σ) 0 0 A := by
  refine zofW (by decide) hA (Nat.le_of_ble_eq_true rfl) ?_
  intro p e s m args below meth c ls E hw hr hlk hl
  have E : ZE p s m args c cX1_windOf 2 "KiteSummons$County" D cy 97 ad A := E
  have hx := E.hx
  have hb := E.hb
  have hl : lv_has ls 2 [(0, .ref (ad 24)), (1, .int xq1)] := hl
  unfold f_X1_windOf at hf
  refine lv_iload_n hx hb dX1_windOf_0 rfl (lv_at hl 1 rfl) ?_
  refine lv_iconst (v := 0) hx hb dX1_windOf_1 (by decide) ?_
  refine lv_bipush (v := 15) hx hb dX1_windOf_2 (by decide) ?_
  refine zcali hw (va_runSN (As := [.int xq1, .int 0, .int 15]) (rest := []) E.fix (c_X11_within (l := l) hA xq1 0 15 σ rfl) (zcN E k2_179 k1_1 k2_206 k2_178 mf_X11_within rfl rfl ⟨Nat.le_of_ble_eq_true rfl, Nat.le_of_ble_eq_true rfl⟩) (zPre E hw _) rfl rfl hl.1 rfl (lv_room (Nat.le_of_ble_eq_true rfl)) dX1_windOf_4 ⟨Nat.zero_le _, Nat.zero_le _⟩) (fun H locs hw => ?_)
  refine lv_if_eq (tgt := 19) hx hb dX1_windOf_7 (by decide) (fun h => ?_) (fun h => ?_)
  · replace hf := it_f (b2i_0 h) hf
    refine lv_iconst (v := 0) hx hb dX1_windOf_19 (by decide) ?_
    exact zreti E hw hr hlk (rt_1 hf) rfl dX1_windOf_20
  · replace hf := it_t (b2i_n h) hf
    refine lv_aload_n hx hb dX1_windOf_10 rfl (lv_at hl 0 rfl) ?_
    refine zget E hw (Nat.le_of_ble_eq_true rfl) (ceC_24 ad cy _) rfl inX1 7 (by decide) k2_22 (fun _ h => h) rfl dX1_windOf_11 ?_
    refine lv_iload_n hx hb dX1_windOf_14 rfl (lv_at hl 1 rfl) ?_
    obtain ⟨vq1, hvq1, hf⟩ := bd_e hf
    refine zaldr E hw (Nat.le_of_ble_eq_true rfl) (ceC_27 ad cy) hvq1 dX1_windOf_15 ?_
    refine lv_goto (tgt := 20) hx hb dX1_windOf_16 (by decide) ?_
    exact zreti E hw hr hlk (rt_1 hf) rfl dX1_windOf_20
set_option maxRecDepth 100000 in
set_option maxHeartbeats 4000000 in
theorem c_X1_driftsNow {l : Launch} {D : va_G} {cy : Cy} {ad : Nat → Nat} {A : Nat → Prop} (hA : okAd 97 ad A) (xq1 : Int32) (σ : Sg) {r : Int32} (hf : f_X1_driftsNow xq1 σ = some r) : Met l yX1_driftsNow (.code yX1_driftsNow cX1_driftsNow 3 (some .int) :: TT) ({ frames := 3, cells := 0, slots := 0, locals := 66 } : Room) (zPc D cy 97 (celC ad cy) ad A [.ref (ad 24), .int xq1] σ) (zQi D 97 (celC ad cy) ad A r σ) 0 0 A := by
  refine zofW (by decide) hA (Nat.le_of_ble_eq_true rfl) ?_
  intro p e s m args below meth c ls E hw hr hlk hl
  have E : ZE p s m args c cX1_driftsNow 3 "KiteSummons$County" D cy 97 ad A := E
  have hx := E.hx
  have hb := E.hb
  have hl : lv_has ls 3 [(0, .ref (ad 24)), (1, .int xq1)] := hl
  unfold f_X1_driftsNow at hf
  refine lv_aload_n hx hb dX1_driftsNow_0 rfl (lv_at hl 0 rfl) ?_
  refine zget E hw (Nat.le_of_ble_eq_true rfl) (ceC_24 ad cy _) rfl inX1 15 (by decide) k2_34 (fun _ h => h) rfl dX1_driftsNow_1 ?_
  refine zget E hw (Nat.le_of_ble_eq_true rfl) (ceC_41 ad cy _) rfl inX10 0 (by decide) k1_108 (fun _ h => h) rfl dX1_driftsNow_4 ?_
  refine lv_topi (fun vq1 evq1 => ?_)
  replace hf := lt_i evq1 hf
  refine lv_istore_n (lv' := [(2, .int vq1), (0, .ref (ad 24)), (1, .int xq1)]) hx hb dX1_driftsNow_7 rfl hl (by decide) rfl (fun ls hl => ?_)
  refine lv_iload_n hx hb dX1_driftsNow_8 rfl (lv_at hl 0 rfl) ?_
  refine lv_bipush (v := 16) hx hb dX1_driftsNow_9 (by decide) ?_
  refine lv_icmp_ge (tgt := 39) hx hb dX1_driftsNow_11 (by decide) (fun h => ?_) (fun h => ?_)
  · replace hf := it_t h hf
    refine lv_iconst (v := 0) hx hb dX1_driftsNow_39 (by decide) ?_
    exact zreti E hw hr hlk (rt_1 hf) rfl dX1_driftsNow_40
  · replace hf := it_f h hf
    refine lv_aload_n hx hb dX1_driftsNow_14 rfl (lv_at hl 1 rfl) ?_
    refine zget E hw (Nat.le_of_ble_eq_true rfl) (ceC_24 ad cy _) rfl inX1 0 (by decide) k2_8 (fun _ h => h) rfl dX1_driftsNow_15 ?_
    refine lv_aload_n hx hb dX1_driftsNow_18 rfl (lv_at hl 1 rfl) ?_
    refine zget E hw (Nat.le_of_ble_eq_true rfl) (ceC_24 ad cy _) rfl inX1 5 (by decide) k2_18 (fun _ h => h) rfl dX1_driftsNow_19 ?_
    refine lv_iload_n hx hb dX1_driftsNow_22 rfl (lv_at hl 2 rfl) ?_
    obtain ⟨vq2, hvq2, hf⟩ := bd_e hf
    refine zaldr E hw (Nat.le_of_ble_eq_true rfl) (ceC_25 ad cy) hvq2 dX1_driftsNow_23 ?_
    obtain ⟨hiq3, hf⟩ := gd_e hf
    refine zaldq E hw (Nat.le_of_ble_eq_true rfl) 3 rfl rfl (ceC_2 ad cy _) hiq3 dX1_driftsNow_24 ?_
    refine lv_aload_n hx hb dX1_driftsNow_25 rfl (lv_at hl 1 rfl) ?_
    refine lv_iload_n hx hb dX1_driftsNow_26 rfl (lv_at hl 0 rfl) ?_
    obtain ⟨vq4, hc, hf⟩ := bd_e hf
    refine zcali hw (va_runV (As := [.int vq1]) (rest := [.ref (ad (3 + vq2.toNatClampNeg))]) E.fix (c_X1_windOf (l := l) hA vq1 σ hc) (zcV E k2_205 k1_11 k2_202 k2_203 k2_204 mf_X1_windOf rfl rfl ⟨Nat.le_of_ble_eq_true rfl, Nat.le_of_ble_eq_true rfl⟩) (zPreV E hw (Nat.le_of_ble_eq_true rfl) (ceC_24 ad cy _) rfl _) rfl rfl hl.1 rfl (lv_room (Nat.le_of_ble_eq_true rfl)) dX1_driftsNow_27 ⟨Nat.zero_le _, Nat.zero_le _⟩) (fun H locs hw => ?_)
    refine lv_iconst (v := 4) hx hb dX1_driftsNow_30 (by decide) ?_
    refine lv_idiv hx hb dX1_driftsNow_31 (by decide) ?_
    refine lv_iload_n hx hb dX1_driftsNow_32 rfl (lv_at hl 0 rfl) ?_
    refine vs_X1_116 hA E hw hl.1 (Nat.le_of_ble_eq_true rfl) (Nat.le_of_ble_eq_true rfl) (Nat.le_of_ble_eq_true rfl) (nlt hiq3) rfl dX1_driftsNow_33 (fun H locs hw => ?_)
    refine lv_goto (tgt := 40) hx hb dX1_driftsNow_36 (by decide) ?_
    exact zreti E hw hr hlk (rt_1 hf) rfl dX1_driftsNow_40
set_option maxRecDepth 100000 in
set_option maxHeartbeats 4000000 in
theorem c_X1_feeOf {l : Launch} {D : va_G} {cy : Cy} {ad : Nat → Nat} {A : Nat → Prop} (hA : okAd 97 ad A) (xq1 : Int32) (σ : Sg) {r : Int32} (hf : f_X1_feeOf xq1 σ = some r) : Met l yX1_feeOf (.code yX1_feeOf cX1_feeOf 2 (some .int) :: TT) ({ frames := 3, cells := 0, slots := 0, locals := 63 } : Room) (zPc D cy 97 (celC ad cy) ad A [.ref (ad 24), .int xq1] σ) (zQi D 97 (celC ad cy) ad A r σ) 0 0 A := by
  refine zofW (by decide) hA (Nat.le_of_ble_eq_true rfl) ?_
  intro p e s m args below meth c ls E hw hr hlk hl
  have E : ZE p s m args c cX1_feeOf 2 "KiteSummons$County" D cy 97 ad A := E
  have hx := E.hx
  have hb := E.hb
  have hl : lv_has ls 2 [(0, .ref (ad 24)), (1, .int xq1)] := hl
  unfold f_X1_feeOf at hf
  refine lv_aload_n hx hb dX1_feeOf_0 rfl (lv_at hl 0 rfl) ?_
  refine zget E hw (Nat.le_of_ble_eq_true rfl) (ceC_24 ad cy _) rfl inX1 0 (by decide) k2_8 (fun _ h => h) rfl dX1_feeOf_1 ?_
  refine lv_aload_n hx hb dX1_feeOf_4 rfl (lv_at hl 0 rfl) ?_
  refine zget E hw (Nat.le_of_ble_eq_true rfl) (ceC_24 ad cy _) rfl inX1 5 (by decide) k2_18 (fun _ h => h) rfl dX1_feeOf_5 ?_
  refine lv_iload_n hx hb dX1_feeOf_8 rfl (lv_at hl 1 rfl) ?_
  obtain ⟨vq1, hvq1, hf⟩ := bd_e hf
  refine zaldr E hw (Nat.le_of_ble_eq_true rfl) (ceC_25 ad cy) hvq1 dX1_feeOf_9 ?_
  obtain ⟨hiq2, hf⟩ := gd_e hf
  refine zaldq E hw (Nat.le_of_ble_eq_true rfl) 3 rfl rfl (ceC_2 ad cy _) hiq2 dX1_feeOf_10 ?_
  refine lv_iload_n hx hb dX1_feeOf_11 rfl (lv_at hl 1 rfl) ?_
  refine vs_X1_122 hA E hw hl.1 (Nat.le_of_ble_eq_true rfl) (Nat.le_of_ble_eq_true rfl) (Nat.le_of_ble_eq_true rfl) (nlt hiq2) rfl dX1_feeOf_12 (fun H locs hw => ?_)
  exact zreti E hw hr hlk (rt_1 hf) rfl dX1_feeOf_15
set_option maxRecDepth 100000 in
set_option maxHeartbeats 4000000 in
theorem c_X11_far {l : Launch} {D : va_G} {cy : Cy} {ad : Nat → Nat} {A : Nat → Prop} (hA : okAd 97 ad A) (xq0 : Int32) (xq1 : Int32) (σ : Sg) {r : Int32} (hf : f_X11_far xq0 xq1 σ = r) : Met l yX11_far (.code yX11_far cX11_far 2 (some .int) :: TT) ({ frames := 1, cells := 0, slots := 0, locals := 21 } : Room) (zPc D cy 97 (celC ad cy) ad A [.int xq0, .int xq1] σ) (zQi D 97 (celC ad cy) ad A r σ) 0 0 A := by
  refine zofW (by decide) hA (Nat.le_of_ble_eq_true rfl) ?_
  intro p e s m args below meth c ls E hw hr hlk hl
  have E : ZE p s m args c cX11_far 2 "KiteSummons" D cy 97 ad A := E
  have hx := E.hx
  have hb := E.hb
  have hl : lv_has ls 2 [(0, .int xq0), (1, .int xq1)] := hl
  unfold f_X11_far at hf
  refine lv_iload_n hx hb dX11_far_0 rfl (lv_at hl 0 rfl) ?_
  refine lv_bipush (v := 7) hx hb dX11_far_1 (by decide) ?_
  refine lv_iand hx hb dX11_far_3 ?_
  refine lv_iload_n hx hb dX11_far_4 rfl (lv_at hl 1 rfl) ?_
  refine lv_bipush (v := 7) hx hb dX11_far_5 (by decide) ?_
  refine lv_iand hx hb dX11_far_7 ?_
  refine lv_isub hx hb dX11_far_8 ?_
  refine zmabs E hl.1 (E.ht _ k3_38) (E.ht _ k3_39) (E.ht _ k1_15) (E.ht _ k3_40) (Nat.le_of_ble_eq_true rfl) (Nat.le_of_ble_eq_true rfl) dX11_far_9 ?_
  refine lv_iload_n hx hb dX11_far_12 rfl (lv_at hl 0 rfl) ?_
  refine lv_iconst (v := 3) hx hb dX11_far_13 (by decide) ?_
  refine zishr hx hb dX11_far_14 ?_
  refine lv_iload_n hx hb dX11_far_15 rfl (lv_at hl 1 rfl) ?_
  refine lv_iconst (v := 3) hx hb dX11_far_16 (by decide) ?_
  refine zishr hx hb dX11_far_17 ?_
  refine lv_isub hx hb dX11_far_18 ?_
  refine zmabs E hl.1 (E.ht _ k3_38) (E.ht _ k3_39) (E.ht _ k1_15) (E.ht _ k3_40) (Nat.le_of_ble_eq_true rfl) (Nat.le_of_ble_eq_true rfl) dX11_far_19 ?_
  refine lv_iadd hx hb dX11_far_22 ?_
  exact zreti E hw hr hlk hf rfl dX11_far_23
set_option maxRecDepth 100000 in
set_option maxHeartbeats 4000000 in
theorem c_X1_farFromFarm {l : Launch} {D : va_G} {cy : Cy} {ad : Nat → Nat} {A : Nat → Prop} (hA : okAd 97 ad A) (nq1 : Nat) (hnq1 : isSky nq1) (xq2 : Int32) (σ : Sg) {r : Int32} (hf : f_X1_farFromFarm nq1 xq2 σ = some r) : Met l yX1_farFromFarm (.code yX1_farFromFarm cX1_farFromFarm 3 (some .int) :: TT) ({ frames := 2, cells := 0, slots := 0, locals := 42 } : Room) (zPc D cy 97 (celC ad cy) ad A [.ref (ad 24), .ref (ad nq1), .int xq2] σ) (zQi D 97 (celC ad cy) ad A r σ) 0 0 A := by
  refine zofW (by decide) hA (Nat.le_of_ble_eq_true rfl) ?_
  intro p e s m args below meth c ls E hw hr hlk hl
  have E : ZE p s m args c cX1_farFromFarm 3 "KiteSummons$County" D cy 97 ad A := E
  have hx := E.hx
  have hb := E.hb
  have hl : lv_has ls 3 [(0, .ref (ad 24)), (1, .ref (ad nq1)), (2, .int xq2)] := hl
  unfold f_X1_farFromFarm at hf
  refine lv_aload_n hx hb dX1_farFromFarm_0 rfl (lv_at hl 1 rfl) ?_
  refine zget E hw (ltSky hnq1) (ceSky ad cy _ hnq1) rfl inX10 4 (by decide) k1_121 (fun _ h => h) rfl dX1_farFromFarm_1 ?_
  refine lv_iload_n hx hb dX1_farFromFarm_4 rfl (lv_at hl 2 rfl) ?_
  obtain ⟨vq1, hvq1, hf⟩ := bd_e hf
  refine zaldr E hw (ltSkyA hnq1) (fun r => ceSkyA ad cy r hnq1) hvq1 dX1_farFromFarm_5 ?_
  refine lv_aload_n hx hb dX1_farFromFarm_6 rfl (lv_at hl 0 rfl) ?_
  refine zget E hw (Nat.le_of_ble_eq_true rfl) (ceC_24 ad cy _) rfl inX1 8 (by decide) k2_24 (fun _ h => h) rfl dX1_farFromFarm_7 ?_
  refine lv_aload_n hx hb dX1_farFromFarm_10 rfl (lv_at hl 0 rfl) ?_
  refine zget E hw (Nat.le_of_ble_eq_true rfl) (ceC_24 ad cy _) rfl inX1 6 (by decide) k2_20 (fun _ h => h) rfl dX1_farFromFarm_11 ?_
  refine lv_iload_n hx hb dX1_farFromFarm_14 rfl (lv_at hl 2 rfl) ?_
  obtain ⟨vq2, hvq2, hf⟩ := bd_e hf
  refine zaldr E hw (Nat.le_of_ble_eq_true rfl) (ceC_26 ad cy) hvq2 dX1_farFromFarm_15 ?_
  obtain ⟨vq3, hvq3, hf⟩ := bd_e hf
  refine zaldr E hw (Nat.le_of_ble_eq_true rfl) (ceC_28 ad cy) hvq3 dX1_farFromFarm_16 ?_
  refine zcali hw (va_runSN (As := [.int vq1, .int vq3]) (rest := []) E.fix (c_X11_far (l := l) hA vq1 vq3 σ rfl) (zcN E k3_37 k1_1 k3_35 k3_36 mf_X11_far rfl rfl ⟨Nat.le_of_ble_eq_true rfl, Nat.le_of_ble_eq_true rfl⟩) (zPre E hw _) rfl rfl hl.1 rfl (lv_room (Nat.le_of_ble_eq_true rfl)) dX1_farFromFarm_17 ⟨Nat.zero_le _, Nat.zero_le _⟩) (fun H locs hw => ?_)
  exact zreti E hw hr hlk (rt_1 hf) rfl dX1_farFromFarm_20
set_option maxRecDepth 100000 in
set_option maxHeartbeats 4000000 in
theorem c_X1_layFacts {l : Launch} {D : va_G} {cy : Cy} {ad : Nat → Nat} {A : Nat → Prop} (hA : okAd 97 ad A) (nq1 : Nat) (hnq1 : isSky nq1) (xq2 : Int32) (xq3 : Int32) (σ : Sg) {σ9 : Sg} (hf : f_X1_layFacts nq1 xq2 xq3 σ = some σ9) : Met l yX1_layFacts (.code yX1_layFacts cX1_layFacts 5 none :: TT) ({ frames := 0, cells := 0, slots := 0, locals := 0 } : Room) (zPc D cy 97 (celC ad cy) ad A [.ref (ad 24), .ref (ad nq1), .int xq2, .int xq3] σ) (zQv D 97 (celC ad cy) ad A σ9) 0 0 A := by
  refine zofW (by decide) hA (Nat.le_of_ble_eq_true rfl) ?_
  intro p e s m args below meth c ls E hw hr hlk hl
  have E : ZE p s m args c cX1_layFacts 5 "KiteSummons$County" D cy 97 ad A := E
  have hx := E.hx
  have hb := E.hb
  have hl : lv_has ls 5 [(0, .ref (ad 24)), (1, .ref (ad nq1)), (2, .int xq2), (3, .int xq3)] := hl
  unfold f_X1_layFacts at hf
  refine lv_aload_n hx hb dX1_layFacts_0 rfl (lv_at hl 0 rfl) ?_
  refine zget E hw (Nat.le_of_ble_eq_true rfl) (ceC_24 ad cy _) rfl inX1 14 (by decide) k2_32 (fun _ h => h) rfl dX1_layFacts_1 ?_
  refine zget E hw (Nat.le_of_ble_eq_true rfl) (ceC_34 ad cy _) rfl inX9 7 (by decide) k1_55 (fun _ h => h) rfl dX1_layFacts_4 ?_
  refine lv_astore (lv' := [(4, .ref (ad 40)), (0, .ref (ad 24)), (1, .ref (ad nq1)), (2, .int xq2), (3, .int xq3)]) hx hb dX1_layFacts_7 hl (by decide) rfl (fun ls hl => ?_)
  refine lv_aload hx hb dX1_layFacts_9 (lv_at hl 0 rfl) ?_
  refine lv_iconst (v := 0) hx hb dX1_layFacts_11 (by decide) ?_
  refine lv_aload_n hx hb dX1_layFacts_12 rfl (lv_at hl 2 rfl) ?_
  refine zget E hw (ltSky hnq1) (ceSky ad cy _ hnq1) rfl inX10 0 (by decide) k1_108 (fun _ h => h) rfl dX1_layFacts_13 ?_
  refine zastk E hw (Nat.le_of_ble_eq_true rfl) (ceC_40 ad cy) 0 (by rfl) (Nat.le_of_ble_eq_true rfl) (by decide) dX1_layFacts_16 (fun σ1 eσ1 H locs hw => ?_)
  replace hf := lt_i eσ1 hf
  refine lv_aload hx hb dX1_layFacts_17 (lv_at hl 0 rfl) ?_
  refine lv_iconst (v := 1) hx hb dX1_layFacts_19 (by decide) ?_
  refine lv_aload_n hx hb dX1_layFacts_20 rfl (lv_at hl 2 rfl) ?_
  refine zget E hw (ltSky hnq1) (ceSky ad cy _ hnq1) rfl inX10 5 (by decide) k1_124 (fun _ h => h) rfl dX1_layFacts_21 ?_
  refine lv_iload_n hx hb dX1_layFacts_24 rfl (lv_at hl 3 rfl) ?_
  obtain ⟨vq2, hvq2, hf⟩ := bd_e hf
  refine zaldr E hw (ltSkyB hnq1) (fun r => ceSkyB ad cy r hnq1) hvq2 dX1_layFacts_25 ?_
  refine zastk E hw (Nat.le_of_ble_eq_true rfl) (ceC_40 ad cy) 1 (by rfl) (Nat.le_of_ble_eq_true rfl) (by decide) dX1_layFacts_26 (fun σ3 eσ3 H locs hw => ?_)
  replace hf := lt_i eσ3 hf
  refine lv_aload hx hb dX1_layFacts_27 (lv_at hl 0 rfl) ?_
  refine lv_iconst (v := 2) hx hb dX1_layFacts_29 (by decide) ?_
  refine lv_iload_n hx hb dX1_layFacts_30 rfl (lv_at hl 4 rfl) ?_
  refine zastk E hw (Nat.le_of_ble_eq_true rfl) (ceC_40 ad cy) 2 (by rfl) (Nat.le_of_ble_eq_true rfl) (by decide) dX1_layFacts_31 (fun σ4 eσ4 H locs hw => ?_)
  replace hf := lt_i eσ4 hf
  refine lv_aload hx hb dX1_layFacts_32 (lv_at hl 0 rfl) ?_
  refine lv_iconst (v := 3) hx hb dX1_layFacts_34 (by decide) ?_
  refine lv_aload_n hx hb dX1_layFacts_35 rfl (lv_at hl 1 rfl) ?_
  refine zget E hw (Nat.le_of_ble_eq_true rfl) (ceC_24 ad cy _) rfl inX1 6 (by decide) k2_20 (fun _ h => h) rfl dX1_layFacts_36 ?_
  refine lv_iload_n hx hb dX1_layFacts_39 rfl (lv_at hl 3 rfl) ?_
  obtain ⟨vq5, hvq5, hf⟩ := bd_e hf
  refine zaldr E hw (Nat.le_of_ble_eq_true rfl) (ceC_26 ad cy) hvq5 dX1_layFacts_40 ?_
  refine zastk E hw (Nat.le_of_ble_eq_true rfl) (ceC_40 ad cy) 3 (by rfl) (Nat.le_of_ble_eq_true rfl) (by decide) dX1_layFacts_41 (fun σ6 eσ6 H locs hw => ?_)
  replace hf := lt_i eσ6 hf
  refine lv_aload hx hb dX1_layFacts_42 (lv_at hl 0 rfl) ?_
  refine lv_iconst (v := 4) hx hb dX1_layFacts_44 (by decide) ?_
  refine lv_iload_n hx hb dX1_layFacts_45 rfl (lv_at hl 3 rfl) ?_
  refine zastk E hw (Nat.le_of_ble_eq_true rfl) (ceC_40 ad cy) 4 (by rfl) (Nat.le_of_ble_eq_true rfl) (by decide) dX1_layFacts_46 (fun σ7 eσ7 H locs hw => ?_)
  replace hf := lt_i eσ7 hf
  exact zretv E hw hr hlk (rt_1 hf) dX1_layFacts_47
set_option maxRecDepth 100000 in
set_option maxHeartbeats 4000000 in
theorem c_X11_isOrUnder {l : Launch} {D : va_G} {cy : Cy} {ad : Nat → Nat} {A : Nat → Prop} (hA : okAd 97 ad A) (xq0 : Int32) (xq1 : Int32) (σ : Sg) {r : Bool} (hf : f_X11_isOrUnder xq0 xq1 σ = r) : Met l yX11_isOrUnder (.code yX11_isOrUnder cX11_isOrUnder 2 (some .boolean) :: TT) ({ frames := 0, cells := 0, slots := 0, locals := 0 } : Room) (zPc D cy 97 (celC ad cy) ad A [.int xq0, .int xq1] σ) (zQi D 97 (celC ad cy) ad A (b2i r) σ) 0 0 A := by
  refine zofW (by decide) hA (Nat.le_of_ble_eq_true rfl) ?_
  intro p e s m args below meth c ls E hw hr hlk hl
  have E : ZE p s m args c cX11_isOrUnder 2 "KiteSummons" D cy 97 ad A := E
  have hx := E.hx
  have hb := E.hb
  have hl : lv_has ls 2 [(0, .int xq0), (1, .int xq1)] := hl
  have hB19 : ∀ (xq0 : Int32) (xq1 : Int32) (H : Heap) (locs : List Loc) (ls : Array Slot), ZS D 97 (celC ad cy) ad A s σ H locs → lv_has ls 2 [(0, .int xq0), (1, .int xq1)] → f_X11_isOrUnder_b19 xq0 xq1 σ = r → W p l e ({ frames := 0, cells := 0, slots := 0, locals := 0 } : Room) s m args below meth c H locs 0 0 (MQ below (zQi D 97 (celC ad cy) ad A (b2i r) σ) args s 0 0 A) (F0 m 19 ls []) := by
    intro xq0 xq1 H locs ls hw hl hf
    unfold f_X11_isOrUnder_b19 at hf
    refine lv_iload_n hx hb dX11_isOrUnder_19 rfl (lv_at hl 0 rfl) ?_
    refine lv_iconst (v := 5) hx hb dX11_isOrUnder_20 (by decide) ?_
    refine lv_icmp_ne (tgt := 33) hx hb dX11_isOrUnder_21 (by decide) (fun h => ?_) (fun h => ?_)
    · replace hf := it_t h hf
      refine lv_iconst (v := 0) hx hb dX11_isOrUnder_33 (by decide) ?_
      exact zretz E hw hr hlk (b_e hf (by rfl)) rfl dX11_isOrUnder_34
    · replace hf := it_n h hf
      refine lv_iload_n hx hb dX11_isOrUnder_24 rfl (lv_at hl 1 rfl) ?_
      refine lv_iconst (v := 4) hx hb dX11_isOrUnder_25 (by decide) ?_
      refine lv_icmp_ne (tgt := 33) hx hb dX11_isOrUnder_26 (by decide) (fun h => ?_) (fun h => ?_)
      · replace hf := it_t h hf
        refine lv_iconst (v := 0) hx hb dX11_isOrUnder_33 (by decide) ?_
        exact zretz E hw hr hlk (b_e hf (by rfl)) rfl dX11_isOrUnder_34
      · replace hf := it_n h hf
        refine lv_iconst (v := 1) hx hb dX11_isOrUnder_29 (by decide) ?_
        refine lv_goto (tgt := 34) hx hb dX11_isOrUnder_30 (by decide) ?_
        exact zretz E hw hr hlk (b_e hf (by rfl)) rfl dX11_isOrUnder_34
  unfold f_X11_isOrUnder at hf
  refine lv_iload_n hx hb dX11_isOrUnder_0 rfl (lv_at hl 1 rfl) ?_
  refine lv_iload_n hx hb dX11_isOrUnder_1 rfl (lv_at hl 0 rfl) ?_
  refine lv_icmp_eq (tgt := 29) hx hb dX11_isOrUnder_2 (by decide) (fun h => ?_) (fun h => ?_)
  · replace hf := it_t h hf
    refine lv_iconst (v := 1) hx hb dX11_isOrUnder_29 (by decide) ?_
    refine lv_goto (tgt := 34) hx hb dX11_isOrUnder_30 (by decide) ?_
    exact zretz E hw hr hlk (b_e hf (by rfl)) rfl dX11_isOrUnder_34
  · replace hf := it_f h hf
    refine lv_iload_n hx hb dX11_isOrUnder_5 rfl (lv_at hl 1 rfl) ?_
    refine lv_if_eq (tgt := 29) hx hb dX11_isOrUnder_6 (by decide) (fun h => ?_) (fun h => ?_)
    · replace hf := it_t h hf
      refine lv_iconst (v := 1) hx hb dX11_isOrUnder_29 (by decide) ?_
      refine lv_goto (tgt := 34) hx hb dX11_isOrUnder_30 (by decide) ?_
      exact zretz E hw hr hlk (b_e hf (by rfl)) rfl dX11_isOrUnder_34
    · replace hf := it_f h hf
      refine lv_iload_n hx hb dX11_isOrUnder_9 rfl (lv_at hl 0 rfl) ?_
      refine lv_iconst (v := 3) hx hb dX11_isOrUnder_10 (by decide) ?_
      refine lv_icmp_ne (tgt := 19) hx hb dX11_isOrUnder_11 (by decide) (fun h => ?_) (fun h => ?_)
      · replace hf := it_t h hf
        exact hB19 xq0 xq1 _ _ _ hw (lv_sub hl [0, 1] rfl) hf
      · replace hf := it_n h hf
        refine lv_iload_n hx hb dX11_isOrUnder_14 rfl (lv_at hl 1 rfl) ?_
        refine lv_iconst (v := 2) hx hb dX11_isOrUnder_15 (by decide) ?_
        refine lv_icmp_eq (tgt := 29) hx hb dX11_isOrUnder_16 (by decide) (fun h => ?_) (fun h => ?_)
        · replace hf := it_t h hf
          refine lv_iconst (v := 1) hx hb dX11_isOrUnder_29 (by decide) ?_
          refine lv_goto (tgt := 34) hx hb dX11_isOrUnder_30 (by decide) ?_
          exact zretz E hw hr hlk (b_e hf (by rfl)) rfl dX11_isOrUnder_34
        · replace hf := it_f h hf
          exact hB19 xq0 xq1 _ _ _ hw (lv_sub hl [0, 1] rfl) hf
set_option maxRecDepth 100000 in
set_option maxHeartbeats 4000000 in
theorem c_X9_compares {l : Launch} {D : va_G} {cy : Cy} {ad : Nat → Nat} {A : Nat → Prop} (hA : okAd 97 ad A) (xq1 : Int32) (xq2 : Int32) (xq3 : Int32) (σ : Sg) {r : Bool} (hf : f_X9_compares xq1 xq2 xq3 σ = some r) : Met l yX9_compares (.code yX9_compares cX9_compares 6 (some .boolean) :: TT) ({ frames := 0, cells := 0, slots := 0, locals := 0 } : Room) (zPc D cy 97 (celC ad cy) ad A [.ref (ad 34), .int xq1, .int xq2, .int xq3] σ) (zQi D 97 (celC ad cy) ad A (b2i r) σ) 0 0 A := by
  refine zofW (by decide) hA (Nat.le_of_ble_eq_true rfl) ?_
  intro p e s m args below meth c ls E hw hr hlk hl
  have E : ZE p s m args c cX9_compares 6 "KiteSummons$Rules" D cy 97 ad A := E
  have hx := E.hx
  have hb := E.hb
  have hl : lv_has ls 6 [(0, .ref (ad 34)), (1, .int xq1), (2, .int xq2), (3, .int xq3)] := hl
  have hB58 : ∀ (xq1 : Int32) (xq4 : Int32) (tq0 : Int32) (H : Heap) (locs : List Loc) (ls : Array Slot), ZS D 97 (celC ad cy) ad A s σ H locs → lv_has ls 6 [(1, .int xq1), (4, .int xq4)] → f_X9_compares_b58 xq1 xq4 tq0 σ = some r → W p l e ({ frames := 0, cells := 0, slots := 0, locals := 0 } : Room) s m args below meth c H locs 0 0 (MQ below (zQi D 97 (celC ad cy) ad A (b2i r) σ) args s 0 0 A) (F0 m 58 ls [.int tq0]) := by
    intro xq1 xq4 tq0 H locs ls hw hl hf
    unfold f_X9_compares_b58 at hf
    refine lv_istore (lv' := [(5, .int tq0), (1, .int xq1), (4, .int xq4)]) hx hb dX9_compares_58 hl (by decide) rfl (fun ls hl => ?_)
    refine lv_iload_n hx hb dX9_compares_60 rfl (lv_at hl 1 rfl) ?_
    refine lv_bipush (v := 23) hx hb dX9_compares_61 (by decide) ?_
    refine lv_icmp_ne (tgt := 81) hx hb dX9_compares_63 (by decide) (fun h => ?_) (fun h => ?_)
    · replace hf := it_t h hf
      refine lv_iload_n hx hb dX9_compares_81 rfl (lv_at hl 1 rfl) ?_
      refine lv_bipush (v := 24) hx hb dX9_compares_82 (by decide) ?_
      refine lv_icmp_ne (tgt := 102) hx hb dX9_compares_84 (by decide) (fun h => ?_) (fun h => ?_)
      · replace hf := it_t h hf
        refine lv_iload hx hb dX9_compares_102 (lv_at hl 2 rfl) ?_
        refine lv_iload hx hb dX9_compares_104 (lv_at hl 0 rfl) ?_
        refine lv_icmp_le (tgt := 113) hx hb dX9_compares_106 (by decide) (fun h => ?_) (fun h => ?_)
        · replace hf := it_t h hf
          refine lv_iconst (v := 0) hx hb dX9_compares_113 (by decide) ?_
          exact zretz E hw hr hlk (b_e (rt_1 hf) (by rfl)) rfl dX9_compares_114
        · replace hf := it_f h hf
          refine lv_iconst (v := 1) hx hb dX9_compares_109 (by decide) ?_
          refine lv_goto (tgt := 114) hx hb dX9_compares_110 (by decide) ?_
          exact zretz E hw hr hlk (b_e (rt_1 hf) (by rfl)) rfl dX9_compares_114
      · replace hf := it_n h hf
        refine lv_iload hx hb dX9_compares_87 (lv_at hl 2 rfl) ?_
        refine lv_iload hx hb dX9_compares_89 (lv_at hl 0 rfl) ?_
        refine lv_icmp_ne (tgt := 98) hx hb dX9_compares_91 (by decide) (fun h => ?_) (fun h => ?_)
        · replace hf := it_t h hf
          refine lv_iconst (v := 0) hx hb dX9_compares_98 (by decide) ?_
          refine lv_goto (tgt := 114) hx hb dX9_compares_99 (by decide) ?_
          exact zretz E hw hr hlk (b_e (rt_1 hf) (by rfl)) rfl dX9_compares_114
        · replace hf := it_n h hf
          refine lv_iconst (v := 1) hx hb dX9_compares_94 (by decide) ?_
          refine lv_goto (tgt := 114) hx hb dX9_compares_95 (by decide) ?_
          exact zretz E hw hr hlk (b_e (rt_1 hf) (by rfl)) rfl dX9_compares_114
    · replace hf := it_n h hf
      refine lv_iload hx hb dX9_compares_66 (lv_at hl 2 rfl) ?_
      refine lv_iload hx hb dX9_compares_68 (lv_at hl 0 rfl) ?_
      refine lv_icmp_ge (tgt := 77) hx hb dX9_compares_70 (by decide) (fun h => ?_) (fun h => ?_)
      · replace hf := it_t h hf
        refine lv_iconst (v := 0) hx hb dX9_compares_77 (by decide) ?_
        refine lv_goto (tgt := 114) hx hb dX9_compares_78 (by decide) ?_
        exact zretz E hw hr hlk (b_e (rt_1 hf) (by rfl)) rfl dX9_compares_114
      · replace hf := it_f h hf
        refine lv_iconst (v := 1) hx hb dX9_compares_73 (by decide) ?_
        refine lv_goto (tgt := 114) hx hb dX9_compares_74 (by decide) ?_
        exact zretz E hw hr hlk (b_e (rt_1 hf) (by rfl)) rfl dX9_compares_114
  have hB28 : ∀ (xq1 : Int32) (xq3 : Int32) (tq0 : Int32) (H : Heap) (locs : List Loc) (ls : Array Slot), ZS D 97 (celC ad cy) ad A s σ H locs → lv_has ls 6 [(0, .ref (ad 34)), (1, .int xq1), (3, .int xq3)] → f_X9_compares_b28 xq1 xq3 tq0 σ = some r → W p l e ({ frames := 0, cells := 0, slots := 0, locals := 0 } : Room) s m args below meth c H locs 0 0 (MQ below (zQi D 97 (celC ad cy) ad A (b2i r) σ) args s 0 0 A) (F0 m 28 ls [.int tq0]) := by
    intro xq1 xq3 tq0 H locs ls hw hl hf
    unfold f_X9_compares_b28 at hf
    refine lv_istore (lv' := [(4, .int tq0), (0, .ref (ad 34)), (1, .int xq1), (3, .int xq3)]) hx hb dX9_compares_28 hl (by decide) rfl (fun ls hl => ?_)
    refine lv_iload_n hx hb dX9_compares_30 rfl (lv_at hl 3 rfl) ?_
    refine lv_sipush (v := 10000) hx hb dX9_compares_31 (by decide) ?_
    refine lv_icmp_lt (tgt := 57) hx hb dX9_compares_34 (by decide) (fun h => ?_) (fun h => ?_)
    · replace hf := it_t h hf
      refine lv_iload_n hx hb dX9_compares_57 rfl (lv_at hl 3 rfl) ?_
      exact hB58 xq1 tq0 xq3 _ _ _ hw (lv_sub hl [2, 0] rfl) hf
    · replace hf := it_f h hf
      refine lv_iload_n hx hb dX9_compares_37 rfl (lv_at hl 3 rfl) ?_
      refine lv_sipush (v := 10005) hx hb dX9_compares_38 (by decide) ?_
      refine lv_icmp_ge (tgt := 57) hx hb dX9_compares_41 (by decide) (fun h => ?_) (fun h => ?_)
      · replace hf := it_t h hf
        refine lv_iload_n hx hb dX9_compares_57 rfl (lv_at hl 3 rfl) ?_
        exact hB58 xq1 tq0 xq3 _ _ _ hw (lv_sub hl [2, 0] rfl) hf
      · replace hf := it_f h hf
        refine lv_aload_n hx hb dX9_compares_44 rfl (lv_at hl 1 rfl) ?_
        refine zget E hw (Nat.le_of_ble_eq_true rfl) (ceC_34 ad cy _) rfl inX9 7 (by decide) k1_54 (fun _ h => h) rfl dX9_compares_45 ?_
        refine lv_iload_n hx hb dX9_compares_48 rfl (lv_at hl 3 rfl) ?_
        refine lv_sipush (v := 10000) hx hb dX9_compares_49 (by decide) ?_
        refine lv_isub hx hb dX9_compares_52 ?_
        obtain ⟨vq2, hvq2, hf⟩ := bd_e hf
        refine zaldr E hw (Nat.le_of_ble_eq_true rfl) (ceC_40 ad cy) hvq2 dX9_compares_53 ?_
        refine lv_goto (tgt := 58) hx hb dX9_compares_54 (by decide) ?_
        exact hB58 xq1 tq0 vq2 _ _ _ hw (lv_sub hl [2, 0] rfl) hf
  unfold f_X9_compares at hf
  refine lv_iload_n hx hb dX9_compares_0 rfl (lv_at hl 2 rfl) ?_
  refine lv_sipush (v := 10000) hx hb dX9_compares_1 (by decide) ?_
  refine lv_icmp_lt (tgt := 27) hx hb dX9_compares_4 (by decide) (fun h => ?_) (fun h => ?_)
  · replace hf := it_t h hf
    refine lv_iload_n hx hb dX9_compares_27 rfl (lv_at hl 2 rfl) ?_
    exact hB28 xq1 xq3 xq2 _ _ _ hw (lv_sub hl [0, 1, 3] rfl) hf
  · replace hf := it_f h hf
    refine lv_iload_n hx hb dX9_compares_7 rfl (lv_at hl 2 rfl) ?_
    refine lv_sipush (v := 10005) hx hb dX9_compares_8 (by decide) ?_
    refine lv_icmp_ge (tgt := 27) hx hb dX9_compares_11 (by decide) (fun h => ?_) (fun h => ?_)
    · replace hf := it_t h hf
      refine lv_iload_n hx hb dX9_compares_27 rfl (lv_at hl 2 rfl) ?_
      exact hB28 xq1 xq3 xq2 _ _ _ hw (lv_sub hl [0, 1, 3] rfl) hf
    · replace hf := it_f h hf
      refine lv_aload_n hx hb dX9_compares_14 rfl (lv_at hl 0 rfl) ?_
      refine zget E hw (Nat.le_of_ble_eq_true rfl) (ceC_34 ad cy _) rfl inX9 7 (by decide) k1_54 (fun _ h => h) rfl dX9_compares_15 ?_
      refine lv_iload_n hx hb dX9_compares_18 rfl (lv_at hl 2 rfl) ?_
      refine lv_sipush (v := 10000) hx hb dX9_compares_19 (by decide) ?_
      refine lv_isub hx hb dX9_compares_22 ?_
      obtain ⟨vq1, hvq1, hf⟩ := bd_e hf
      refine zaldr E hw (Nat.le_of_ble_eq_true rfl) (ceC_40 ad cy) hvq1 dX9_compares_23 ?_
      refine lv_goto (tgt := 28) hx hb dX9_compares_24 (by decide) ?_
      exact hB28 xq1 xq3 vq1 _ _ _ hw (lv_sub hl [0, 1, 3] rfl) hf
set_option maxRecDepth 100000 in
set_option maxHeartbeats 4000000 in
theorem c_X9_isSo {l : Launch} {D : va_G} {cy : Cy} {ad : Nat → Nat} {A : Nat → Prop} (hA : okAd 97 ad A) (xq1 : Int32) (σ : Sg) {r : Bool} (hf : f_X9_isSo xq1 σ = some r) : Met l yX9_isSo (.code yX9_isSo cX9_isSo 5 (some .boolean) :: TT) ({ frames := 1, cells := 0, slots := 0, locals := 25 } : Room) (zPc D cy 97 (celC ad cy) ad A [.ref (ad 34), .int xq1] σ) (zQi D 97 (celC ad cy) ad A (b2i r) σ) 0 0 A := by
  refine zofW (by decide) hA (Nat.le_of_ble_eq_true rfl) ?_
  intro p e s m args below meth c ls E hw hr hlk hl
  have E : ZE p s m args c cX9_isSo 5 "KiteSummons$Rules" D cy 97 ad A := E
  have hx := E.hx
  have hb := E.hb
  have hl : lv_has ls 5 [(0, .ref (ad 34)), (1, .int xq1)] := hl
  have hB9 : ∀ (xq1 : Int32) (kq9 : Int32 → Int32 → Option Bool) (hkq9 : ∀ (xq2 : Int32) (xq3 : Int32) (H : Heap) (locs : List Loc) (ls : Array Slot), ZS D 97 (celC ad cy) ad A s σ H locs → lv_has ls 5 [(0, .ref (ad 34)), (1, .int xq1), (2, .int xq2), (3, .int xq3)] → kq9 xq2 xq3 = some r → W p l e ({ frames := 1, cells := 0, slots := 0, locals := 25 } : Room) s m args below meth c H locs 0 0 (MQ below (zQi D 97 (celC ad cy) ad A (b2i r) σ) args s 0 0 A) (F0 m 9 ls [])) (xq2 : Int32) (xq3 : Int32) (H : Heap) (locs : List Loc) (ls : Array Slot), ZS D 97 (celC ad cy) ad A s σ H locs → lv_has ls 5 [(0, .ref (ad 34)), (1, .int xq1), (2, .int xq2), (3, .int xq3)] → f_X9_isSo_b9 kq9 xq1 σ xq2 xq3 = some r → W p l e ({ frames := 1, cells := 0, slots := 0, locals := 25 } : Room) s m args below meth c H locs 0 0 (MQ below (zQi D 97 (celC ad cy) ad A (b2i r) σ) args s 0 0 A) (F0 m 9 ls []) := by
    intro xq1 kq9 hkq9 xq2 xq3 H locs ls hw hl hf
    unfold f_X9_isSo_b9 at hf
    refine lv_iload_n hx hb dX9_isSo_9 rfl (lv_at hl 3 rfl) ?_
    refine lv_aload_n hx hb dX9_isSo_10 rfl (lv_at hl 0 rfl) ?_
    refine zget E hw (Nat.le_of_ble_eq_true rfl) (ceC_34 ad cy _) rfl inX9 5 (by decide) k1_52 (fun _ h => h) rfl dX9_isSo_11 ?_
    refine lv_iload_n hx hb dX9_isSo_14 rfl (lv_at hl 1 rfl) ?_
    obtain ⟨vq2, hvq2, hf⟩ := bd_e hf
    refine zaldr E hw (Nat.le_of_ble_eq_true rfl) (ceC_38 ad cy) hvq2 dX9_isSo_15 ?_
    refine lv_icmp_ge (tgt := 145) hx hb dX9_isSo_16 (by decide) (fun h => ?_) (fun h => ?_)
    · replace hf := it_t h hf
      refine lv_iload_n hx hb dX9_isSo_145 rfl (lv_at hl 2 rfl) ?_
      refine lv_iconst (v := 1) hx hb dX9_isSo_146 (by decide) ?_
      refine lv_iand hx hb dX9_isSo_147 ?_
      refine lv_iconst (v := 1) hx hb dX9_isSo_148 (by decide) ?_
      refine lv_icmp_ne (tgt := 156) hx hb dX9_isSo_149 (by decide) (fun h => ?_) (fun h => ?_)
      · replace hf := it_t h hf
        refine lv_iconst (v := 0) hx hb dX9_isSo_156 (by decide) ?_
        exact zretz E hw hr hlk (b_e (rt_1 hf) (by rfl)) rfl dX9_isSo_157
      · replace hf := it_n h hf
        refine lv_iconst (v := 1) hx hb dX9_isSo_152 (by decide) ?_
        refine lv_goto (tgt := 157) hx hb dX9_isSo_153 (by decide) ?_
        exact zretz E hw hr hlk (b_e (rt_1 hf) (by rfl)) rfl dX9_isSo_157
    · replace hf := it_f h hf
      refine lv_aload_n hx hb dX9_isSo_19 rfl (lv_at hl 0 rfl) ?_
      refine zget E hw (Nat.le_of_ble_eq_true rfl) (ceC_34 ad cy _) rfl inX9 6 (by decide) k1_53 (fun _ h => h) rfl dX9_isSo_20 ?_
      refine lv_iload_n hx hb dX9_isSo_23 rfl (lv_at hl 3 rfl) ?_
      obtain ⟨vq3, hvq3, hf⟩ := bd_e hf
      refine zaldr E hw (Nat.le_of_ble_eq_true rfl) (ceC_39 ad cy) hvq3 dX9_isSo_24 ?_
      refine lv_istore (lv' := [(4, .int vq3), (0, .ref (ad 34)), (1, .int xq1), (2, .int xq2), (3, .int xq3)]) hx hb dX9_isSo_25 hl (by decide) rfl (fun ls hl => ?_)
      refine lv_iload hx hb dX9_isSo_27 (lv_at hl 0 rfl) ?_
      refine lv_bipush (v := 17) hx hb dX9_isSo_29 (by decide) ?_
      refine lv_icmp_ne (tgt := 41) hx hb dX9_isSo_31 (by decide) (fun h => ?_) (fun h => ?_)
      · replace hf := it_t h hf
        refine lv_iload hx hb dX9_isSo_41 (lv_at hl 0 rfl) ?_
        refine lv_bipush (v := 16) hx hb dX9_isSo_43 (by decide) ?_
        refine lv_icmp_ne (tgt := 71) hx hb dX9_isSo_45 (by decide) (fun h => ?_) (fun h => ?_)
        · replace hf := it_t h hf
          refine lv_iload hx hb dX9_isSo_71 (lv_at hl 0 rfl) ?_
          refine lv_bipush (v := 15) hx hb dX9_isSo_73 (by decide) ?_
          refine lv_icmp_ne (tgt := 89) hx hb dX9_isSo_75 (by decide) (fun h => ?_) (fun h => ?_)
          · replace hf := it_t h hf
            refine lv_iload_n hx hb dX9_isSo_89 rfl (lv_at hl 4 rfl) ?_
            refine lv_iconst (v := 2) hx hb dX9_isSo_90 (by decide) ?_
            refine lv_iadd hx hb dX9_isSo_91 ?_
            refine lv_aload_n hx hb dX9_isSo_92 rfl (lv_at hl 1 rfl) ?_
            refine zget E hw (Nat.le_of_ble_eq_true rfl) (ceC_34 ad cy _) rfl inX9 5 (by decide) k1_52 (fun _ h => h) rfl dX9_isSo_93 ?_
            refine lv_iload_n hx hb dX9_isSo_96 rfl (lv_at hl 2 rfl) ?_
            obtain ⟨vq4, hvq4, hf⟩ := bd_e hf
            refine zaldr E hw (Nat.le_of_ble_eq_true rfl) (ceC_38 ad cy) hvq4 dX9_isSo_97 ?_
            refine lv_icmp_ge (tgt := 139) hx hb dX9_isSo_98 (by decide) (fun h => ?_) (fun h => ?_)
            · replace hf := it_t h hf
              refine lv_iinc (v := (xq3 + 1)) (lv' := [(3, .int (xq3 + 1)), (4, .int vq3), (0, .ref (ad 34)), (1, .int xq1), (2, .int xq2)]) hx hb dX9_isSo_139 hl (k := 4) rfl (by rfl) (by decide) rfl (fun ls hl => ?_)
              refine lv_goto (tgt := 9) hx hb dX9_isSo_142 (by decide) ?_
              exact hkq9 xq2 (xq3 + 1) _ _ _ hw (lv_sub hl [2, 3, 4, 0] rfl) hf
            · replace hf := it_f h hf
              refine lv_iload_n hx hb dX9_isSo_101 rfl (lv_at hl 3 rfl) ?_
              refine lv_iconst (v := 1) hx hb dX9_isSo_102 (by decide) ?_
              refine zishl hx hb dX9_isSo_103 ?_
              refine lv_aload_n hx hb dX9_isSo_104 rfl (lv_at hl 1 rfl) ?_
              refine lv_iload hx hb dX9_isSo_105 (lv_at hl 0 rfl) ?_
              refine lv_aload_n hx hb dX9_isSo_107 rfl (lv_at hl 1 rfl) ?_
              refine zget E hw (Nat.le_of_ble_eq_true rfl) (ceC_34 ad cy _) rfl inX9 6 (by decide) k1_53 (fun _ h => h) rfl dX9_isSo_108 ?_
              refine lv_iload_n hx hb dX9_isSo_111 rfl (lv_at hl 4 rfl) ?_
              refine lv_iconst (v := 1) hx hb dX9_isSo_112 (by decide) ?_
              refine lv_iadd hx hb dX9_isSo_113 ?_
              obtain ⟨vq5, hvq5, hf⟩ := bd_e hf
              refine zaldr E hw (Nat.le_of_ble_eq_true rfl) (ceC_39 ad cy) hvq5 dX9_isSo_114 ?_
              refine lv_aload_n hx hb dX9_isSo_115 rfl (lv_at hl 1 rfl) ?_
              refine zget E hw (Nat.le_of_ble_eq_true rfl) (ceC_34 ad cy _) rfl inX9 6 (by decide) k1_53 (fun _ h => h) rfl dX9_isSo_116 ?_
              refine lv_iload_n hx hb dX9_isSo_119 rfl (lv_at hl 4 rfl) ?_
              refine lv_iconst (v := 2) hx hb dX9_isSo_120 (by decide) ?_
              refine lv_iadd hx hb dX9_isSo_121 ?_
              obtain ⟨vq6, hvq6, hf⟩ := bd_e hf
              refine zaldr E hw (Nat.le_of_ble_eq_true rfl) (ceC_39 ad cy) hvq6 dX9_isSo_122 ?_
              obtain ⟨vq7, hc, hf⟩ := bd_e hf
              refine zcali hw (va_runV (As := [.int vq3, .int vq5, .int vq6]) (rest := [.int (shl32 xq2 1)]) E.fix (c_X9_compares (l := l) hA vq3 vq5 vq6 σ hc) (zcV E k3_59 k1_3 k3_56 k3_58 kp1_3 mf_X9_compares rfl rfl ⟨Nat.le_of_ble_eq_true rfl, Nat.le_of_ble_eq_true rfl⟩) (zPreV E hw (Nat.le_of_ble_eq_true rfl) (ceC_34 ad cy _) rfl _) rfl rfl hl.1 rfl (lv_room (Nat.le_of_ble_eq_true rfl)) dX9_isSo_123 ⟨Nat.zero_le _, Nat.zero_le _⟩) (fun H locs hw => ?_)
              refine lv_if_eq (tgt := 133) hx hb dX9_isSo_126 (by decide) (fun h => ?_) (fun h => ?_)
              · replace hf := it_f (b2i_0 h) hf
                refine lv_iconst (v := 0) hx hb dX9_isSo_133 (by decide) ?_
                refine lv_ior hx hb dX9_isSo_134 ?_
                refine lv_topi (fun vq8 evq8 => ?_)
                replace hf := lt_i evq8 hf
                refine lv_istore_n (lv' := [(2, .int vq8), (4, .int vq3), (0, .ref (ad 34)), (1, .int xq1), (3, .int xq3)]) hx hb dX9_isSo_135 rfl hl (by decide) rfl (fun ls hl => ?_)
                refine lv_iinc (v := (xq3 + 2)) (lv' := [(3, .int (xq3 + 2)), (2, .int vq8), (4, .int vq3), (0, .ref (ad 34)), (1, .int xq1)]) hx hb dX9_isSo_136 hl (k := 4) rfl (by rfl) (by decide) rfl (fun ls hl => ?_)
                refine lv_iinc (v := ((xq3 + 2) + 1)) (lv' := [(3, .int ((xq3 + 2) + 1)), (2, .int vq8), (4, .int vq3), (0, .ref (ad 34)), (1, .int xq1)]) hx hb dX9_isSo_139 hl (k := 0) rfl (by rfl) (by decide) rfl (fun ls hl => ?_)
                refine lv_goto (tgt := 9) hx hb dX9_isSo_142 (by decide) ?_
                exact hkq9 vq8 ((xq3 + 2) + 1) _ _ _ hw (lv_sub hl [3, 4, 1, 0] rfl) hf
              · replace hf := it_t (b2i_n h) hf
                refine lv_iconst (v := 1) hx hb dX9_isSo_129 (by decide) ?_
                refine lv_goto (tgt := 134) hx hb dX9_isSo_130 (by decide) ?_
                refine lv_ior hx hb dX9_isSo_134 ?_
                refine lv_topi (fun vq9 evq9 => ?_)
                replace hf := lt_i evq9 hf
                refine lv_istore_n (lv' := [(2, .int vq9), (4, .int vq3), (0, .ref (ad 34)), (1, .int xq1), (3, .int xq3)]) hx hb dX9_isSo_135 rfl hl (by decide) rfl (fun ls hl => ?_)
                refine lv_iinc (v := (xq3 + 2)) (lv' := [(3, .int (xq3 + 2)), (2, .int vq9), (4, .int vq3), (0, .ref (ad 34)), (1, .int xq1)]) hx hb dX9_isSo_136 hl (k := 4) rfl (by rfl) (by decide) rfl (fun ls hl => ?_)
                refine lv_iinc (v := ((xq3 + 2) + 1)) (lv' := [(3, .int ((xq3 + 2) + 1)), (2, .int vq9), (4, .int vq3), (0, .ref (ad 34)), (1, .int xq1)]) hx hb dX9_isSo_139 hl (k := 0) rfl (by rfl) (by decide) rfl (fun ls hl => ?_)
                refine lv_goto (tgt := 9) hx hb dX9_isSo_142 (by decide) ?_
                exact hkq9 vq9 ((xq3 + 2) + 1) _ _ _ hw (lv_sub hl [3, 4, 1, 0] rfl) hf
          · replace hf := it_n h hf
            refine lv_iload_n hx hb dX9_isSo_78 rfl (lv_at hl 3 rfl) ?_
            refine lv_iconst (v := 1) hx hb dX9_isSo_79 (by decide) ?_
            refine ziushr hx hb dX9_isSo_80 ?_
            refine lv_iload_n hx hb dX9_isSo_81 rfl (lv_at hl 3 rfl) ?_
            refine lv_iconst (v := 1) hx hb dX9_isSo_82 (by decide) ?_
            refine lv_iand hx hb dX9_isSo_83 ?_
            refine lv_ior hx hb dX9_isSo_84 ?_
            refine lv_topi (fun vq10 evq10 => ?_)
            replace hf := lt_i evq10 hf
            refine lv_istore_n (lv' := [(2, .int vq10), (4, .int vq3), (0, .ref (ad 34)), (1, .int xq1), (3, .int xq3)]) hx hb dX9_isSo_85 rfl hl (by decide) rfl (fun ls hl => ?_)
            refine lv_goto (tgt := 139) hx hb dX9_isSo_86 (by decide) ?_
            refine lv_iinc (v := (xq3 + 1)) (lv' := [(3, .int (xq3 + 1)), (2, .int vq10), (4, .int vq3), (0, .ref (ad 34)), (1, .int xq1)]) hx hb dX9_isSo_139 hl (k := 4) rfl (by rfl) (by decide) rfl (fun ls hl => ?_)
            refine lv_goto (tgt := 9) hx hb dX9_isSo_142 (by decide) ?_
            exact hkq9 vq10 (xq3 + 1) _ _ _ hw (lv_sub hl [3, 4, 1, 0] rfl) hf
        · replace hf := it_n h hf
          refine lv_iload_n hx hb dX9_isSo_48 rfl (lv_at hl 3 rfl) ?_
          refine lv_iconst (v := 1) hx hb dX9_isSo_49 (by decide) ?_
          refine lv_iand hx hb dX9_isSo_50 ?_
          refine lv_iconst (v := 1) hx hb dX9_isSo_51 (by decide) ?_
          refine lv_icmp_ne (tgt := 61) hx hb dX9_isSo_52 (by decide) (fun h => ?_) (fun h => ?_)
          · replace hf := it_t h hf
            refine lv_iload_n hx hb dX9_isSo_61 rfl (lv_at hl 3 rfl) ?_
            refine lv_iconst (v := 1) hx hb dX9_isSo_62 (by decide) ?_
            refine ziushr hx hb dX9_isSo_63 ?_
            refine lv_bipush (v := (-2)) hx hb dX9_isSo_64 (by decide) ?_
            refine lv_iand hx hb dX9_isSo_66 ?_
            refine lv_topi (fun vq11 evq11 => ?_)
            replace hf := lt_i evq11 hf
            refine lv_istore_n (lv' := [(2, .int vq11), (4, .int vq3), (0, .ref (ad 34)), (1, .int xq1), (3, .int xq3)]) hx hb dX9_isSo_67 rfl hl (by decide) rfl (fun ls hl => ?_)
            refine lv_goto (tgt := 139) hx hb dX9_isSo_68 (by decide) ?_
            refine lv_iinc (v := (xq3 + 1)) (lv' := [(3, .int (xq3 + 1)), (2, .int vq11), (4, .int vq3), (0, .ref (ad 34)), (1, .int xq1)]) hx hb dX9_isSo_139 hl (k := 4) rfl (by rfl) (by decide) rfl (fun ls hl => ?_)
            refine lv_goto (tgt := 9) hx hb dX9_isSo_142 (by decide) ?_
            exact hkq9 vq11 (xq3 + 1) _ _ _ hw (lv_sub hl [3, 4, 1, 0] rfl) hf
          · replace hf := it_n h hf
            refine lv_iload_n hx hb dX9_isSo_55 rfl (lv_at hl 3 rfl) ?_
            refine lv_iconst (v := 1) hx hb dX9_isSo_56 (by decide) ?_
            refine ziushr hx hb dX9_isSo_57 ?_
            refine lv_goto (tgt := 67) hx hb dX9_isSo_58 (by decide) ?_
            refine lv_topi (fun vq12 evq12 => ?_)
            replace hf := lt_i evq12 hf
            refine lv_istore_n (lv' := [(2, .int vq12), (4, .int vq3), (0, .ref (ad 34)), (1, .int xq1), (3, .int xq3)]) hx hb dX9_isSo_67 rfl hl (by decide) rfl (fun ls hl => ?_)
            refine lv_goto (tgt := 139) hx hb dX9_isSo_68 (by decide) ?_
            refine lv_iinc (v := (xq3 + 1)) (lv' := [(3, .int (xq3 + 1)), (2, .int vq12), (4, .int vq3), (0, .ref (ad 34)), (1, .int xq1)]) hx hb dX9_isSo_139 hl (k := 4) rfl (by rfl) (by decide) rfl (fun ls hl => ?_)
            refine lv_goto (tgt := 9) hx hb dX9_isSo_142 (by decide) ?_
            exact hkq9 vq12 (xq3 + 1) _ _ _ hw (lv_sub hl [3, 4, 1, 0] rfl) hf
      · replace hf := it_n h hf
        refine lv_iload_n hx hb dX9_isSo_34 rfl (lv_at hl 3 rfl) ?_
        refine lv_iconst (v := 1) hx hb dX9_isSo_35 (by decide) ?_
        refine lv_ixor hx hb dX9_isSo_36 ?_
        refine lv_topi (fun vq13 evq13 => ?_)
        replace hf := lt_i evq13 hf
        refine lv_istore_n (lv' := [(2, .int vq13), (4, .int vq3), (0, .ref (ad 34)), (1, .int xq1), (3, .int xq3)]) hx hb dX9_isSo_37 rfl hl (by decide) rfl (fun ls hl => ?_)
        refine lv_goto (tgt := 139) hx hb dX9_isSo_38 (by decide) ?_
        refine lv_iinc (v := (xq3 + 1)) (lv' := [(3, .int (xq3 + 1)), (2, .int vq13), (4, .int vq3), (0, .ref (ad 34)), (1, .int xq1)]) hx hb dX9_isSo_139 hl (k := 4) rfl (by rfl) (by decide) rfl (fun ls hl => ?_)
        refine lv_goto (tgt := 9) hx hb dX9_isSo_142 (by decide) ?_
        exact hkq9 vq13 (xq3 + 1) _ _ _ hw (lv_sub hl [3, 4, 1, 0] rfl) hf
  have hL9 : ∀ (xq1 : Int32) (n : Nat) (xq2 : Int32) (xq3 : Int32) (H : Heap) (locs : List Loc) (ls : Array Slot), ZS D 97 (celC ad cy) ad A s σ H locs → lv_has ls 5 [(0, .ref (ad 34)), (1, .int xq1), (2, .int xq2), (3, .int xq3)] → f_X9_isSo_l9 xq1 σ n xq2 xq3 = some r → W p l e ({ frames := 1, cells := 0, slots := 0, locals := 25 } : Room) s m args below meth c H locs 0 0 (MQ below (zQi D 97 (celC ad cy) ad A (b2i r) σ) args s 0 0 A) (F0 m 9 ls []) := by
    intro xq1 n
    induction n with
    | zero =>
      intro xq2 xq3 H locs ls hw hl hf
      exact nn_e hf
    | succ n ih =>
      intro xq2 xq3 H locs ls hw hl hf
      exact hB9 xq1 (f_X9_isSo_l9 xq1 σ n) ih xq2 xq3 H locs ls hw hl hf
  unfold f_X9_isSo at hf
  refine lv_iconst (v := 1) hx hb dX9_isSo_0 (by decide) ?_
  refine lv_istore_n (lv' := [(2, .int 1), (0, .ref (ad 34)), (1, .int xq1)]) hx hb dX9_isSo_1 rfl hl (by decide) rfl (fun ls hl => ?_)
  refine lv_aload_n hx hb dX9_isSo_2 rfl (lv_at hl 1 rfl) ?_
  refine zget E hw (Nat.le_of_ble_eq_true rfl) (ceC_34 ad cy _) rfl inX9 4 (by decide) k1_51 (fun _ h => h) rfl dX9_isSo_3 ?_
  refine lv_iload_n hx hb dX9_isSo_6 rfl (lv_at hl 2 rfl) ?_
  obtain ⟨vq1, hvq1, hf⟩ := bd_e hf
  refine zaldr E hw (Nat.le_of_ble_eq_true rfl) (ceC_37 ad cy) hvq1 dX9_isSo_7 ?_
  refine lv_istore_n (lv' := [(3, .int vq1), (2, .int 1), (0, .ref (ad 34)), (1, .int xq1)]) hx hb dX9_isSo_8 rfl hl (by decide) rfl (fun ls hl => ?_)
  exact hL9 xq1 400 1 vq1 _ _ _ hw (lv_sub hl [2, 3, 1, 0] rfl) hf
set_option maxRecDepth 100000 in
set_option maxHeartbeats 4000000 in
theorem c_X9_doFor {l : Launch} {D : va_G} {cy : Cy} {ad : Nat → Nat} {A : Nat → Prop} (hA : okAd 97 ad A) (xq1 : Int32) (σ : Sg) {r : Int32} (hf : f_X9_doFor xq1 σ = some r) : Met l yX9_doFor (.code yX9_doFor cX9_doFor 3 (some .int) :: TT) ({ frames := 2, cells := 0, slots := 0, locals := 49 } : Room) (zPc D cy 97 (celC ad cy) ad A [.ref (ad 34), .int xq1] σ) (zQi D 97 (celC ad cy) ad A r σ) 0 0 A := by
  refine zofW (by decide) hA (Nat.le_of_ble_eq_true rfl) ?_
  intro p e s m args below meth c ls E hw hr hlk hl
  have E : ZE p s m args c cX9_doFor 3 "KiteSummons$Rules" D cy 97 ad A := E
  have hx := E.hx
  have hb := E.hb
  have hl : lv_has ls 3 [(0, .ref (ad 34)), (1, .int xq1)] := hl
  have hB2 : ∀ (xq1 : Int32) (kq2 : Int32 → Option Int32) (hkq2 : ∀ (xq2 : Int32) (H : Heap) (locs : List Loc) (ls : Array Slot), ZS D 97 (celC ad cy) ad A s σ H locs → lv_has ls 3 [(0, .ref (ad 34)), (1, .int xq1), (2, .int xq2)] → kq2 xq2 = some r → W p l e ({ frames := 2, cells := 0, slots := 0, locals := 49 } : Room) s m args below meth c H locs 0 0 (MQ below (zQi D 97 (celC ad cy) ad A r σ) args s 0 0 A) (F0 m 2 ls [])) (xq2 : Int32) (H : Heap) (locs : List Loc) (ls : Array Slot), ZS D 97 (celC ad cy) ad A s σ H locs → lv_has ls 3 [(0, .ref (ad 34)), (1, .int xq1), (2, .int xq2)] → f_X9_doFor_b2 kq2 xq1 σ xq2 = some r → W p l e ({ frames := 2, cells := 0, slots := 0, locals := 49 } : Room) s m args below meth c H locs 0 0 (MQ below (zQi D 97 (celC ad cy) ad A r σ) args s 0 0 A) (F0 m 2 ls []) := by
    intro xq1 kq2 hkq2 xq2 H locs ls hw hl hf
    unfold f_X9_doFor_b2 at hf
    refine lv_iload_n hx hb dX9_doFor_2 rfl (lv_at hl 2 rfl) ?_
    refine lv_aload_n hx hb dX9_doFor_3 rfl (lv_at hl 0 rfl) ?_
    refine zget E hw (Nat.le_of_ble_eq_true rfl) (ceC_34 ad cy _) rfl inX9 0 (by decide) k1_44 (fun _ h => h) rfl dX9_doFor_4 ?_
    refine lv_icmp_ge (tgt := 44) hx hb dX9_doFor_7 (by decide) (fun h => ?_) (fun h => ?_)
    · replace hf := it_t h hf
      refine lv_iconst (v := 0) hx hb dX9_doFor_44 (by decide) ?_
      exact zreti E hw hr hlk (rt_1 hf) rfl dX9_doFor_45
    · replace hf := it_f h hf
      refine lv_iload_n hx hb dX9_doFor_10 rfl (lv_at hl 1 rfl) ?_
      refine lv_aload_n hx hb dX9_doFor_11 rfl (lv_at hl 0 rfl) ?_
      refine zget E hw (Nat.le_of_ble_eq_true rfl) (ceC_34 ad cy _) rfl inX9 2 (by decide) k1_49 (fun _ h => h) rfl dX9_doFor_12 ?_
      refine lv_iload_n hx hb dX9_doFor_15 rfl (lv_at hl 2 rfl) ?_
      obtain ⟨vq1, hvq1, hf⟩ := bd_e hf
      refine zaldr E hw (Nat.le_of_ble_eq_true rfl) (ceC_35 ad cy) hvq1 dX9_doFor_16 ?_
      refine zcali hw (va_runSN (As := [.int xq1, .int vq1]) (rest := []) E.fix (c_X11_isOrUnder (l := l) hA xq1 vq1 σ rfl) (zcN E k3_51 k1_1 k3_49 k3_50 mf_X11_isOrUnder rfl rfl ⟨Nat.le_of_ble_eq_true rfl, Nat.le_of_ble_eq_true rfl⟩) (zPre E hw _) rfl rfl hl.1 rfl (lv_room (Nat.le_of_ble_eq_true rfl)) dX9_doFor_17 ⟨Nat.zero_le _, Nat.zero_le _⟩) (fun H locs hw => ?_)
      refine lv_if_eq (tgt := 38) hx hb dX9_doFor_20 (by decide) (fun h => ?_) (fun h => ?_)
      · replace hf := it_f (b2i_0 h) hf
        refine lv_iinc (v := (xq2 + 1)) (lv' := [(2, .int (xq2 + 1)), (0, .ref (ad 34)), (1, .int xq1)]) hx hb dX9_doFor_38 hl (k := 2) rfl (by rfl) (by decide) rfl (fun ls hl => ?_)
        refine lv_goto (tgt := 2) hx hb dX9_doFor_41 (by decide) ?_
        exact hkq2 (xq2 + 1) _ _ _ hw (lv_sub hl [1, 2, 0] rfl) hf
      · replace hf := it_t (b2i_n h) hf
        refine lv_aload_n hx hb dX9_doFor_23 rfl (lv_at hl 0 rfl) ?_
        refine lv_iload_n hx hb dX9_doFor_24 rfl (lv_at hl 2 rfl) ?_
        obtain ⟨vq2, hc, hf⟩ := bd_e hf
        refine zcali hw (va_runV (As := [.int xq2]) (rest := []) E.fix (c_X9_isSo (l := l) hA xq2 σ hc) (zcV E k3_55 k1_3 k3_52 k3_54 kp1_2 mf_X9_isSo rfl rfl ⟨Nat.le_of_ble_eq_true rfl, Nat.le_of_ble_eq_true rfl⟩) (zPreV E hw (Nat.le_of_ble_eq_true rfl) (ceC_34 ad cy _) rfl _) rfl rfl hl.1 rfl (lv_room (Nat.le_of_ble_eq_true rfl)) dX9_doFor_25 ⟨Nat.zero_le _, Nat.zero_le _⟩) (fun H locs hw => ?_)
        refine lv_if_eq (tgt := 38) hx hb dX9_doFor_28 (by decide) (fun h => ?_) (fun h => ?_)
        · replace hf := it_f (b2i_0 h) hf
          refine lv_iinc (v := (xq2 + 1)) (lv' := [(2, .int (xq2 + 1)), (0, .ref (ad 34)), (1, .int xq1)]) hx hb dX9_doFor_38 hl (k := 2) rfl (by rfl) (by decide) rfl (fun ls hl => ?_)
          refine lv_goto (tgt := 2) hx hb dX9_doFor_41 (by decide) ?_
          exact hkq2 (xq2 + 1) _ _ _ hw (lv_sub hl [1, 2, 0] rfl) hf
        · replace hf := it_t (b2i_n h) hf
          refine lv_aload_n hx hb dX9_doFor_31 rfl (lv_at hl 0 rfl) ?_
          refine zget E hw (Nat.le_of_ble_eq_true rfl) (ceC_34 ad cy _) rfl inX9 3 (by decide) k1_50 (fun _ h => h) rfl dX9_doFor_32 ?_
          refine lv_iload_n hx hb dX9_doFor_35 rfl (lv_at hl 2 rfl) ?_
          obtain ⟨vq3, hvq3, hf⟩ := bd_e hf
          refine zaldr E hw (Nat.le_of_ble_eq_true rfl) (ceC_36 ad cy) hvq3 dX9_doFor_36 ?_
          exact zreti E hw hr hlk (rt_1 hf) rfl dX9_doFor_37
  have hL2 : ∀ (xq1 : Int32) (n : Nat) (xq2 : Int32) (H : Heap) (locs : List Loc) (ls : Array Slot), ZS D 97 (celC ad cy) ad A s σ H locs → lv_has ls 3 [(0, .ref (ad 34)), (1, .int xq1), (2, .int xq2)] → f_X9_doFor_l2 xq1 σ n xq2 = some r → W p l e ({ frames := 2, cells := 0, slots := 0, locals := 49 } : Room) s m args below meth c H locs 0 0 (MQ below (zQi D 97 (celC ad cy) ad A r σ) args s 0 0 A) (F0 m 2 ls []) := by
    intro xq1 n
    induction n with
    | zero =>
      intro xq2 H locs ls hw hl hf
      exact nn_e hf
    | succ n ih =>
      intro xq2 H locs ls hw hl hf
      exact hB2 xq1 (f_X9_doFor_l2 xq1 σ n) ih xq2 H locs ls hw hl hf
  unfold f_X9_doFor at hf
  refine lv_iconst (v := 0) hx hb dX9_doFor_0 (by decide) ?_
  refine lv_istore_n (lv' := [(2, .int 0), (0, .ref (ad 34)), (1, .int xq1)]) hx hb dX9_doFor_1 rfl hl (by decide) rfl (fun ls hl => ?_)
  exact hL2 xq1 400 0 _ _ _ hw (lv_sub hl [1, 2, 0] rfl) hf
set_option maxRecDepth 100000 in
set_option maxHeartbeats 4000000 in
theorem c_X1_willOf {l : Launch} {D : va_G} {cy : Cy} {ad : Nat → Nat} {A : Nat → Prop} (hA : okAd 97 ad A) (nq1 : Nat) (hnq1 : isSky nq1) (xq2 : Int32) (σ : Sg) {r : Int32} {σ9 : Sg} (hf : f_X1_willOf nq1 xq2 σ = some (r, σ9)) : Met l yX1_willOf (.code yX1_willOf cX1_willOf 3 (some .int) :: TT) ({ frames := 3, cells := 0, slots := 0, locals := 71 } : Room) (zPc D cy 97 (celC ad cy) ad A [.ref (ad 24), .ref (ad nq1), .int xq2] σ) (zQi D 97 (celC ad cy) ad A r σ9) 0 0 A := by
  refine zofW (by decide) hA (Nat.le_of_ble_eq_true rfl) ?_
  intro p e s m args below meth c ls E hw hr hlk hl
  have E : ZE p s m args c cX1_willOf 3 "KiteSummons$County" D cy 97 ad A := E
  have hx := E.hx
  have hb := E.hb
  have hl : lv_has ls 3 [(0, .ref (ad 24)), (1, .ref (ad nq1)), (2, .int xq2)] := hl
  unfold f_X1_willOf at hf
  refine lv_aload_n hx hb dX1_willOf_0 rfl (lv_at hl 0 rfl) ?_
  refine lv_aload_n hx hb dX1_willOf_1 rfl (lv_at hl 1 rfl) ?_
  refine lv_iload_n hx hb dX1_willOf_2 rfl (lv_at hl 2 rfl) ?_
  refine lv_aload_n hx hb dX1_willOf_3 rfl (lv_at hl 0 rfl) ?_
  refine lv_aload_n hx hb dX1_willOf_4 rfl (lv_at hl 1 rfl) ?_
  refine lv_iload_n hx hb dX1_willOf_5 rfl (lv_at hl 2 rfl) ?_
  obtain ⟨vq1, hc, hf⟩ := bd_e hf
  refine zcali hw (va_runV (As := [.ref (ad nq1), .int xq2]) (rest := [.int xq2, .ref (ad nq1), .ref (ad 24)]) E.fix (c_X1_farFromFarm (l := l) hA nq1 hnq1 xq2 σ hc) (zcV E k3_34 k1_11 k3_31 k3_32 k3_33 mf_X1_farFromFarm rfl rfl ⟨Nat.le_of_ble_eq_true rfl, Nat.le_of_ble_eq_true rfl⟩) (zPreV E hw (Nat.le_of_ble_eq_true rfl) (ceC_24 ad cy _) rfl _) rfl rfl hl.1 rfl (lv_room (Nat.le_of_ble_eq_true rfl)) dX1_willOf_6 ⟨Nat.zero_le _, Nat.zero_le _⟩) (fun H locs hw => ?_)
  obtain ⟨σ2, hc, hf⟩ := bd_e hf
  refine zcalv hw (va_runV (As := [.ref (ad nq1), .int xq2, .int vq1]) (rest := []) E.fix (c_X1_layFacts (l := l) hA nq1 hnq1 xq2 vq1 σ hc) (zcV E k3_44 k1_11 k3_41 k3_43 kp1_1 mf_X1_layFacts rfl rfl ⟨Nat.le_of_ble_eq_true rfl, Nat.le_of_ble_eq_true rfl⟩) (zPreV E hw (Nat.le_of_ble_eq_true rfl) (ceC_24 ad cy _) rfl _) rfl rfl hl.1 rfl (lv_room (Nat.le_of_ble_eq_true rfl)) dX1_willOf_9 ⟨Nat.zero_le _, Nat.zero_le _⟩) (fun H locs hw => ?_)
  refine lv_aload_n hx hb dX1_willOf_12 rfl (lv_at hl 0 rfl) ?_
  refine zget E hw (Nat.le_of_ble_eq_true rfl) (ceC_24 ad cy _) rfl inX1 14 (by decide) k2_32 (fun _ h => h) rfl dX1_willOf_13 ?_
  refine lv_aload_n hx hb dX1_willOf_16 rfl (lv_at hl 0 rfl) ?_
  refine zget E hw (Nat.le_of_ble_eq_true rfl) (ceC_24 ad cy _) rfl inX1 5 (by decide) k2_18 (fun _ h => h) rfl dX1_willOf_17 ?_
  refine lv_iload_n hx hb dX1_willOf_20 rfl (lv_at hl 2 rfl) ?_
  obtain ⟨vq3, hvq3, hf⟩ := bd_e hf
  refine zaldr E hw (Nat.le_of_ble_eq_true rfl) (ceC_25 ad cy) hvq3 dX1_willOf_21 ?_
  obtain ⟨vq4, hc, hf⟩ := bd_e hf
  refine zcali hw (va_runV (As := [.int vq3]) (rest := []) E.fix (c_X9_doFor (l := l) hA vq3 σ2 hc) (zcV E k3_48 k1_3 k3_45 k3_46 k3_47 mf_X9_doFor rfl rfl ⟨Nat.le_of_ble_eq_true rfl, Nat.le_of_ble_eq_true rfl⟩) (zPreV E hw (Nat.le_of_ble_eq_true rfl) (ceC_34 ad cy _) rfl _) rfl rfl hl.1 rfl (lv_room (Nat.le_of_ble_eq_true rfl)) dX1_willOf_22 ⟨Nat.zero_le _, Nat.zero_le _⟩) (fun H locs hw => ?_)
  exact zreti E hw hr hlk (rt_a hf) (rt_b hf) dX1_willOf_25
set_option maxRecDepth 100000 in
set_option maxHeartbeats 4000000 in
theorem c_X11_kiteOf {l : Launch} {D : va_G} {cy : Cy} {ad : Nat → Nat} {A : Nat → Prop} (hA : okAd 97 ad A) (xq1 : Int32) (xq2 : Int32) (σ : Sg) {r : Int32} {σ9 : Sg} (hf : f_X11_kiteOf xq1 xq2 σ = some (r, σ9)) : Met l yX11_kiteOf (.code yX11_kiteOf cX11_kiteOf 4 (some .int) :: TT) ({ frames := 4, cells := 0, slots := 0, locals := 93 } : Room) (zPc D cy 97 (celC ad cy) ad A [.ref (ad 0), .int xq1, .int xq2] σ) (zQi D 97 (celC ad cy) ad A r σ9) 0 0 A := by
  refine zofW (by decide) hA (Nat.le_of_ble_eq_true rfl) ?_
  intro p e s m args below meth c ls E hw hr hlk hl
  have E : ZE p s m args c cX11_kiteOf 4 "KiteSummons" D cy 97 ad A := E
  have hx := E.hx
  have hb := E.hb
  have hl : lv_has ls 4 [(0, .ref (ad 0)), (1, .int xq1), (2, .int xq2)] := hl
  unfold f_X11_kiteOf at hf
  refine lv_aload_n hx hb dX11_kiteOf_0 rfl (lv_at hl 0 rfl) ?_
  refine lv_iload_n hx hb dX11_kiteOf_1 rfl (lv_at hl 1 rfl) ?_
  refine zcali hw (va_runV (As := [.int xq1]) (rest := []) E.fix (c_X11_isKite (l := l) hA xq1 σ rfl) (zcV E k2_194 k1_1 k2_191 k2_193 kp1_0 mf_X11_isKite rfl rfl ⟨Nat.le_of_ble_eq_true rfl, Nat.le_of_ble_eq_true rfl⟩) (zPreV E hw (Nat.le_of_ble_eq_true rfl) (ceC_0 ad cy _) rfl _) rfl rfl hl.1 rfl (lv_room (Nat.le_of_ble_eq_true rfl)) dX11_kiteOf_2 ⟨Nat.zero_le _, Nat.zero_le _⟩) (fun H locs hw => ?_)
  refine lv_if_ne (tgt := 10) hx hb dX11_kiteOf_5 (by decide) (fun h => ?_) (fun h => ?_)
  · replace hf := it_t (b2i_n h) hf
    refine lv_aload_n hx hb dX11_kiteOf_10 rfl (lv_at hl 0 rfl) ?_
    refine zget E hw (Nat.le_of_ble_eq_true rfl) (ceC_0 ad cy _) rfl inX11 2 (by decide) k2_123 (fun _ h => h) rfl dX11_kiteOf_11 ?_
    refine zget E hw (Nat.le_of_ble_eq_true rfl) (ceC_24 ad cy _) rfl inX1 15 (by decide) k2_36 (fun _ h => h) rfl dX11_kiteOf_14 ?_
    refine lv_astore_n (lv' := [(3, .ref (ad 41)), (0, .ref (ad 0)), (1, .int xq1), (2, .int xq2)]) hx hb dX11_kiteOf_17 rfl hl (by decide) rfl (fun ls hl => ?_)
    refine lv_iload_n hx hb dX11_kiteOf_18 rfl (lv_at hl 3 rfl) ?_
    by_cases hc19_0 : xq2 = 0
    · replace hf := it_t hc19_0 hf
      refine lv_tableIn (tgt := 72) (off := 53) hx hb dX11_kiteOf_19 (by rw [hc19_0]; decide) (by rw [hc19_0]; decide) (by rw [hc19_0]; rfl) (by decide) ?_
      refine lv_aload_n hx hb dX11_kiteOf_72 rfl (lv_at hl 1 rfl) ?_
      refine zget E hw (Nat.le_of_ble_eq_true rfl) (ceC_0 ad cy _) rfl inX11 2 (by decide) k2_123 (fun _ h => h) rfl dX11_kiteOf_73 ?_
      refine zget E hw (Nat.le_of_ble_eq_true rfl) (ceC_24 ad cy _) rfl inX1 5 (by decide) k2_19 (fun _ h => h) rfl dX11_kiteOf_76 ?_
      refine lv_iload_n hx hb dX11_kiteOf_79 rfl (lv_at hl 2 rfl) ?_
      obtain ⟨vq1, hvq1, hf⟩ := bd_e hf
      refine zaldr E hw (Nat.le_of_ble_eq_true rfl) (ceC_25 ad cy) hvq1 dX11_kiteOf_80 ?_
      exact zreti E hw hr hlk (rt_a hf) (rt_b hf) dX11_kiteOf_81
    · replace hf := it_f hc19_0 hf
      by_cases hc19_1 : xq2 = 1
      · replace hf := it_t hc19_1 hf
        refine lv_tableIn (tgt := 82) (off := 63) hx hb dX11_kiteOf_19 (by rw [hc19_1]; decide) (by rw [hc19_1]; decide) (by rw [hc19_1]; rfl) (by decide) ?_
        refine lv_aload_n hx hb dX11_kiteOf_82 rfl (lv_at hl 0 rfl) ?_
        refine zget E hw (Nat.le_of_ble_eq_true rfl) (ceC_41 ad cy _) rfl inX10 4 (by decide) k1_122 (fun _ h => h) rfl dX11_kiteOf_83 ?_
        refine lv_iload_n hx hb dX11_kiteOf_86 rfl (lv_at hl 2 rfl) ?_
        obtain ⟨vq2, hvq2, hf⟩ := bd_e hf
        refine zaldr E hw (Nat.le_of_ble_eq_true rfl) (ceC_42 ad cy) hvq2 dX11_kiteOf_87 ?_
        exact zreti E hw hr hlk (rt_a hf) (rt_b hf) dX11_kiteOf_88
      · replace hf := it_f hc19_1 hf
        by_cases hc19_2 : xq2 = 2
        · replace hf := it_t hc19_2 hf
          refine lv_tableIn (tgt := 89) (off := 70) hx hb dX11_kiteOf_19 (by rw [hc19_2]; decide) (by rw [hc19_2]; decide) (by rw [hc19_2]; rfl) (by decide) ?_
          refine lv_aload_n hx hb dX11_kiteOf_89 rfl (lv_at hl 0 rfl) ?_
          refine zget E hw (Nat.le_of_ble_eq_true rfl) (ceC_41 ad cy _) rfl inX10 5 (by decide) k1_125 (fun _ h => h) rfl dX11_kiteOf_90 ?_
          refine lv_iload_n hx hb dX11_kiteOf_93 rfl (lv_at hl 2 rfl) ?_
          obtain ⟨vq3, hvq3, hf⟩ := bd_e hf
          refine zaldr E hw (Nat.le_of_ble_eq_true rfl) (ceC_43 ad cy) hvq3 dX11_kiteOf_94 ?_
          exact zreti E hw hr hlk (rt_a hf) (rt_b hf) dX11_kiteOf_95
        · replace hf := it_f hc19_2 hf
          by_cases hc19_3 : xq2 = 3
          · replace hf := it_t hc19_3 hf
            refine lv_tableIn (tgt := 96) (off := 77) hx hb dX11_kiteOf_19 (by rw [hc19_3]; decide) (by rw [hc19_3]; decide) (by rw [hc19_3]; rfl) (by decide) ?_
            refine lv_aload_n hx hb dX11_kiteOf_96 rfl (lv_at hl 1 rfl) ?_
            refine zget E hw (Nat.le_of_ble_eq_true rfl) (ceC_0 ad cy _) rfl inX11 2 (by decide) k2_123 (fun _ h => h) rfl dX11_kiteOf_97 ?_
            refine zget E hw (Nat.le_of_ble_eq_true rfl) (ceC_24 ad cy _) rfl inX1 6 (by decide) k2_21 (fun _ h => h) rfl dX11_kiteOf_100 ?_
            refine lv_iload_n hx hb dX11_kiteOf_103 rfl (lv_at hl 2 rfl) ?_
            obtain ⟨vq4, hvq4, hf⟩ := bd_e hf
            refine zaldr E hw (Nat.le_of_ble_eq_true rfl) (ceC_26 ad cy) hvq4 dX11_kiteOf_104 ?_
            exact zreti E hw hr hlk (rt_a hf) (rt_b hf) dX11_kiteOf_105
          · replace hf := it_f hc19_3 hf
            by_cases hc19_4 : xq2 = 4
            · replace hf := it_t hc19_4 hf
              refine lv_tableIn (tgt := 106) (off := 87) hx hb dX11_kiteOf_19 (by rw [hc19_4]; decide) (by rw [hc19_4]; decide) (by rw [hc19_4]; rfl) (by decide) ?_
              refine lv_aload_n hx hb dX11_kiteOf_106 rfl (lv_at hl 0 rfl) ?_
              refine zget E hw (Nat.le_of_ble_eq_true rfl) (ceC_41 ad cy _) rfl inX10 2 (by decide) k1_115 (fun _ h => h) rfl dX11_kiteOf_107 ?_
              refine lv_iload_n hx hb dX11_kiteOf_110 rfl (lv_at hl 2 rfl) ?_
              refine zcali hw (va_runS (As := [.int (σ 41 2), .int xq1]) (rest := []) E.fix (c_X11_isIn (l := l) hA (σ 41 2) xq1 σ rfl) (zcS E k2_197 k1_1 k2_195 k2_196 mf_X11_isIn rfl rfl ⟨Nat.le_of_ble_eq_true rfl, Nat.le_of_ble_eq_true rfl⟩) (zPre E hw _) rfl rfl hl.1 rfl (lv_room (Nat.le_of_ble_eq_true rfl)) dX11_kiteOf_111 ⟨Nat.zero_le _, Nat.zero_le _⟩) (fun H locs hw => ?_)
              refine lv_if_eq (tgt := 121) hx hb dX11_kiteOf_114 (by decide) (fun h => ?_) (fun h => ?_)
              · replace hf := it_f (b2i_0 h) hf
                refine lv_iconst (v := 0) hx hb dX11_kiteOf_121 (by decide) ?_
                exact zreti E hw hr hlk (rt_a hf) (rt_b hf) dX11_kiteOf_122
              · replace hf := it_t (b2i_n h) hf
                refine lv_iconst (v := 1) hx hb dX11_kiteOf_117 (by decide) ?_
                refine lv_goto (tgt := 122) hx hb dX11_kiteOf_118 (by decide) ?_
                exact zreti E hw hr hlk (rt_a hf) (rt_b hf) dX11_kiteOf_122
            · replace hf := it_f hc19_4 hf
              by_cases hc19_5 : xq2 = 5
              · replace hf := it_t hc19_5 hf
                refine lv_tableIn (tgt := 123) (off := 104) hx hb dX11_kiteOf_19 (by rw [hc19_5]; decide) (by rw [hc19_5]; decide) (by rw [hc19_5]; rfl) (by decide) ?_
                refine lv_aload_n hx hb dX11_kiteOf_123 rfl (lv_at hl 0 rfl) ?_
                refine zget E hw (Nat.le_of_ble_eq_true rfl) (ceC_41 ad cy _) rfl inX10 3 (by decide) k1_118 (fun _ h => h) rfl dX11_kiteOf_124 ?_
                refine lv_iload_n hx hb dX11_kiteOf_127 rfl (lv_at hl 2 rfl) ?_
                refine zcali hw (va_runS (As := [.int (σ 41 3), .int xq1]) (rest := []) E.fix (c_X11_isIn (l := l) hA (σ 41 3) xq1 σ rfl) (zcS E k2_197 k1_1 k2_195 k2_196 mf_X11_isIn rfl rfl ⟨Nat.le_of_ble_eq_true rfl, Nat.le_of_ble_eq_true rfl⟩) (zPre E hw _) rfl rfl hl.1 rfl (lv_room (Nat.le_of_ble_eq_true rfl)) dX11_kiteOf_128 ⟨Nat.zero_le _, Nat.zero_le _⟩) (fun H locs hw => ?_)
                refine lv_if_eq (tgt := 138) hx hb dX11_kiteOf_131 (by decide) (fun h => ?_) (fun h => ?_)
                · replace hf := it_f (b2i_0 h) hf
                  refine lv_iconst (v := 0) hx hb dX11_kiteOf_138 (by decide) ?_
                  exact zreti E hw hr hlk (rt_a hf) (rt_b hf) dX11_kiteOf_139
                · replace hf := it_t (b2i_n h) hf
                  refine lv_iconst (v := 1) hx hb dX11_kiteOf_134 (by decide) ?_
                  refine lv_goto (tgt := 139) hx hb dX11_kiteOf_135 (by decide) ?_
                  exact zreti E hw hr hlk (rt_a hf) (rt_b hf) dX11_kiteOf_139
              · replace hf := it_f hc19_5 hf
                by_cases hc19_6 : xq2 = 6
                · replace hf := it_t hc19_6 hf
                  refine lv_tableIn (tgt := 140) (off := 121) hx hb dX11_kiteOf_19 (by rw [hc19_6]; decide) (by rw [hc19_6]; decide) (by rw [hc19_6]; rfl) (by decide) ?_
                  refine lv_aload_n hx hb dX11_kiteOf_140 rfl (lv_at hl 1 rfl) ?_
                  refine zget E hw (Nat.le_of_ble_eq_true rfl) (ceC_0 ad cy _) rfl inX11 2 (by decide) k2_123 (fun _ h => h) rfl dX11_kiteOf_141 ?_
                  refine lv_iload_n hx hb dX11_kiteOf_144 rfl (lv_at hl 2 rfl) ?_
                  obtain ⟨vq5, hc, hf⟩ := bd_e hf
                  refine zcali hw (va_runV (As := [.int xq1]) (rest := []) E.fix (c_X1_driftsNow (l := l) hA xq1 σ hc) (zcV E k2_201 k1_11 k2_198 k2_199 k2_200 mf_X1_driftsNow rfl rfl ⟨Nat.le_of_ble_eq_true rfl, Nat.le_of_ble_eq_true rfl⟩) (zPreV E hw (Nat.le_of_ble_eq_true rfl) (ceC_24 ad cy _) rfl _) rfl rfl hl.1 rfl (lv_room (Nat.le_of_ble_eq_true rfl)) dX11_kiteOf_145 ⟨Nat.zero_le _, Nat.zero_le _⟩) (fun H locs hw => ?_)
                  exact zreti E hw hr hlk (rt_a hf) (rt_b hf) dX11_kiteOf_148
                · replace hf := it_f hc19_6 hf
                  by_cases hc19_7 : xq2 = 7
                  · replace hf := it_t hc19_7 hf
                    refine lv_tableIn (tgt := 149) (off := 130) hx hb dX11_kiteOf_19 (by rw [hc19_7]; decide) (by rw [hc19_7]; decide) (by rw [hc19_7]; rfl) (by decide) ?_
                    refine lv_aload_n hx hb dX11_kiteOf_149 rfl (lv_at hl 1 rfl) ?_
                    refine zget E hw (Nat.le_of_ble_eq_true rfl) (ceC_0 ad cy _) rfl inX11 2 (by decide) k2_123 (fun _ h => h) rfl dX11_kiteOf_150 ?_
                    refine lv_iload_n hx hb dX11_kiteOf_153 rfl (lv_at hl 2 rfl) ?_
                    obtain ⟨vq6, hc, hf⟩ := bd_e hf
                    refine zcali hw (va_runV (As := [.int xq1]) (rest := []) E.fix (c_X1_feeOf (l := l) hA xq1 σ hc) (zcV E k3_1 k1_11 k2_238 k2_239 k3_0 mf_X1_feeOf rfl rfl ⟨Nat.le_of_ble_eq_true rfl, Nat.le_of_ble_eq_true rfl⟩) (zPreV E hw (Nat.le_of_ble_eq_true rfl) (ceC_24 ad cy _) rfl _) rfl rfl hl.1 rfl (lv_room (Nat.le_of_ble_eq_true rfl)) dX11_kiteOf_154 ⟨Nat.zero_le _, Nat.zero_le _⟩) (fun H locs hw => ?_)
                    exact zreti E hw hr hlk (rt_a hf) (rt_b hf) dX11_kiteOf_157
                  · replace hf := it_f hc19_7 hf
                    by_cases hc19_8 : xq2 = 8
                    · replace hf := it_t hc19_8 hf
                      refine lv_tableIn (tgt := 158) (off := 139) hx hb dX11_kiteOf_19 (by rw [hc19_8]; decide) (by rw [hc19_8]; decide) (by rw [hc19_8]; rfl) (by decide) ?_
                      refine lv_aload_n hx hb dX11_kiteOf_158 rfl (lv_at hl 1 rfl) ?_
                      refine zget E hw (Nat.le_of_ble_eq_true rfl) (ceC_0 ad cy _) rfl inX11 2 (by decide) k2_123 (fun _ h => h) rfl dX11_kiteOf_159 ?_
                      refine lv_aload_n hx hb dX11_kiteOf_162 rfl (lv_at hl 0 rfl) ?_
                      refine lv_iload_n hx hb dX11_kiteOf_163 rfl (lv_at hl 2 rfl) ?_
                      obtain ⟨vq7, σ8, hc, hf⟩ := bd2_e hf
                      refine zcali hw (va_runV (As := [.ref (ad 41), .int xq1]) (rest := []) E.fix (c_X1_willOf (l := l) hA 41 (by unfold isSky; omega) xq1 σ hc) (zcV E k3_30 k1_11 k3_27 k3_28 k3_29 mf_X1_willOf rfl rfl ⟨Nat.le_of_ble_eq_true rfl, Nat.le_of_ble_eq_true rfl⟩) (zPreV E hw (Nat.le_of_ble_eq_true rfl) (ceC_24 ad cy _) rfl _) rfl rfl hl.1 rfl (lv_room (Nat.le_of_ble_eq_true rfl)) dX11_kiteOf_164 ⟨Nat.zero_le _, Nat.zero_le _⟩) (fun H locs hw => ?_)
                      exact zreti E hw hr hlk (rt_a hf) (rt_b hf) dX11_kiteOf_167
                    · replace hf := it_f hc19_8 hf
                      by_cases hc19_9 : xq2 = 9
                      · replace hf := it_t hc19_9 hf
                        refine lv_tableIn (tgt := 168) (off := 149) hx hb dX11_kiteOf_19 (by rw [hc19_9]; decide) (by rw [hc19_9]; decide) (by rw [hc19_9]; rfl) (by decide) ?_
                        refine lv_aload_n hx hb dX11_kiteOf_168 rfl (lv_at hl 1 rfl) ?_
                        refine zget E hw (Nat.le_of_ble_eq_true rfl) (ceC_0 ad cy _) rfl inX11 2 (by decide) k2_123 (fun _ h => h) rfl dX11_kiteOf_169 ?_
                        refine lv_aload_n hx hb dX11_kiteOf_172 rfl (lv_at hl 0 rfl) ?_
                        refine lv_iload_n hx hb dX11_kiteOf_173 rfl (lv_at hl 2 rfl) ?_
                        obtain ⟨vq9, hc, hf⟩ := bd_e hf
                        refine zcali hw (va_runV (As := [.ref (ad 41), .int xq1]) (rest := []) E.fix (c_X1_farFromFarm (l := l) hA 41 (by unfold isSky; omega) xq1 σ hc) (zcV E k3_34 k1_11 k3_60 k3_32 k3_33 mf_X1_farFromFarm rfl rfl ⟨Nat.le_of_ble_eq_true rfl, Nat.le_of_ble_eq_true rfl⟩) (zPreV E hw (Nat.le_of_ble_eq_true rfl) (ceC_24 ad cy _) rfl _) rfl rfl hl.1 rfl (lv_room (Nat.le_of_ble_eq_true rfl)) dX11_kiteOf_174 ⟨Nat.zero_le _, Nat.zero_le _⟩) (fun H locs hw => ?_)
                        exact zreti E hw hr hlk (rt_a hf) (rt_b hf) dX11_kiteOf_177
                      · replace hf := it_f hc19_9 hf
                        refine lv_tableOut (tgt := 178) hx hb dX11_kiteOf_19 (by have := lv_neT hc19_0 (a := 0) rfl; have := lv_neT hc19_1 (a := 1) rfl; have := lv_neT hc19_2 (a := 2) rfl; have := lv_neT hc19_3 (a := 3) rfl; have := lv_neT hc19_4 (a := 4) rfl; have := lv_neT hc19_5 (a := 5) rfl; have := lv_neT hc19_6 (a := 6) rfl; have := lv_neT hc19_7 (a := 7) rfl; have := lv_neT hc19_8 (a := 8) rfl; have := lv_neT hc19_9 (a := 9) rfl; omega) (by decide) ?_
                        refine lv_iconst (v := (-1)) hx hb dX11_kiteOf_178 (by decide) ?_
                        exact zreti E hw hr hlk (rt_a hf) (rt_b hf) dX11_kiteOf_179
  · replace hf := it_f (b2i_0 h) hf
    refine lv_iconst (v := (-1)) hx hb dX11_kiteOf_8 (by decide) ?_
    exact zreti E hw hr hlk (rt_a hf) (rt_b hf) dX11_kiteOf_9
set_option maxRecDepth 100000 in
set_option maxHeartbeats 4000000 in
theorem c_X11_mostOf {l : Launch} {D : va_G} {cy : Cy} {ad : Nat → Nat} {A : Nat → Prop} (hA : okAd 97 ad A) (xq0 : Int32) (σ : Sg) {r : Int32} (hf : f_X11_mostOf xq0 σ = r) : Met l yX11_mostOf (.code yX11_mostOf cX11_mostOf 1 (some .int) :: TT) ({ frames := 0, cells := 0, slots := 0, locals := 0 } : Room) (zPc D cy 97 (celC ad cy) ad A [.int xq0] σ) (zQi D 97 (celC ad cy) ad A r σ) 0 0 A := by
  refine zofW (by decide) hA (Nat.le_of_ble_eq_true rfl) ?_
  intro p e s m args below meth c ls E hw hr hlk hl
  have E : ZE p s m args c cX11_mostOf 1 "KiteSummons" D cy 97 ad A := E
  have hx := E.hx
  have hb := E.hb
  have hl : lv_has ls 1 [(0, .int xq0)] := hl
  unfold f_X11_mostOf at hf
  refine lv_iload_n hx hb dX11_mostOf_0 rfl (lv_at hl 0 rfl) ?_
  by_cases hc1_0 : xq0 = 1
  · replace hf := it_t hc1_0 hf
    refine lv_tableIn (tgt := 36) (off := 35) hx hb dX11_mostOf_1 (by rw [hc1_0]; decide) (by rw [hc1_0]; decide) (by rw [hc1_0]; rfl) (by decide) ?_
    refine lv_bipush (v := 63) hx hb dX11_mostOf_36 (by decide) ?_
    exact zreti E hw hr hlk hf rfl dX11_mostOf_38
  · replace hf := it_f hc1_0 hf
    by_cases hc1_1 : xq0 = 2
    · replace hf := it_t hc1_1 hf
      refine lv_tableIn (tgt := 39) (off := 38) hx hb dX11_mostOf_1 (by rw [hc1_1]; decide) (by rw [hc1_1]; decide) (by rw [hc1_1]; rfl) (by decide) ?_
      refine lv_bipush (v := 9) hx hb dX11_mostOf_39 (by decide) ?_
      exact zreti E hw hr hlk hf rfl dX11_mostOf_41
    · replace hf := it_f hc1_1 hf
      by_cases hc1_2 : xq0 = 3
      · replace hf := it_t hc1_2 hf
        refine lv_tableIn (tgt := 42) (off := 41) hx hb dX11_mostOf_1 (by rw [hc1_2]; decide) (by rw [hc1_2]; decide) (by rw [hc1_2]; rfl) (by decide) ?_
        refine lv_iconst (v := 5) hx hb dX11_mostOf_42 (by decide) ?_
        exact zreti E hw hr hlk hf rfl dX11_mostOf_43
      · replace hf := it_f hc1_2 hf
        by_cases hc1_3 : xq0 = 4
        · replace hf := it_t hc1_3 hf
          refine lv_tableIn (tgt := 44) (off := 43) hx hb dX11_mostOf_1 (by rw [hc1_3]; decide) (by rw [hc1_3]; decide) (by rw [hc1_3]; rfl) (by decide) ?_
          refine lv_iconst (v := 1) hx hb dX11_mostOf_44 (by decide) ?_
          exact zreti E hw hr hlk hf rfl dX11_mostOf_45
        · replace hf := it_f hc1_3 hf
          by_cases hc1_4 : xq0 = 5
          · replace hf := it_t hc1_4 hf
            refine lv_tableIn (tgt := 44) (off := 43) hx hb dX11_mostOf_1 (by rw [hc1_4]; decide) (by rw [hc1_4]; decide) (by rw [hc1_4]; rfl) (by decide) ?_
            refine lv_iconst (v := 1) hx hb dX11_mostOf_44 (by decide) ?_
            exact zreti E hw hr hlk hf rfl dX11_mostOf_45
          · replace hf := it_f hc1_4 hf
            refine lv_tableOut (tgt := 46) hx hb dX11_mostOf_1 (by have := lv_neT hc1_0 (a := 1) rfl; have := lv_neT hc1_1 (a := 2) rfl; have := lv_neT hc1_2 (a := 3) rfl; have := lv_neT hc1_3 (a := 4) rfl; have := lv_neT hc1_4 (a := 5) rfl; omega) (by decide) ?_
            refine lv_iconst (v := (-1)) hx hb dX11_mostOf_46 (by decide) ?_
            exact zreti E hw hr hlk hf rfl dX11_mostOf_47
set_option maxRecDepth 100000 in
set_option maxHeartbeats 4000000 in
theorem c_X11_change {l : Launch} {D : va_G} {cy : Cy} {ad : Nat → Nat} {A : Nat → Prop} (hA : okAd 97 ad A) (xq1 : Int32) (xq2 : Int32) (xq3 : Int32) (σ : Sg) {r : Int32} {σ9 : Sg} (hf : f_X11_change xq1 xq2 xq3 σ = some (r, σ9)) : Met l yX11_change (.code yX11_change cX11_change 6 (some .int) :: TT) ({ frames := 5, cells := 0, slots := 0, locals := 116 } : Room) (zPc D cy 97 (celC ad cy) ad A [.ref (ad 0), .int xq1, .int xq2, .int xq3] σ) (zQi D 97 (celC ad cy) ad A r σ9) 0 0 A := by
  refine zofW (by decide) hA (Nat.le_of_ble_eq_true rfl) ?_
  intro p e s m args below meth c ls E hw hr hlk hl
  have E : ZE p s m args c cX11_change 6 "KiteSummons" D cy 97 ad A := E
  have hx := E.hx
  have hb := E.hb
  have hl : lv_has ls 6 [(0, .ref (ad 0)), (1, .int xq1), (2, .int xq2), (3, .int xq3)] := hl
  unfold f_X11_change at hf
  refine lv_aload_n hx hb dX11_change_0 rfl (lv_at hl 0 rfl) ?_
  refine lv_iload_n hx hb dX11_change_1 rfl (lv_at hl 1 rfl) ?_
  refine zcali hw (va_runV (As := [.int xq1]) (rest := []) E.fix (c_X11_isKite (l := l) hA xq1 σ rfl) (zcV E k2_194 k1_1 k2_191 k2_193 kp1_0 mf_X11_isKite rfl rfl ⟨Nat.le_of_ble_eq_true rfl, Nat.le_of_ble_eq_true rfl⟩) (zPreV E hw (Nat.le_of_ble_eq_true rfl) (ceC_0 ad cy _) rfl _) rfl rfl hl.1 rfl (lv_room (Nat.le_of_ble_eq_true rfl)) dX11_change_2 ⟨Nat.zero_le _, Nat.zero_le _⟩) (fun H locs hw => ?_)
  refine lv_if_eq (tgt := 20) hx hb dX11_change_5 (by decide) (fun h => ?_) (fun h => ?_)
  · replace hf := it_f (b2i_0 h) hf
    refine lv_iconst (v := (-1)) hx hb dX11_change_20 (by decide) ?_
    exact zreti E hw hr hlk (rt_a hf) (rt_b hf) dX11_change_21
  · replace hf := it_t (b2i_n h) hf
    refine lv_iload_n hx hb dX11_change_8 rfl (lv_at hl 3 rfl) ?_
    refine lv_iconst (v := 0) hx hb dX11_change_9 (by decide) ?_
    refine lv_iload_n hx hb dX11_change_10 rfl (lv_at hl 2 rfl) ?_
    refine zcali hw (va_runS (As := [.int xq2]) (rest := [.int 0, .int xq3]) E.fix (c_X11_mostOf (l := l) hA xq2 σ rfl) (zcS E k3_67 k1_1 k3_65 k3_66 mf_X11_mostOf rfl rfl ⟨Nat.le_of_ble_eq_true rfl, Nat.le_of_ble_eq_true rfl⟩) (zPre E hw _) rfl rfl hl.1 rfl (lv_room (Nat.le_of_ble_eq_true rfl)) dX11_change_11 ⟨Nat.zero_le _, Nat.zero_le _⟩) (fun H locs hw => ?_)
    refine zcali hw (va_runS (As := [.int xq3, .int 0, .int (f_X11_mostOf xq2 σ)]) (rest := []) E.fix (c_X11_within (l := l) hA xq3 0 (f_X11_mostOf xq2 σ) σ rfl) (zcS E k2_179 k1_1 k2_177 k2_178 mf_X11_within rfl rfl ⟨Nat.le_of_ble_eq_true rfl, Nat.le_of_ble_eq_true rfl⟩) (zPre E hw _) rfl rfl hl.1 rfl (lv_room (Nat.le_of_ble_eq_true rfl)) dX11_change_14 ⟨Nat.zero_le _, Nat.zero_le _⟩) (fun H locs hw => ?_)
    refine lv_if_ne (tgt := 22) hx hb dX11_change_17 (by decide) (fun h => ?_) (fun h => ?_)
    · replace hf := it_t (b2i_n h) hf
      refine lv_aload_n hx hb dX11_change_22 rfl (lv_at hl 0 rfl) ?_
      refine lv_iload_n hx hb dX11_change_23 rfl (lv_at hl 1 rfl) ?_
      refine lv_iload_n hx hb dX11_change_24 rfl (lv_at hl 2 rfl) ?_
      obtain ⟨vq1, σ2, hc, hf⟩ := bd2_e hf
      refine zcali hw (va_runV (As := [.int xq1, .int xq2]) (rest := []) E.fix (c_X11_kiteOf (l := l) hA xq1 xq2 σ hc) (zcV E k2_190 k1_1 k3_68 k2_188 k2_189 mf_X11_kiteOf rfl rfl ⟨Nat.le_of_ble_eq_true rfl, Nat.le_of_ble_eq_true rfl⟩) (zPreV E hw (Nat.le_of_ble_eq_true rfl) (ceC_0 ad cy _) rfl _) rfl rfl hl.1 rfl (lv_room (Nat.le_of_ble_eq_true rfl)) dX11_change_25 ⟨Nat.zero_le _, Nat.zero_le _⟩) (fun H locs hw => ?_)
      refine lv_istore (lv' := [(4, .int vq1), (0, .ref (ad 0)), (1, .int xq1), (2, .int xq2), (3, .int xq3)]) hx hb dX11_change_28 hl (by decide) rfl (fun ls hl => ?_)
      refine lv_aload_n hx hb dX11_change_30 rfl (lv_at hl 1 rfl) ?_
      refine zget E hw (Nat.le_of_ble_eq_true rfl) (ceC_0 ad cy _) rfl inX11 2 (by decide) k2_123 (fun _ h => h) rfl dX11_change_31 ?_
      refine zget E hw (Nat.le_of_ble_eq_true rfl) (ceC_24 ad cy _) rfl inX1 15 (by decide) k2_36 (fun _ h => h) rfl dX11_change_34 ?_
      refine lv_astore (lv' := [(5, .ref (ad 41)), (4, .int vq1), (0, .ref (ad 0)), (1, .int xq1), (2, .int xq2), (3, .int xq3)]) hx hb dX11_change_37 hl (by decide) rfl (fun ls hl => ?_)
      refine lv_iload_n hx hb dX11_change_39 rfl (lv_at hl 4 rfl) ?_
      by_cases hc40_0 : xq2 = 1
      · replace hf := it_t hc40_0 hf
        refine lv_tableIn (tgt := 72) (off := 32) hx hb dX11_change_40 (by rw [hc40_0]; decide) (by rw [hc40_0]; decide) (by rw [hc40_0]; rfl) (by decide) ?_
        refine lv_aload hx hb dX11_change_72 (lv_at hl 0 rfl) ?_
        refine zget E hw (Nat.le_of_ble_eq_true rfl) (ceC_41 ad cy _) rfl inX10 4 (by decide) k1_122 (fun _ h => h) rfl dX11_change_74 ?_
        refine lv_iload_n hx hb dX11_change_77 rfl (lv_at hl 3 rfl) ?_
        refine lv_iload_n hx hb dX11_change_78 rfl (lv_at hl 5 rfl) ?_
        obtain ⟨σ3, hσ3, hf⟩ := bd_e hf
        refine zastr E hw (Nat.le_of_ble_eq_true rfl) (ceC_42 ad cy) hσ3 dX11_change_79 (fun H locs hw => ?_)
        refine lv_goto (tgt := 140) hx hb dX11_change_80 (by decide) ?_
        refine lv_iload hx hb dX11_change_140 (lv_at hl 1 rfl) ?_
        exact zreti E hw hr hlk (rt_a hf) (rt_b hf) dX11_change_142
      · replace hf := it_f hc40_0 hf
        by_cases hc40_1 : xq2 = 2
        · replace hf := it_t hc40_1 hf
          refine lv_tableIn (tgt := 83) (off := 43) hx hb dX11_change_40 (by rw [hc40_1]; decide) (by rw [hc40_1]; decide) (by rw [hc40_1]; rfl) (by decide) ?_
          refine lv_aload hx hb dX11_change_83 (lv_at hl 0 rfl) ?_
          refine zget E hw (Nat.le_of_ble_eq_true rfl) (ceC_41 ad cy _) rfl inX10 5 (by decide) k1_125 (fun _ h => h) rfl dX11_change_85 ?_
          refine lv_iload_n hx hb dX11_change_88 rfl (lv_at hl 3 rfl) ?_
          refine lv_iload_n hx hb dX11_change_89 rfl (lv_at hl 5 rfl) ?_
          obtain ⟨σ4, hσ4, hf⟩ := bd_e hf
          refine zastr E hw (Nat.le_of_ble_eq_true rfl) (ceC_43 ad cy) hσ4 dX11_change_90 (fun H locs hw => ?_)
          refine lv_goto (tgt := 140) hx hb dX11_change_91 (by decide) ?_
          refine lv_iload hx hb dX11_change_140 (lv_at hl 1 rfl) ?_
          exact zreti E hw hr hlk (rt_a hf) (rt_b hf) dX11_change_142
        · replace hf := it_f hc40_1 hf
          by_cases hc40_2 : xq2 = 3
          · replace hf := it_t hc40_2 hf
            refine lv_tableIn (tgt := 94) (off := 54) hx hb dX11_change_40 (by rw [hc40_2]; decide) (by rw [hc40_2]; decide) (by rw [hc40_2]; rfl) (by decide) ?_
            refine lv_aload_n hx hb dX11_change_94 rfl (lv_at hl 2 rfl) ?_
            refine zget E hw (Nat.le_of_ble_eq_true rfl) (ceC_0 ad cy _) rfl inX11 2 (by decide) k2_123 (fun _ h => h) rfl dX11_change_95 ?_
            refine zget E hw (Nat.le_of_ble_eq_true rfl) (ceC_24 ad cy _) rfl inX1 6 (by decide) k2_21 (fun _ h => h) rfl dX11_change_98 ?_
            refine lv_iload_n hx hb dX11_change_101 rfl (lv_at hl 3 rfl) ?_
            refine lv_iload_n hx hb dX11_change_102 rfl (lv_at hl 5 rfl) ?_
            obtain ⟨σ5, hσ5, hf⟩ := bd_e hf
            refine zastr E hw (Nat.le_of_ble_eq_true rfl) (ceC_26 ad cy) hσ5 dX11_change_103 (fun H locs hw => ?_)
            refine lv_goto (tgt := 140) hx hb dX11_change_104 (by decide) ?_
            refine lv_iload hx hb dX11_change_140 (lv_at hl 1 rfl) ?_
            exact zreti E hw hr hlk (rt_a hf) (rt_b hf) dX11_change_142
          · replace hf := it_f hc40_2 hf
            by_cases hc40_3 : xq2 = 4
            · replace hf := it_t hc40_3 hf
              refine lv_tableIn (tgt := 107) (off := 67) hx hb dX11_change_40 (by rw [hc40_3]; decide) (by rw [hc40_3]; decide) (by rw [hc40_3]; rfl) (by decide) ?_
              refine lv_aload hx hb dX11_change_107 (lv_at hl 0 rfl) ?_
              refine lv_aload hx hb dX11_change_109 (lv_at hl 0 rfl) ?_
              refine zget E hw (Nat.le_of_ble_eq_true rfl) (ceC_41 ad cy _) rfl inX10 2 (by decide) k1_115 (fun _ h => h) rfl dX11_change_111 ?_
              refine lv_iload_n hx hb dX11_change_114 rfl (lv_at hl 3 rfl) ?_
              refine lv_iload_n hx hb dX11_change_115 rfl (lv_at hl 5 rfl) ?_
              refine zcali hw (va_runS (As := [.int (σ2 41 2), .int xq1, .int xq3]) (rest := [.ref (ad 41)]) E.fix (c_X11_withBit (l := l) hA (σ2 41 2) xq1 xq3 σ2 rfl) (zcS E k2_186 k1_1 k3_69 k2_185 mf_X11_withBit rfl rfl ⟨Nat.le_of_ble_eq_true rfl, Nat.le_of_ble_eq_true rfl⟩) (zPre E hw _) rfl rfl hl.1 rfl (lv_room (Nat.le_of_ble_eq_true rfl)) dX11_change_116 ⟨Nat.zero_le _, Nat.zero_le _⟩) (fun H locs hw => ?_)
              refine zputs E hw (Nat.le_of_ble_eq_true rfl) (ceC_41 ad cy _) rfl inX10 tyX10 tyX10_ok nmX10 2 (by decide) k1_115 (fun _ h => h) rfl rfl rfl (Nat.le_of_ble_eq_true rfl) (j := 2) (Eq.trans (ceC_41 ad cy _) (by rfl)) dX11_change_119 (fun σ6 eσ6 H locs hw => ?_)
              replace hf := lt_i eσ6 hf
              refine lv_goto (tgt := 140) hx hb dX11_change_122 (by decide) ?_
              refine lv_iload hx hb dX11_change_140 (lv_at hl 1 rfl) ?_
              exact zreti E hw hr hlk (rt_a hf) (rt_b hf) dX11_change_142
            · replace hf := it_f hc40_3 hf
              refine lv_tableOut (tgt := 125) hx hb dX11_change_40 (by have := lv_neT hc40_0 (a := 1) rfl; have := lv_neT hc40_1 (a := 2) rfl; have := lv_neT hc40_2 (a := 3) rfl; have := lv_neT hc40_3 (a := 4) rfl; omega) (by decide) ?_
              refine lv_aload hx hb dX11_change_125 (lv_at hl 0 rfl) ?_
              refine lv_aload hx hb dX11_change_127 (lv_at hl 0 rfl) ?_
              refine zget E hw (Nat.le_of_ble_eq_true rfl) (ceC_41 ad cy _) rfl inX10 3 (by decide) k1_118 (fun _ h => h) rfl dX11_change_129 ?_
              refine lv_iload_n hx hb dX11_change_132 rfl (lv_at hl 3 rfl) ?_
              refine lv_iload_n hx hb dX11_change_133 rfl (lv_at hl 5 rfl) ?_
              refine zcali hw (va_runS (As := [.int (σ2 41 3), .int xq1, .int xq3]) (rest := [.ref (ad 41)]) E.fix (c_X11_withBit (l := l) hA (σ2 41 3) xq1 xq3 σ2 rfl) (zcS E k2_186 k1_1 k3_69 k2_185 mf_X11_withBit rfl rfl ⟨Nat.le_of_ble_eq_true rfl, Nat.le_of_ble_eq_true rfl⟩) (zPre E hw _) rfl rfl hl.1 rfl (lv_room (Nat.le_of_ble_eq_true rfl)) dX11_change_134 ⟨Nat.zero_le _, Nat.zero_le _⟩) (fun H locs hw => ?_)
              refine zputs E hw (Nat.le_of_ble_eq_true rfl) (ceC_41 ad cy _) rfl inX10 tyX10 tyX10_ok nmX10 3 (by decide) k1_118 (fun _ h => h) rfl rfl rfl (Nat.le_of_ble_eq_true rfl) (j := 3) (Eq.trans (ceC_41 ad cy _) (by rfl)) dX11_change_137 (fun σ7 eσ7 H locs hw => ?_)
              replace hf := lt_i eσ7 hf
              refine lv_iload hx hb dX11_change_140 (lv_at hl 1 rfl) ?_
              exact zreti E hw hr hlk (rt_a hf) (rt_b hf) dX11_change_142
    · replace hf := it_f (b2i_0 h) hf
      refine lv_iconst (v := (-1)) hx hb dX11_change_20 (by decide) ?_
      exact zreti E hw hr hlk (rt_a hf) (rt_b hf) dX11_change_21
set_option maxRecDepth 100000 in
set_option maxHeartbeats 4000000 in
theorem c_X11_remake {l : Launch} {D : va_G} {cy : Cy} {ad : Nat → Nat} {A : Nat → Prop} (hA : okAd 97 ad A) (xq1 : Int32) (xq2 : Int32) (σ : Sg) {r : Int32} {σ9 : Sg} (hf : f_X11_remake xq1 xq2 σ = some (r, σ9)) : Met l yX11_remake (.code yX11_remake cX11_remake 4 (some .int) :: TT) ({ frames := 2, cells := 0, slots := 0, locals := 43 } : Room) (zPc D cy 97 (celC ad cy) ad A [.ref (ad 0), .int xq1, .int xq2] σ) (zQi D 97 (celC ad cy) ad A r σ9) 0 0 A := by
  refine zofW (by decide) hA (Nat.le_of_ble_eq_true rfl) ?_
  intro p e s m args below meth c ls E hw hr hlk hl
  have E : ZE p s m args c cX11_remake 4 "KiteSummons" D cy 97 ad A := E
  have hx := E.hx
  have hb := E.hb
  have hl : lv_has ls 4 [(0, .ref (ad 0)), (1, .int xq1), (2, .int xq2)] := hl
  unfold f_X11_remake at hf
  refine lv_aload_n hx hb dX11_remake_0 rfl (lv_at hl 0 rfl) ?_
  refine lv_iload_n hx hb dX11_remake_1 rfl (lv_at hl 1 rfl) ?_
  refine zcali hw (va_runV (As := [.int xq1]) (rest := []) E.fix (c_X11_isKite (l := l) hA xq1 σ rfl) (zcV E k2_194 k1_1 k2_191 k2_193 kp1_0 mf_X11_isKite rfl rfl ⟨Nat.le_of_ble_eq_true rfl, Nat.le_of_ble_eq_true rfl⟩) (zPreV E hw (Nat.le_of_ble_eq_true rfl) (ceC_0 ad cy _) rfl _) rfl rfl hl.1 rfl (lv_room (Nat.le_of_ble_eq_true rfl)) dX11_remake_2 ⟨Nat.zero_le _, Nat.zero_le _⟩) (fun H locs hw => ?_)
  refine lv_if_eq (tgt := 17) hx hb dX11_remake_5 (by decide) (fun h => ?_) (fun h => ?_)
  · replace hf := it_f (b2i_0 h) hf
    refine lv_iconst (v := (-1)) hx hb dX11_remake_17 (by decide) ?_
    exact zreti E hw hr hlk (rt_a hf) (rt_b hf) dX11_remake_18
  · replace hf := it_t (b2i_n h) hf
    refine lv_iload_n hx hb dX11_remake_8 rfl (lv_at hl 2 rfl) ?_
    refine lv_iconst (v := 1) hx hb dX11_remake_9 (by decide) ?_
    refine lv_iconst (v := 5) hx hb dX11_remake_10 (by decide) ?_
    refine zcali hw (va_runS (As := [.int xq2, .int 1, .int 5]) (rest := []) E.fix (c_X11_within (l := l) hA xq2 1 5 σ rfl) (zcS E k2_179 k1_1 k2_177 k2_178 mf_X11_within rfl rfl ⟨Nat.le_of_ble_eq_true rfl, Nat.le_of_ble_eq_true rfl⟩) (zPre E hw _) rfl rfl hl.1 rfl (lv_room (Nat.le_of_ble_eq_true rfl)) dX11_remake_11 ⟨Nat.zero_le _, Nat.zero_le _⟩) (fun H locs hw => ?_)
    refine lv_if_ne (tgt := 19) hx hb dX11_remake_14 (by decide) (fun h => ?_) (fun h => ?_)
    · replace hf := it_t (b2i_n h) hf
      refine lv_aload_n hx hb dX11_remake_19 rfl (lv_at hl 0 rfl) ?_
      refine zget E hw (Nat.le_of_ble_eq_true rfl) (ceC_0 ad cy _) rfl inX11 2 (by decide) k2_123 (fun _ h => h) rfl dX11_remake_20 ?_
      refine zget E hw (Nat.le_of_ble_eq_true rfl) (ceC_24 ad cy _) rfl inX1 5 (by decide) k2_19 (fun _ h => h) rfl dX11_remake_23 ?_
      refine lv_iload_n hx hb dX11_remake_26 rfl (lv_at hl 1 rfl) ?_
      obtain ⟨vq1, hvq1, hf⟩ := bd_e hf
      refine zaldr E hw (Nat.le_of_ble_eq_true rfl) (ceC_25 ad cy) hvq1 dX11_remake_27 ?_
      refine lv_istore_n (lv' := [(3, .int vq1), (0, .ref (ad 0)), (1, .int xq1), (2, .int xq2)]) hx hb dX11_remake_28 rfl hl (by decide) rfl (fun ls hl => ?_)
      refine lv_aload_n hx hb dX11_remake_29 rfl (lv_at hl 1 rfl) ?_
      refine zget E hw (Nat.le_of_ble_eq_true rfl) (ceC_0 ad cy _) rfl inX11 2 (by decide) k2_123 (fun _ h => h) rfl dX11_remake_30 ?_
      refine zget E hw (Nat.le_of_ble_eq_true rfl) (ceC_24 ad cy _) rfl inX1 5 (by decide) k2_19 (fun _ h => h) rfl dX11_remake_33 ?_
      refine lv_iload_n hx hb dX11_remake_36 rfl (lv_at hl 2 rfl) ?_
      refine lv_iload_n hx hb dX11_remake_37 rfl (lv_at hl 3 rfl) ?_
      obtain ⟨σ2, hσ2, hf⟩ := bd_e hf
      refine zastr E hw (Nat.le_of_ble_eq_true rfl) (ceC_25 ad cy) hσ2 dX11_remake_38 (fun H locs hw => ?_)
      refine lv_iload_n hx hb dX11_remake_39 rfl (lv_at hl 0 rfl) ?_
      exact zreti E hw hr hlk (rt_a hf) (rt_b hf) dX11_remake_40
    · replace hf := it_f (b2i_0 h) hf
      refine lv_iconst (v := (-1)) hx hb dX11_remake_17 (by decide) ?_
      exact zreti E hw hr hlk (rt_a hf) (rt_b hf) dX11_remake_18
