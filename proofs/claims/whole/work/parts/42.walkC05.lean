set_option maxRecDepth 100000 in
set_option maxHeartbeats 4000000 in
theorem c_X11_liar {l : Launch} {D : va_G} {cy : Cy} {ad : Nat → Nat} {A : Nat → Prop} (hA : okAd 97 ad A) (σ : Sg) {r : Int32} (hf : f_X11_liar σ = some r) : Met l yX11_liar (.code yX11_liar cX11_liar 2 (some .int) :: TT) ({ frames := 5, cells := 0, slots := 0, locals := 118 } : Room) (zPc D cy 97 (celC ad cy) ad A [.ref (ad 0)] σ) (zQi D 97 (celC ad cy) ad A r σ) 0 0 A := by
  refine zofW (by decide) hA (Nat.le_of_ble_eq_true rfl) ?_
  intro p e s m args below meth c ls E hw hr hlk hl
  have E : ZE p s m args c cX11_liar 2 "KiteSummons" D cy 97 ad A := E
  have hx := E.hx
  have hb := E.hb
  have hl : lv_has ls 2 [(0, .ref (ad 0))] := hl
  have hB19 : ∀ (kq19 : Int32 → Option Int32) (hkq19 : ∀ (xq1 : Int32) (H : Heap) (locs : List Loc) (ls : Array Slot), ZS D 97 (celC ad cy) ad A s σ H locs → lv_has ls 2 [(0, .ref (ad 0)), (1, .int xq1)] → kq19 xq1 = some r → W p l e ({ frames := 5, cells := 0, slots := 0, locals := 118 } : Room) s m args below meth c H locs 0 0 (MQ below (zQi D 97 (celC ad cy) ad A r σ) args s 0 0 A) (F0 m 19 ls [])) (xq1 : Int32) (H : Heap) (locs : List Loc) (ls : Array Slot), ZS D 97 (celC ad cy) ad A s σ H locs → lv_has ls 2 [(0, .ref (ad 0)), (1, .int xq1)] → f_X11_liar_b19 kq19 σ xq1 = some r → W p l e ({ frames := 5, cells := 0, slots := 0, locals := 118 } : Room) s m args below meth c H locs 0 0 (MQ below (zQi D 97 (celC ad cy) ad A r σ) args s 0 0 A) (F0 m 19 ls []) := by
    intro kq19 hkq19 xq1 H locs ls hw hl hf
    unfold f_X11_liar_b19 at hf
    refine lv_iload_n hx hb dX11_liar_19 rfl (lv_at hl 1 rfl) ?_
    refine lv_aload_n hx hb dX11_liar_20 rfl (lv_at hl 0 rfl) ?_
    refine zget E hw (Nat.le_of_ble_eq_true rfl) (ceC_0 ad cy _) rfl inX11 2 (by decide) k2_123 (fun _ h => h) rfl dX11_liar_21 ?_
    refine zget E hw (Nat.le_of_ble_eq_true rfl) (ceC_24 ad cy _) rfl inX1 4 (by decide) k2_17 (fun _ h => h) rfl dX11_liar_24 ?_
    refine lv_icmp_ge (tgt := 51) hx hb dX11_liar_27 (by decide) (fun h => ?_) (fun h => ?_)
    · replace hf := it_t h hf
      refine lv_bipush (v := (-3)) hx hb dX11_liar_51 (by decide) ?_
      exact zreti E hw hr hlk (rt_1 hf) rfl dX11_liar_53
    · replace hf := it_f h hf
      refine lv_aload_n hx hb dX11_liar_30 rfl (lv_at hl 0 rfl) ?_
      refine zget E hw (Nat.le_of_ble_eq_true rfl) (ceC_0 ad cy _) rfl inX11 2 (by decide) k2_123 (fun _ h => h) rfl dX11_liar_31 ?_
      refine lv_iload_n hx hb dX11_liar_34 rfl (lv_at hl 1 rfl) ?_
      obtain ⟨vq2, hc, hf⟩ := bd_e hf
      refine zcali hw (va_runV (As := [.int xq1]) (rest := []) E.fix (c_X1_firstFitting (l := l) hA xq1 σ hc) (zcV E k4_210 k1_11 k4_207 k4_208 k4_209 mf_X1_firstFitting rfl rfl ⟨Nat.le_of_ble_eq_true rfl, Nat.le_of_ble_eq_true rfl⟩) (zPreV E hw (Nat.le_of_ble_eq_true rfl) (ceC_24 ad cy _) rfl _) rfl rfl hl.1 rfl (lv_room (Nat.le_of_ble_eq_true rfl)) dX11_liar_35 ⟨Nat.zero_le _, Nat.zero_le _⟩) (fun H locs hw => ?_)
      refine lv_bipush (v := (-3)) hx hb dX11_liar_38 (by decide) ?_
      refine lv_icmp_eq (tgt := 45) hx hb dX11_liar_40 (by decide) (fun h => ?_) (fun h => ?_)
      · replace hf := it_t h hf
        refine lv_iinc (v := (xq1 + 1)) (lv' := [(1, .int (xq1 + 1)), (0, .ref (ad 0))]) hx hb dX11_liar_45 hl (k := 1) rfl (by rfl) (by decide) rfl (fun ls hl => ?_)
        refine lv_goto (tgt := 19) hx hb dX11_liar_48 (by decide) ?_
        exact hkq19 (xq1 + 1) _ _ _ hw (lv_sub hl [1, 0] rfl) hf
      · replace hf := it_f h hf
        refine lv_iload_n hx hb dX11_liar_43 rfl (lv_at hl 1 rfl) ?_
        exact zreti E hw hr hlk (rt_1 hf) rfl dX11_liar_44
  have hL19 : ∀ (n : Nat) (xq1 : Int32) (H : Heap) (locs : List Loc) (ls : Array Slot), ZS D 97 (celC ad cy) ad A s σ H locs → lv_has ls 2 [(0, .ref (ad 0)), (1, .int xq1)] → f_X11_liar_l19 σ n xq1 = some r → W p l e ({ frames := 5, cells := 0, slots := 0, locals := 118 } : Room) s m args below meth c H locs 0 0 (MQ below (zQi D 97 (celC ad cy) ad A r σ) args s 0 0 A) (F0 m 19 ls []) := by
    intro n
    induction n with
    | zero =>
      intro xq1 H locs ls hw hl hf
      exact nn_e hf
    | succ n ih =>
      intro xq1 H locs ls hw hl hf
      exact hB19 (f_X11_liar_l19 σ n) ih xq1 H locs ls hw hl hf
  unfold f_X11_liar at hf
  refine lv_aload_n hx hb dX11_liar_0 rfl (lv_at hl 0 rfl) ?_
  refine zget E hw (Nat.le_of_ble_eq_true rfl) (ceC_0 ad cy _) rfl inX11 2 (by decide) k2_123 (fun _ h => h) rfl dX11_liar_1 ?_
  refine lv_bipush (v := (-3)) hx hb dX11_liar_4 (by decide) ?_
  obtain ⟨vq1, hc, hf⟩ := bd_e hf
  refine zcali hw (va_runV (As := [.int (-3)]) (rest := []) E.fix (c_X1_firstFitting (l := l) hA (-3) σ hc) (zcV E k4_210 k1_11 k4_207 k4_208 k4_209 mf_X1_firstFitting rfl rfl ⟨Nat.le_of_ble_eq_true rfl, Nat.le_of_ble_eq_true rfl⟩) (zPreV E hw (Nat.le_of_ble_eq_true rfl) (ceC_24 ad cy _) rfl _) rfl rfl hl.1 rfl (lv_room (Nat.le_of_ble_eq_true rfl)) dX11_liar_6 ⟨Nat.zero_le _, Nat.zero_le _⟩) (fun H locs hw => ?_)
  refine lv_bipush (v := (-3)) hx hb dX11_liar_9 (by decide) ?_
  refine lv_icmp_eq (tgt := 17) hx hb dX11_liar_11 (by decide) (fun h => ?_) (fun h => ?_)
  · replace hf := it_t h hf
    refine lv_iconst (v := 0) hx hb dX11_liar_17 (by decide) ?_
    refine lv_istore_n (lv' := [(1, .int 0), (0, .ref (ad 0))]) hx hb dX11_liar_18 rfl hl (by decide) rfl (fun ls hl => ?_)
    exact hL19 400 0 _ _ _ hw (lv_sub hl [1, 0] rfl) hf
  · replace hf := it_f h hf
    refine lv_bipush (v := (-3)) hx hb dX11_liar_14 (by decide) ?_
    exact zreti E hw hr hlk (rt_1 hf) rfl dX11_liar_16
set_option maxRecDepth 100000 in
set_option maxHeartbeats 4000000 in
theorem c_X11_seed {l : Launch} {D : va_G} {cy : Cy} {ad : Nat → Nat} {A : Nat → Prop} (hA : okAd 97 ad A) (xq1 : Int32) (σ : Sg) {r : Int32} {σ9 : Sg} (hf : f_X11_seed xq1 σ = (r, σ9)) : Met l yX11_seed (.code yX11_seed cX11_seed 3 (some .int) :: TT) ({ frames := 0, cells := 0, slots := 0, locals := 0 } : Room) (zPc D cy 97 (celC ad cy) ad A [.ref (ad 0), .int xq1] σ) (zQi D 97 (celC ad cy) ad A r σ9) 0 0 A := by
  refine zofW (by decide) hA (Nat.le_of_ble_eq_true rfl) ?_
  intro p e s m args below meth c ls E hw hr hlk hl
  have E : ZE p s m args c cX11_seed 3 "KiteSummons" D cy 97 ad A := E
  have hx := E.hx
  have hb := E.hb
  have hl : lv_has ls 3 [(0, .ref (ad 0)), (1, .int xq1)] := hl
  unfold f_X11_seed at hf
  refine lv_aload_n hx hb dX11_seed_0 rfl (lv_at hl 0 rfl) ?_
  refine zget E hw (Nat.le_of_ble_eq_true rfl) (ceC_0 ad cy _) rfl inX11 2 (by decide) k2_123 (fun _ h => h) rfl dX11_seed_1 ?_
  refine zget E hw (Nat.le_of_ble_eq_true rfl) (ceC_24 ad cy _) rfl inX1 3 (by decide) k2_15 (fun _ h => h) rfl dX11_seed_4 ?_
  refine lv_topi (fun vq1 evq1 => ?_)
  replace hf := lt_i evq1 hf
  refine lv_istore_n (lv' := [(2, .int vq1), (0, .ref (ad 0)), (1, .int xq1)]) hx hb dX11_seed_7 rfl hl (by decide) rfl (fun ls hl => ?_)
  refine lv_aload_n hx hb dX11_seed_8 rfl (lv_at hl 1 rfl) ?_
  refine zget E hw (Nat.le_of_ble_eq_true rfl) (ceC_0 ad cy _) rfl inX11 2 (by decide) k2_123 (fun _ h => h) rfl dX11_seed_9 ?_
  refine lv_iload_n hx hb dX11_seed_12 rfl (lv_at hl 2 rfl) ?_
  refine zputs E hw (Nat.le_of_ble_eq_true rfl) (ceC_24 ad cy _) rfl inX1 tyX1 tyX1_ok nmX1 3 (by decide) k2_15 (fun _ h => h) rfl rfl rfl (Nat.le_of_ble_eq_true rfl) (j := 3) (Eq.trans (ceC_24 ad cy _) (by rfl)) dX11_seed_13 (fun σ2 eσ2 H locs hw => ?_)
  replace hf := lt_i eσ2 hf
  refine lv_iload_n hx hb dX11_seed_16 rfl (lv_at hl 0 rfl) ?_
  exact zreti E hw hr hlk (rp_a hf) (rp_b hf) dX11_seed_17
set_option maxRecDepth 100000 in
set_option maxHeartbeats 4000000 in
theorem c_X11_nextLot {l : Launch} {D : va_G} {cy : Cy} {ad : Nat → Nat} {A : Nat → Prop} (hA : okAd 97 ad A) (xq0 : Int32) (σ : Sg) {r : Int32} (hf : f_X11_nextLot xq0 σ = r) : Met l yX11_nextLot (.code yX11_nextLot cX11_nextLot 1 (some .int) :: TT) ({ frames := 0, cells := 0, slots := 0, locals := 0 } : Room) (zPc D cy 97 (celC ad cy) ad A [.int xq0] σ) (zQi D 97 (celC ad cy) ad A r σ) 0 0 A := by
  refine zofW (by decide) hA (Nat.le_of_ble_eq_true rfl) ?_
  intro p e s m args below meth c ls E hw hr hlk hl
  have E : ZE p s m args c cX11_nextLot 1 "KiteSummons" D cy 97 ad A := E
  have hx := E.hx
  have hb := E.hb
  have hl : lv_has ls 1 [(0, .int xq0)] := hl
  unfold f_X11_nextLot at hf
  refine lv_iload_n hx hb dX11_nextLot_0 rfl (lv_at hl 0 rfl) ?_
  refine lv_ldcw (v := 1103515245) hx hb E.hown (E.ht _ k4_226) dX11_nextLot_1 ?_
  refine lv_imul hx hb dX11_nextLot_4 ?_
  refine lv_sipush (v := 12345) hx hb dX11_nextLot_5 (by decide) ?_
  refine lv_iadd hx hb dX11_nextLot_8 ?_
  exact zreti E hw hr hlk hf rfl dX11_nextLot_9
set_option maxRecDepth 100000 in
set_option maxHeartbeats 4000000 in
theorem c_X1_actOfLot {l : Launch} {D : va_G} {cy : Cy} {ad : Nat → Nat} {A : Nat → Prop} (hA : okAd 97 ad A) (xq1 : Int32) (σ : Sg) {r : Int32} (hf : f_X1_actOfLot xq1 σ = some r) : Met l yX1_actOfLot (.code yX1_actOfLot cX1_actOfLot 2 (some .int) :: TT) ({ frames := 0, cells := 0, slots := 0, locals := 0 } : Room) (zPc D cy 97 (celC ad cy) ad A [.ref (ad 24), .int xq1] σ) (zQi D 97 (celC ad cy) ad A r σ) 0 0 A := by
  refine zofW (by decide) hA (Nat.le_of_ble_eq_true rfl) ?_
  intro p e s m args below meth c ls E hw hr hlk hl
  have E : ZE p s m args c cX1_actOfLot 2 "KiteSummons$County" D cy 97 ad A := E
  have hx := E.hx
  have hb := E.hb
  have hl : lv_has ls 2 [(0, .ref (ad 24)), (1, .int xq1)] := hl
  unfold f_X1_actOfLot at hf
  refine lv_iload_n hx hb dX1_actOfLot_0 rfl (lv_at hl 1 rfl) ?_
  refine lv_bipush (v := 16) hx hb dX1_actOfLot_1 (by decide) ?_
  refine ziushr hx hb dX1_actOfLot_3 ?_
  refine lv_aload_n hx hb dX1_actOfLot_4 rfl (lv_at hl 0 rfl) ?_
  refine zget E hw (Nat.le_of_ble_eq_true rfl) (ceC_24 ad cy _) rfl inX1 1 (by decide) k2_9 (fun _ h => h) rfl dX1_actOfLot_5 ?_
  refine lv_iconst (v := 1) hx hb dX1_actOfLot_8 (by decide) ?_
  refine lv_iadd hx hb dX1_actOfLot_9 ?_
  obtain ⟨hzq1, hf⟩ := gd_e hf
  refine zirem hx hb dX1_actOfLot_10 hzq1 ?_
  exact zreti E hw hr hlk (rt_1 hf) rfl dX1_actOfLot_11
set_option maxRecDepth 100000 in
set_option maxHeartbeats 4000000 in
theorem c_X11_lot {l : Launch} {D : va_G} {cy : Cy} {ad : Nat → Nat} {A : Nat → Prop} (hA : okAd 97 ad A) (σ : Sg) {r : Int32} {σ9 : Sg} (hf : f_X11_lot σ = some (r, σ9)) : Met l yX11_lot (.code yX11_lot cX11_lot 1 (some .int) :: TT) ({ frames := 5, cells := 0, slots := 0, locals := 118 } : Room) (zPc D cy 97 (celC ad cy) ad A [.ref (ad 0)] σ) (zQi D 97 (celC ad cy) ad A r σ9) 0 0 A := by
  refine zofW (by decide) hA (Nat.le_of_ble_eq_true rfl) ?_
  intro p e s m args below meth c ls E hw hr hlk hl
  have E : ZE p s m args c cX11_lot 1 "KiteSummons" D cy 97 ad A := E
  have hx := E.hx
  have hb := E.hb
  have hl : lv_has ls 1 [(0, .ref (ad 0))] := hl
  unfold f_X11_lot at hf
  refine lv_aload_n hx hb dX11_lot_0 rfl (lv_at hl 0 rfl) ?_
  refine zget E hw (Nat.le_of_ble_eq_true rfl) (ceC_0 ad cy _) rfl inX11 2 (by decide) k2_123 (fun _ h => h) rfl dX11_lot_1 ?_
  refine lv_aload_n hx hb dX11_lot_4 rfl (lv_at hl 0 rfl) ?_
  refine zget E hw (Nat.le_of_ble_eq_true rfl) (ceC_0 ad cy _) rfl inX11 2 (by decide) k2_123 (fun _ h => h) rfl dX11_lot_5 ?_
  refine zget E hw (Nat.le_of_ble_eq_true rfl) (ceC_24 ad cy _) rfl inX1 15 (by decide) k2_36 (fun _ h => h) rfl dX11_lot_8 ?_
  refine zcali hw (va_runV (As := [.ref (ad 41)]) (rest := []) E.fix (c_X1_isOver (l := l) hA 41 (by unfold isSky; omega) σ rfl) (zcV E k3_106 k1_11 k3_103 k3_104 k3_105 mf_X1_isOver rfl rfl ⟨Nat.le_of_ble_eq_true rfl, Nat.le_of_ble_eq_true rfl⟩) (zPreV E hw (Nat.le_of_ble_eq_true rfl) (ceC_24 ad cy _) rfl _) rfl rfl hl.1 rfl (lv_room (Nat.le_of_ble_eq_true rfl)) dX11_lot_11 ⟨Nat.zero_le _, Nat.zero_le _⟩) (fun H locs hw => ?_)
  refine lv_if_eq (tgt := 20) hx hb dX11_lot_14 (by decide) (fun h => ?_) (fun h => ?_)
  · replace hf := it_f (b2i_0 h) hf
    refine lv_aload_n hx hb dX11_lot_20 rfl (lv_at hl 0 rfl) ?_
    refine zget E hw (Nat.le_of_ble_eq_true rfl) (ceC_0 ad cy _) rfl inX11 2 (by decide) k2_123 (fun _ h => h) rfl dX11_lot_21 ?_
    refine lv_aload_n hx hb dX11_lot_24 rfl (lv_at hl 0 rfl) ?_
    refine zget E hw (Nat.le_of_ble_eq_true rfl) (ceC_0 ad cy _) rfl inX11 2 (by decide) k2_123 (fun _ h => h) rfl dX11_lot_25 ?_
    refine zget E hw (Nat.le_of_ble_eq_true rfl) (ceC_24 ad cy _) rfl inX1 3 (by decide) k2_15 (fun _ h => h) rfl dX11_lot_28 ?_
    refine zcali hw (va_runS (As := [.int (σ 24 3)]) (rest := [.ref (ad 24)]) E.fix (c_X11_nextLot (l := l) hA (σ 24 3) σ rfl) (zcS E k4_225 k1_1 k4_223 k4_224 mf_X11_nextLot rfl rfl ⟨Nat.le_of_ble_eq_true rfl, Nat.le_of_ble_eq_true rfl⟩) (zPre E hw _) rfl rfl hl.1 rfl (lv_room (Nat.le_of_ble_eq_true rfl)) dX11_lot_31 ⟨Nat.zero_le _, Nat.zero_le _⟩) (fun H locs hw => ?_)
    refine zputs E hw (Nat.le_of_ble_eq_true rfl) (ceC_24 ad cy _) rfl inX1 tyX1 tyX1_ok nmX1 3 (by decide) k2_15 (fun _ h => h) rfl rfl rfl (Nat.le_of_ble_eq_true rfl) (j := 3) (Eq.trans (ceC_24 ad cy _) (by rfl)) dX11_lot_34 (fun σ1 eσ1 H locs hw => ?_)
    replace hf := lt_i eσ1 hf
    refine lv_aload_n hx hb dX11_lot_37 rfl (lv_at hl 0 rfl) ?_
    refine zget E hw (Nat.le_of_ble_eq_true rfl) (ceC_0 ad cy _) rfl inX11 2 (by decide) k2_123 (fun _ h => h) rfl dX11_lot_38 ?_
    refine lv_aload_n hx hb dX11_lot_41 rfl (lv_at hl 0 rfl) ?_
    refine zget E hw (Nat.le_of_ble_eq_true rfl) (ceC_0 ad cy _) rfl inX11 2 (by decide) k2_123 (fun _ h => h) rfl dX11_lot_42 ?_
    refine zget E hw (Nat.le_of_ble_eq_true rfl) (ceC_24 ad cy _) rfl inX1 15 (by decide) k2_36 (fun _ h => h) rfl dX11_lot_45 ?_
    refine lv_aload_n hx hb dX11_lot_48 rfl (lv_at hl 0 rfl) ?_
    refine zget E hw (Nat.le_of_ble_eq_true rfl) (ceC_0 ad cy _) rfl inX11 2 (by decide) k2_123 (fun _ h => h) rfl dX11_lot_49 ?_
    refine lv_aload_n hx hb dX11_lot_52 rfl (lv_at hl 0 rfl) ?_
    refine zget E hw (Nat.le_of_ble_eq_true rfl) (ceC_0 ad cy _) rfl inX11 2 (by decide) k2_123 (fun _ h => h) rfl dX11_lot_53 ?_
    refine zget E hw (Nat.le_of_ble_eq_true rfl) (ceC_24 ad cy _) rfl inX1 3 (by decide) k2_15 (fun _ h => h) rfl dX11_lot_56 ?_
    obtain ⟨vq2, hc, hf⟩ := bd_e hf
    refine zcali hw (va_runV (As := [.int (σ1 24 3)]) (rest := [.ref (ad 41), .ref (ad 24)]) E.fix (c_X1_actOfLot (l := l) hA (σ1 24 3) σ1 hc) (zcV E k4_230 k1_11 k4_227 k4_228 k4_229 mf_X1_actOfLot rfl rfl ⟨Nat.le_of_ble_eq_true rfl, Nat.le_of_ble_eq_true rfl⟩) (zPreV E hw (Nat.le_of_ble_eq_true rfl) (ceC_24 ad cy _) rfl _) rfl rfl hl.1 rfl (lv_room (Nat.le_of_ble_eq_true rfl)) dX11_lot_59 ⟨Nat.zero_le _, Nat.zero_le _⟩) (fun H locs hw => ?_)
    obtain ⟨vq3, σ4, hc, hf⟩ := bd2_e hf
    refine zcali hw (va_runV (As := [.ref (ad 41), .int vq2]) (rest := []) E.fix (c_X1_goByAct (l := l) hA 41 (by unfold isSky; omega) vq2 σ1 hc) (zcV E k4_88 k1_11 k4_85 k4_86 k4_87 mf_X1_goByAct rfl rfl ⟨Nat.le_of_ble_eq_true rfl, Nat.le_of_ble_eq_true rfl⟩) (zPreV E hw (Nat.le_of_ble_eq_true rfl) (ceC_24 ad cy _) rfl _) rfl rfl hl.1 rfl (lv_room (Nat.le_of_ble_eq_true rfl)) dX11_lot_62 ⟨Nat.zero_le _, Nat.zero_le _⟩) (fun H locs hw => ?_)
    exact zreti E hw hr hlk (rt_a hf) (rt_b hf) dX11_lot_65
  · replace hf := it_t (b2i_n h) hf
    refine lv_bipush (v := (-4)) hx hb dX11_lot_17 (by decide) ?_
    exact zreti E hw hr hlk (rt_a hf) (rt_b hf) dX11_lot_19
set_option maxRecDepth 100000 in
set_option maxHeartbeats 4000000 in
theorem c_X11_times {l : Launch} {D : va_G} {cy : Cy} {ad : Nat → Nat} {A : Nat → Prop} (hA : okAd 97 ad A) (xq1 : Int32) (xq2 : Int32) (σ : Sg) {r : Int32} {σ9 : Sg} (hf : f_X11_times xq1 xq2 σ = some (r, σ9)) : Met l yX11_times (.code yX11_times cX11_times 8 (some .int) :: TT) ({ frames := 5, cells := 0, slots := 0, locals := 118 } : Room) (zPc D cy 97 (celC ad cy) ad A [.ref (ad 0), .int xq1, .int xq2] σ) (zQi D 97 (celC ad cy) ad A r σ9) 0 0 A := by
  refine zofW (by decide) hA (Nat.le_of_ble_eq_true rfl) ?_
  intro p e s m args below meth c ls E hw hr hlk hl
  have E : ZE p s m args c cX11_times 8 "KiteSummons" D cy 97 ad A := E
  have hx := E.hx
  have hb := E.hb
  have hl : lv_has ls 8 [(0, .ref (ad 0)), (1, .int xq1), (2, .int xq2)] := hl
  have hB119 : ∀ (xq1 : Int32) (xq2 : Int32) (xq3 : Int32) (xq4 : Int32) (xq5 : Int32) (xq6 : Int32) (kq37 : Int32 → Int32 → Int32 → Sg → Option (Int32 × Sg)) (hkq37 : ∀ (xq3 : Int32) (xq4 : Int32) (xq5 : Int32) (σ : Sg) (H : Heap) (locs : List Loc) (ls : Array Slot), ZS D 97 (celC ad cy) ad A s σ H locs → lv_has ls 8 [(0, .ref (ad 0)), (1, .int xq1), (2, .int xq2), (3, .int xq3), (4, .int xq4), (5, .int xq5)] → kq37 xq3 xq4 xq5 σ = some (r, σ9) → W p l e ({ frames := 5, cells := 0, slots := 0, locals := 118 } : Room) s m args below meth c H locs 0 0 (MQ below (zQi D 97 (celC ad cy) ad A r σ9) args s 0 0 A) (F0 m 37 ls [])) (σ : Sg) (H : Heap) (locs : List Loc) (ls : Array Slot), ZS D 97 (celC ad cy) ad A s σ H locs → lv_has ls 8 [(0, .ref (ad 0)), (1, .int xq1), (2, .int xq2), (3, .int xq3), (4, .int xq4), (5, .int xq5), (6, .int xq6)] → f_X11_times_b119 kq37 xq1 xq2 xq3 xq4 xq5 xq6 σ = some (r, σ9) → W p l e ({ frames := 5, cells := 0, slots := 0, locals := 118 } : Room) s m args below meth c H locs 0 0 (MQ below (zQi D 97 (celC ad cy) ad A r σ9) args s 0 0 A) (F0 m 119 ls []) := by
    intro xq1 xq2 xq3 xq4 xq5 xq6 kq37 hkq37 σ H locs ls hw hl hf
    unfold f_X11_times_b119 at hf
    refine lv_iload hx hb dX11_times_119 (lv_at hl 6 rfl) ?_
    refine lv_iload_n hx hb dX11_times_121 rfl (lv_at hl 2 rfl) ?_
    refine lv_icmp_lt (tgt := 128) hx hb dX11_times_122 (by decide) (fun h => ?_) (fun h => ?_)
    · replace hf := it_t h hf
      refine lv_iinc (v := (xq5 + 1)) (lv' := [(5, .int (xq5 + 1)), (0, .ref (ad 0)), (1, .int xq1), (2, .int xq2), (3, .int xq3), (4, .int xq4), (6, .int xq6)]) hx hb dX11_times_128 hl (k := 5) rfl (by rfl) (by decide) rfl (fun ls hl => ?_)
      refine lv_goto (tgt := 37) hx hb dX11_times_131 (by decide) ?_
      exact hkq37 xq3 xq4 (xq5 + 1) σ _ _ _ hw (lv_sub hl [1, 2, 3, 4, 5, 0] rfl) hf
    · replace hf := it_f h hf
      refine lv_iinc (v := (xq4 + 1)) (lv' := [(4, .int (xq4 + 1)), (0, .ref (ad 0)), (1, .int xq1), (2, .int xq2), (3, .int xq3), (5, .int xq5), (6, .int xq6)]) hx hb dX11_times_125 hl (k := 4) rfl (by rfl) (by decide) rfl (fun ls hl => ?_)
      refine lv_iinc (v := (xq5 + 1)) (lv' := [(5, .int (xq5 + 1)), (4, .int (xq4 + 1)), (0, .ref (ad 0)), (1, .int xq1), (2, .int xq2), (3, .int xq3), (6, .int xq6)]) hx hb dX11_times_128 hl (k := 5) rfl (by rfl) (by decide) rfl (fun ls hl => ?_)
      refine lv_goto (tgt := 37) hx hb dX11_times_131 (by decide) ?_
      exact hkq37 xq3 (xq4 + 1) (xq5 + 1) σ _ _ _ hw (lv_sub hl [2, 3, 4, 5, 1, 0] rfl) hf
  have hB63 : ∀ (xq1 : Int32) (xq2 : Int32) (xq4 : Int32) (xq5 : Int32) (kq37 : Int32 → Int32 → Int32 → Sg → Option (Int32 × Sg)) (hkq37 : ∀ (xq3 : Int32) (xq4 : Int32) (xq5 : Int32) (σ : Sg) (H : Heap) (locs : List Loc) (ls : Array Slot), ZS D 97 (celC ad cy) ad A s σ H locs → lv_has ls 8 [(0, .ref (ad 0)), (1, .int xq1), (2, .int xq2), (3, .int xq3), (4, .int xq4), (5, .int xq5)] → kq37 xq3 xq4 xq5 σ = some (r, σ9) → W p l e ({ frames := 5, cells := 0, slots := 0, locals := 118 } : Room) s m args below meth c H locs 0 0 (MQ below (zQi D 97 (celC ad cy) ad A r σ9) args s 0 0 A) (F0 m 37 ls [])) (kq63 : Int32 → Int32 → Int32 → Sg → Option (Int32 × Sg)) (hkq63 : ∀ (xq3 : Int32) (xq6 : Int32) (xq7 : Int32) (σ : Sg) (H : Heap) (locs : List Loc) (ls : Array Slot), ZS D 97 (celC ad cy) ad A s σ H locs → lv_has ls 8 [(0, .ref (ad 0)), (1, .int xq1), (2, .int xq2), (3, .int xq3), (4, .int xq4), (5, .int xq5), (6, .int xq6), (7, .int xq7)] → kq63 xq3 xq6 xq7 σ = some (r, σ9) → W p l e ({ frames := 5, cells := 0, slots := 0, locals := 118 } : Room) s m args below meth c H locs 0 0 (MQ below (zQi D 97 (celC ad cy) ad A r σ9) args s 0 0 A) (F0 m 63 ls [])) (xq3 : Int32) (xq6 : Int32) (xq7 : Int32) (σ : Sg) (H : Heap) (locs : List Loc) (ls : Array Slot), ZS D 97 (celC ad cy) ad A s σ H locs → lv_has ls 8 [(0, .ref (ad 0)), (1, .int xq1), (2, .int xq2), (3, .int xq3), (4, .int xq4), (5, .int xq5), (6, .int xq6), (7, .int xq7)] → f_X11_times_b63 kq37 kq63 xq1 xq2 xq4 xq5 xq3 xq6 xq7 σ = some (r, σ9) → W p l e ({ frames := 5, cells := 0, slots := 0, locals := 118 } : Room) s m args below meth c H locs 0 0 (MQ below (zQi D 97 (celC ad cy) ad A r σ9) args s 0 0 A) (F0 m 63 ls []) := by
    intro xq1 xq2 xq4 xq5 kq37 hkq37 kq63 hkq63 xq3 xq6 xq7 σ H locs ls hw hl hf
    unfold f_X11_times_b63 at hf
    refine lv_iload hx hb dX11_times_63 (lv_at hl 7 rfl) ?_
    refine lv_bipush (v := 16) hx hb dX11_times_65 (by decide) ?_
    refine lv_icmp_ge (tgt := 119) hx hb dX11_times_67 (by decide) (fun h => ?_) (fun h => ?_)
    · replace hf := it_t h hf
      exact hB119 xq1 xq2 xq3 xq4 xq5 xq6 kq37 hkq37 σ _ _ _ hw (lv_sub hl [0, 1, 2, 3, 4, 5, 6] rfl) hf
    · replace hf := it_f h hf
      refine lv_aload_n hx hb dX11_times_70 rfl (lv_at hl 0 rfl) ?_
      refine zget E hw (Nat.le_of_ble_eq_true rfl) (ceC_0 ad cy _) rfl inX11 2 (by decide) k2_123 (fun _ h => h) rfl dX11_times_71 ?_
      refine lv_aload_n hx hb dX11_times_74 rfl (lv_at hl 0 rfl) ?_
      refine zget E hw (Nat.le_of_ble_eq_true rfl) (ceC_0 ad cy _) rfl inX11 6 (by decide) k2_127 (fun _ h => h) rfl dX11_times_75 ?_
      refine zcali hw (va_runV (As := [.ref (ad 64)]) (rest := []) E.fix (c_X1_isOver (l := l) hA 64 (by unfold isSky; omega) σ rfl) (zcV E k3_106 k1_11 k3_103 k3_104 k3_105 mf_X1_isOver rfl rfl ⟨Nat.le_of_ble_eq_true rfl, Nat.le_of_ble_eq_true rfl⟩) (zPreV E hw (Nat.le_of_ble_eq_true rfl) (ceC_24 ad cy _) rfl _) rfl rfl hl.1 rfl (lv_room (Nat.le_of_ble_eq_true rfl)) dX11_times_78 ⟨Nat.zero_le _, Nat.zero_le _⟩) (fun H locs hw => ?_)
      refine lv_if_ne (tgt := 119) hx hb dX11_times_81 (by decide) (fun h => ?_) (fun h => ?_)
      · replace hf := it_t (b2i_n h) hf
        exact hB119 xq1 xq2 xq3 xq4 xq5 xq6 kq37 hkq37 σ _ _ _ hw (lv_sub hl [0, 1, 2, 3, 4, 5, 6] rfl) hf
      · replace hf := it_f (b2i_0 h) hf
        refine lv_iload_n hx hb dX11_times_84 rfl (lv_at hl 3 rfl) ?_
        refine zcali hw (va_runS (As := [.int xq3]) (rest := []) E.fix (c_X11_nextLot (l := l) hA xq3 σ rfl) (zcS E k4_225 k1_1 k4_223 k4_224 mf_X11_nextLot rfl rfl ⟨Nat.le_of_ble_eq_true rfl, Nat.le_of_ble_eq_true rfl⟩) (zPre E hw _) rfl rfl hl.1 rfl (lv_room (Nat.le_of_ble_eq_true rfl)) dX11_times_85 ⟨Nat.zero_le _, Nat.zero_le _⟩) (fun H locs hw => ?_)
        refine lv_topi (fun vq3 evq3 => ?_)
        replace hf := lt_i evq3 hf
        refine lv_istore_n (lv' := [(3, .int vq3), (0, .ref (ad 0)), (1, .int xq1), (2, .int xq2), (4, .int xq4), (5, .int xq5), (6, .int xq6), (7, .int xq7)]) hx hb dX11_times_88 rfl hl (by decide) rfl (fun ls hl => ?_)
        refine lv_iload hx hb dX11_times_89 (lv_at hl 6 rfl) ?_
        refine lv_aload_n hx hb dX11_times_91 rfl (lv_at hl 1 rfl) ?_
        refine zget E hw (Nat.le_of_ble_eq_true rfl) (ceC_0 ad cy _) rfl inX11 2 (by decide) k2_123 (fun _ h => h) rfl dX11_times_92 ?_
        refine lv_aload_n hx hb dX11_times_95 rfl (lv_at hl 1 rfl) ?_
        refine zget E hw (Nat.le_of_ble_eq_true rfl) (ceC_0 ad cy _) rfl inX11 6 (by decide) k2_127 (fun _ h => h) rfl dX11_times_96 ?_
        refine lv_aload_n hx hb dX11_times_99 rfl (lv_at hl 1 rfl) ?_
        refine zget E hw (Nat.le_of_ble_eq_true rfl) (ceC_0 ad cy _) rfl inX11 2 (by decide) k2_123 (fun _ h => h) rfl dX11_times_100 ?_
        refine lv_iload_n hx hb dX11_times_103 rfl (lv_at hl 0 rfl) ?_
        obtain ⟨vq4, hc, hf⟩ := bd_e hf
        refine zcali hw (va_runV (As := [.int vq3]) (rest := [.ref (ad 64), .ref (ad 24), .int xq6]) E.fix (c_X1_actOfLot (l := l) hA vq3 σ hc) (zcV E k4_230 k1_11 k4_227 k4_228 k4_229 mf_X1_actOfLot rfl rfl ⟨Nat.le_of_ble_eq_true rfl, Nat.le_of_ble_eq_true rfl⟩) (zPreV E hw (Nat.le_of_ble_eq_true rfl) (ceC_24 ad cy _) rfl _) rfl rfl hl.1 rfl (lv_room (Nat.le_of_ble_eq_true rfl)) dX11_times_104 ⟨Nat.zero_le _, Nat.zero_le _⟩) (fun H locs hw => ?_)
        obtain ⟨vq5, σ6, hc, hf⟩ := bd2_e hf
        refine zcali hw (va_runV (As := [.ref (ad 64), .int vq4]) (rest := [.int xq6]) E.fix (c_X1_goByAct (l := l) hA 64 (by unfold isSky; omega) vq4 σ hc) (zcV E k4_88 k1_11 k4_85 k4_86 k4_87 mf_X1_goByAct rfl rfl ⟨Nat.le_of_ble_eq_true rfl, Nat.le_of_ble_eq_true rfl⟩) (zPreV E hw (Nat.le_of_ble_eq_true rfl) (ceC_24 ad cy _) rfl _) rfl rfl hl.1 rfl (lv_room (Nat.le_of_ble_eq_true rfl)) dX11_times_107 ⟨Nat.zero_le _, Nat.zero_le _⟩) (fun H locs hw => ?_)
        refine lv_iadd hx hb dX11_times_110 ?_
        refine lv_topi (fun vq7 evq7 => ?_)
        replace hf := lt_i evq7 hf
        refine lv_istore (lv' := [(6, .int vq7), (3, .int vq3), (0, .ref (ad 0)), (1, .int xq1), (2, .int xq2), (4, .int xq4), (5, .int xq5), (7, .int xq7)]) hx hb dX11_times_111 hl (by decide) rfl (fun ls hl => ?_)
        refine lv_iinc (v := (xq7 + 1)) (lv' := [(7, .int (xq7 + 1)), (6, .int vq7), (3, .int vq3), (0, .ref (ad 0)), (1, .int xq1), (2, .int xq2), (4, .int xq4), (5, .int xq5)]) hx hb dX11_times_113 hl (k := 7) rfl (by rfl) (by decide) rfl (fun ls hl => ?_)
        refine lv_goto (tgt := 63) hx hb dX11_times_116 (by decide) ?_
        exact hkq63 vq3 vq7 (xq7 + 1) σ6 _ _ _ hw (lv_sub hl [3, 4, 5, 2, 6, 7, 1, 0] rfl) hf
  have hL63 : ∀ (xq1 : Int32) (xq2 : Int32) (xq4 : Int32) (xq5 : Int32) (kq37 : Int32 → Int32 → Int32 → Sg → Option (Int32 × Sg)) (hkq37 : ∀ (xq3 : Int32) (xq4 : Int32) (xq5 : Int32) (σ : Sg) (H : Heap) (locs : List Loc) (ls : Array Slot), ZS D 97 (celC ad cy) ad A s σ H locs → lv_has ls 8 [(0, .ref (ad 0)), (1, .int xq1), (2, .int xq2), (3, .int xq3), (4, .int xq4), (5, .int xq5)] → kq37 xq3 xq4 xq5 σ = some (r, σ9) → W p l e ({ frames := 5, cells := 0, slots := 0, locals := 118 } : Room) s m args below meth c H locs 0 0 (MQ below (zQi D 97 (celC ad cy) ad A r σ9) args s 0 0 A) (F0 m 37 ls [])) (n : Nat) (xq3 : Int32) (xq6 : Int32) (xq7 : Int32) (σ : Sg) (H : Heap) (locs : List Loc) (ls : Array Slot), ZS D 97 (celC ad cy) ad A s σ H locs → lv_has ls 8 [(0, .ref (ad 0)), (1, .int xq1), (2, .int xq2), (3, .int xq3), (4, .int xq4), (5, .int xq5), (6, .int xq6), (7, .int xq7)] → f_X11_times_l63 kq37 xq1 xq2 xq4 xq5 n xq3 xq6 xq7 σ = some (r, σ9) → W p l e ({ frames := 5, cells := 0, slots := 0, locals := 118 } : Room) s m args below meth c H locs 0 0 (MQ below (zQi D 97 (celC ad cy) ad A r σ9) args s 0 0 A) (F0 m 63 ls []) := by
    intro xq1 xq2 xq4 xq5 kq37 hkq37 n
    induction n with
    | zero =>
      intro xq3 xq6 xq7 σ H locs ls hw hl hf
      exact nn_e hf
    | succ n ih =>
      intro xq3 xq6 xq7 σ H locs ls hw hl hf
      exact hB63 xq1 xq2 xq4 xq5 kq37 hkq37 (f_X11_times_l63 kq37 xq1 xq2 xq4 xq5 n) ih xq3 xq6 xq7 σ H locs ls hw hl hf
  have hB37 : ∀ (xq1 : Int32) (xq2 : Int32) (kq37 : Int32 → Int32 → Int32 → Sg → Option (Int32 × Sg)) (hkq37 : ∀ (xq3 : Int32) (xq4 : Int32) (xq5 : Int32) (σ : Sg) (H : Heap) (locs : List Loc) (ls : Array Slot), ZS D 97 (celC ad cy) ad A s σ H locs → lv_has ls 8 [(0, .ref (ad 0)), (1, .int xq1), (2, .int xq2), (3, .int xq3), (4, .int xq4), (5, .int xq5)] → kq37 xq3 xq4 xq5 σ = some (r, σ9) → W p l e ({ frames := 5, cells := 0, slots := 0, locals := 118 } : Room) s m args below meth c H locs 0 0 (MQ below (zQi D 97 (celC ad cy) ad A r σ9) args s 0 0 A) (F0 m 37 ls [])) (xq3 : Int32) (xq4 : Int32) (xq5 : Int32) (σ : Sg) (H : Heap) (locs : List Loc) (ls : Array Slot), ZS D 97 (celC ad cy) ad A s σ H locs → lv_has ls 8 [(0, .ref (ad 0)), (1, .int xq1), (2, .int xq2), (3, .int xq3), (4, .int xq4), (5, .int xq5)] → f_X11_times_b37 kq37 xq1 xq2 xq3 xq4 xq5 σ = some (r, σ9) → W p l e ({ frames := 5, cells := 0, slots := 0, locals := 118 } : Room) s m args below meth c H locs 0 0 (MQ below (zQi D 97 (celC ad cy) ad A r σ9) args s 0 0 A) (F0 m 37 ls []) := by
    intro xq1 xq2 kq37 hkq37 xq3 xq4 xq5 σ H locs ls hw hl hf
    unfold f_X11_times_b37 at hf
    refine lv_iload hx hb dX11_times_37 (lv_at hl 5 rfl) ?_
    refine lv_iload_n hx hb dX11_times_39 rfl (lv_at hl 1 rfl) ?_
    refine lv_icmp_ge (tgt := 134) hx hb dX11_times_40 (by decide) (fun h => ?_) (fun h => ?_)
    · replace hf := it_t h hf
      refine lv_iload hx hb dX11_times_134 (lv_at hl 4 rfl) ?_
      exact zreti E hw hr hlk (rt_a hf) (rt_b hf) dX11_times_136
    · replace hf := it_f h hf
      refine lv_aload_n hx hb dX11_times_43 rfl (lv_at hl 0 rfl) ?_
      refine zget E hw (Nat.le_of_ble_eq_true rfl) (ceC_0 ad cy _) rfl inX11 6 (by decide) k2_127 (fun _ h => h) rfl dX11_times_44 ?_
      refine lv_aload_n hx hb dX11_times_47 rfl (lv_at hl 0 rfl) ?_
      refine zget E hw (Nat.le_of_ble_eq_true rfl) (ceC_0 ad cy _) rfl inX11 2 (by decide) k2_123 (fun _ h => h) rfl dX11_times_48 ?_
      refine zget E hw (Nat.le_of_ble_eq_true rfl) (ceC_24 ad cy _) rfl inX1 15 (by decide) k2_36 (fun _ h => h) rfl dX11_times_51 ?_
      obtain ⟨σ2, hc, hf⟩ := lt_e hf
      refine zcalv hw (va_runV (As := [.ref (ad 41)]) (rest := []) E.fix (c_X10_copy (l := l) hA 64 (by unfold isSky; omega) 41 (by unfold isSky; omega) σ hc) (zcV E k4_63 k1_4 k4_60 k4_61 k4_62 mf_X10_copy rfl rfl ⟨Nat.le_of_ble_eq_true rfl, Nat.le_of_ble_eq_true rfl⟩) (zPreV E hw (Nat.le_of_ble_eq_true rfl) (ceC_64 ad cy _) rfl _) rfl rfl hl.1 rfl (lv_room (Nat.le_of_ble_eq_true rfl)) dX11_times_54 ⟨Nat.zero_le _, Nat.zero_le _⟩) (fun H locs hw => ?_)
      refine lv_iconst (v := 0) hx hb dX11_times_57 (by decide) ?_
      refine lv_istore (lv' := [(6, .int 0), (0, .ref (ad 0)), (1, .int xq1), (2, .int xq2), (3, .int xq3), (4, .int xq4), (5, .int xq5)]) hx hb dX11_times_58 hl (by decide) rfl (fun ls hl => ?_)
      refine lv_iconst (v := 0) hx hb dX11_times_60 (by decide) ?_
      refine lv_istore (lv' := [(7, .int 0), (6, .int 0), (0, .ref (ad 0)), (1, .int xq1), (2, .int xq2), (3, .int xq3), (4, .int xq4), (5, .int xq5)]) hx hb dX11_times_61 hl (by decide) rfl (fun ls hl => ?_)
      exact hL63 xq1 xq2 xq4 xq5 kq37 hkq37 400 xq3 0 0 σ2 _ _ _ hw (lv_sub hl [2, 3, 4, 5, 6, 7, 1, 0] rfl) hf
  have hL37 : ∀ (xq1 : Int32) (xq2 : Int32) (n : Nat) (xq3 : Int32) (xq4 : Int32) (xq5 : Int32) (σ : Sg) (H : Heap) (locs : List Loc) (ls : Array Slot), ZS D 97 (celC ad cy) ad A s σ H locs → lv_has ls 8 [(0, .ref (ad 0)), (1, .int xq1), (2, .int xq2), (3, .int xq3), (4, .int xq4), (5, .int xq5)] → f_X11_times_l37 xq1 xq2 n xq3 xq4 xq5 σ = some (r, σ9) → W p l e ({ frames := 5, cells := 0, slots := 0, locals := 118 } : Room) s m args below meth c H locs 0 0 (MQ below (zQi D 97 (celC ad cy) ad A r σ9) args s 0 0 A) (F0 m 37 ls []) := by
    intro xq1 xq2 n
    induction n with
    | zero =>
      intro xq3 xq4 xq5 σ H locs ls hw hl hf
      exact nn_e hf
    | succ n ih =>
      intro xq3 xq4 xq5 σ H locs ls hw hl hf
      exact hB37 xq1 xq2 (f_X11_times_l37 xq1 xq2 n) ih xq3 xq4 xq5 σ H locs ls hw hl hf
  unfold f_X11_times at hf
  refine lv_iload_n hx hb dX11_times_0 rfl (lv_at hl 1 rfl) ?_
  refine lv_iconst (v := 1) hx hb dX11_times_1 (by decide) ?_
  refine lv_bipush (v := 40) hx hb dX11_times_2 (by decide) ?_
  refine zcali hw (va_runS (As := [.int xq1, .int 1, .int 40]) (rest := []) E.fix (c_X11_within (l := l) hA xq1 1 40 σ rfl) (zcS E k2_179 k1_1 k2_177 k2_178 mf_X11_within rfl rfl ⟨Nat.le_of_ble_eq_true rfl, Nat.le_of_ble_eq_true rfl⟩) (zPre E hw _) rfl rfl hl.1 rfl (lv_room (Nat.le_of_ble_eq_true rfl)) dX11_times_4 ⟨Nat.zero_le _, Nat.zero_le _⟩) (fun H locs hw => ?_)
  refine lv_if_eq (tgt := 21) hx hb dX11_times_7 (by decide) (fun h => ?_) (fun h => ?_)
  · replace hf := it_f (b2i_0 h) hf
    refine lv_iconst (v := (-1)) hx hb dX11_times_21 (by decide) ?_
    exact zreti E hw hr hlk (rt_a hf) (rt_b hf) dX11_times_22
  · replace hf := it_t (b2i_n h) hf
    refine lv_iload_n hx hb dX11_times_10 rfl (lv_at hl 2 rfl) ?_
    refine lv_iconst (v := 0) hx hb dX11_times_11 (by decide) ?_
    refine lv_sipush (v := 999) hx hb dX11_times_12 (by decide) ?_
    refine zcali hw (va_runS (As := [.int xq2, .int 0, .int 999]) (rest := []) E.fix (c_X11_within (l := l) hA xq2 0 999 σ rfl) (zcS E k2_179 k1_1 k2_177 k2_178 mf_X11_within rfl rfl ⟨Nat.le_of_ble_eq_true rfl, Nat.le_of_ble_eq_true rfl⟩) (zPre E hw _) rfl rfl hl.1 rfl (lv_room (Nat.le_of_ble_eq_true rfl)) dX11_times_15 ⟨Nat.zero_le _, Nat.zero_le _⟩) (fun H locs hw => ?_)
    refine lv_if_ne (tgt := 23) hx hb dX11_times_18 (by decide) (fun h => ?_) (fun h => ?_)
    · replace hf := it_t (b2i_n h) hf
      refine lv_aload_n hx hb dX11_times_23 rfl (lv_at hl 0 rfl) ?_
      refine zget E hw (Nat.le_of_ble_eq_true rfl) (ceC_0 ad cy _) rfl inX11 2 (by decide) k2_123 (fun _ h => h) rfl dX11_times_24 ?_
      refine zget E hw (Nat.le_of_ble_eq_true rfl) (ceC_24 ad cy _) rfl inX1 3 (by decide) k2_15 (fun _ h => h) rfl dX11_times_27 ?_
      refine lv_topi (fun vq1 evq1 => ?_)
      replace hf := lt_i evq1 hf
      refine lv_istore_n (lv' := [(3, .int vq1), (0, .ref (ad 0)), (1, .int xq1), (2, .int xq2)]) hx hb dX11_times_30 rfl hl (by decide) rfl (fun ls hl => ?_)
      refine lv_iconst (v := 0) hx hb dX11_times_31 (by decide) ?_
      refine lv_istore (lv' := [(4, .int 0), (3, .int vq1), (0, .ref (ad 0)), (1, .int xq1), (2, .int xq2)]) hx hb dX11_times_32 hl (by decide) rfl (fun ls hl => ?_)
      refine lv_iconst (v := 0) hx hb dX11_times_34 (by decide) ?_
      refine lv_istore (lv' := [(5, .int 0), (4, .int 0), (3, .int vq1), (0, .ref (ad 0)), (1, .int xq1), (2, .int xq2)]) hx hb dX11_times_35 hl (by decide) rfl (fun ls hl => ?_)
      exact hL37 xq1 xq2 400 vq1 0 0 σ _ _ _ hw (lv_sub hl [3, 4, 5, 2, 1, 0] rfl) hf
    · replace hf := it_f (b2i_0 h) hf
      refine lv_iconst (v := (-1)) hx hb dX11_times_21 (by decide) ?_
      exact zreti E hw hr hlk (rt_a hf) (rt_b hf) dX11_times_22
set_option maxRecDepth 100000 in
set_option maxHeartbeats 4000000 in
theorem c_X11_prove {l : Launch} {D : va_G} {cy : Cy} {ad : Nat → Nat} {A : Nat → Prop} (hA : okAd 97 ad A) (xq1 : Int32) (σ : Sg) {r : Int32} {σ9 : Sg} (hf : f_X11_prove xq1 σ = some (r, σ9)) : Met l yX11_prove (.code yX11_prove cX11_prove 3 (some .int) :: TT) ({ frames := 13, cells := 0, slots := 0, locals := 336 } : Room) (zPc D cy 97 (celC ad cy) ad A [.ref (ad 0), .int xq1] σ) (zQi D 97 (celC ad cy) ad A r σ9) 0 0 A := by
  refine zofW (by decide) hA (Nat.le_of_ble_eq_true rfl) ?_
  intro p e s m args below meth c ls E hw hr hlk hl
  have E : ZE p s m args c cX11_prove 3 "KiteSummons" D cy 97 ad A := E
  have hx := E.hx
  have hb := E.hb
  have hl : lv_has ls 3 [(0, .ref (ad 0)), (1, .int xq1)] := hl
  have hB34 : ∀ (kq34 : Int32 → Sg → Option (Int32 × Sg)) (hkq34 : ∀ (xq2 : Int32) (σ : Sg) (H : Heap) (locs : List Loc) (ls : Array Slot), ZS D 97 (celC ad cy) ad A s σ H locs → lv_has ls 3 [(0, .ref (ad 0)), (2, .int xq2)] → kq34 xq2 σ = some (r, σ9) → W p l e ({ frames := 13, cells := 0, slots := 0, locals := 336 } : Room) s m args below meth c H locs 0 0 (MQ below (zQi D 97 (celC ad cy) ad A r σ9) args s 0 0 A) (F0 m 34 ls [])) (xq2 : Int32) (σ : Sg) (H : Heap) (locs : List Loc) (ls : Array Slot), ZS D 97 (celC ad cy) ad A s σ H locs → lv_has ls 3 [(0, .ref (ad 0)), (2, .int xq2)] → f_X11_prove_b34 kq34 xq2 σ = some (r, σ9) → W p l e ({ frames := 13, cells := 0, slots := 0, locals := 336 } : Room) s m args below meth c H locs 0 0 (MQ below (zQi D 97 (celC ad cy) ad A r σ9) args s 0 0 A) (F0 m 34 ls []) := by
    intro kq34 hkq34 xq2 σ H locs ls hw hl hf
    unfold f_X11_prove_b34 at hf
    refine lv_iload_n hx hb dX11_prove_34 rfl (lv_at hl 1 rfl) ?_
    refine lv_aload_n hx hb dX11_prove_35 rfl (lv_at hl 0 rfl) ?_
    refine zget E hw (Nat.le_of_ble_eq_true rfl) (ceC_0 ad cy _) rfl inX11 5 (by decide) k2_126 (fun _ h => h) rfl dX11_prove_36 ?_
    refine zget E hw (Nat.le_of_ble_eq_true rfl) (ceC_78 ad cy _) rfl inX6 4 (by decide) k2_85 (fun _ h => h) rfl dX11_prove_39 ?_
    refine lv_icmp_ge (tgt := 111) hx hb dX11_prove_42 (by decide) (fun h => ?_) (fun h => ?_)
    · replace hf := it_t h hf
      refine lv_aload_n hx hb dX11_prove_111 rfl (lv_at hl 0 rfl) ?_
      refine lv_aload_n hx hb dX11_prove_112 rfl (lv_at hl 0 rfl) ?_
      refine zget E hw (Nat.le_of_ble_eq_true rfl) (ceC_0 ad cy _) rfl inX11 5 (by decide) k2_126 (fun _ h => h) rfl dX11_prove_113 ?_
      refine zget E hw (Nat.le_of_ble_eq_true rfl) (ceC_78 ad cy _) rfl inX6 4 (by decide) k2_85 (fun _ h => h) rfl dX11_prove_116 ?_
      refine zputs E hw (Nat.le_of_ble_eq_true rfl) (ceC_0 ad cy _) rfl inX11 tyX11 tyX11_ok nmX11 15 (by decide) k2_136 (fun _ h => h) rfl rfl rfl (Nat.le_of_ble_eq_true rfl) (j := 15) (Eq.trans (ceC_0 ad cy _) (by rfl)) dX11_prove_119 (fun σ3 eσ3 H locs hw => ?_)
      replace hf := lt_i eσ3 hf
      refine lv_aload_n hx hb dX11_prove_122 rfl (lv_at hl 0 rfl) ?_
      refine zget E hw (Nat.le_of_ble_eq_true rfl) (ceC_0 ad cy _) rfl inX11 15 (by decide) k2_136 (fun _ h => h) rfl dX11_prove_123 ?_
      exact zreti E hw hr hlk (rt_a hf) (rt_b hf) dX11_prove_126
    · replace hf := it_f h hf
      refine lv_aload_n hx hb dX11_prove_45 rfl (lv_at hl 0 rfl) ?_
      refine zget E hw (Nat.le_of_ble_eq_true rfl) (ceC_0 ad cy _) rfl inX11 7 (by decide) k2_128 (fun _ h => h) rfl dX11_prove_46 ?_
      refine lv_iload_n hx hb dX11_prove_49 rfl (lv_at hl 1 rfl) ?_
      obtain ⟨hiq4, hf⟩ := gd_e hf
      refine zaldq E hw (Nat.le_of_ble_eq_true rfl) 5 rfl rfl (ceC_14 ad cy _) hiq4 dX11_prove_50 ?_
      refine lv_iconst (v := 0) hx hb dX11_prove_51 (by decide) ?_
      refine lv_aload_n hx hb dX11_prove_52 rfl (lv_at hl 0 rfl) ?_
      refine zget E hw (Nat.le_of_ble_eq_true rfl) (ceC_0 ad cy _) rfl inX11 5 (by decide) k2_126 (fun _ h => h) rfl dX11_prove_53 ?_
      refine zget E hw (Nat.le_of_ble_eq_true rfl) (ceC_78 ad cy _) rfl inX6 3 (by decide) k2_83 (fun _ h => h) rfl dX11_prove_56 ?_
      refine lv_iload_n hx hb dX11_prove_59 rfl (lv_at hl 1 rfl) ?_
      obtain ⟨vq5, hvq5, hf⟩ := bd_e hf
      refine zaldr E hw (Nat.le_of_ble_eq_true rfl) (ceC_81 ad cy) hvq5 dX11_prove_60 ?_
      refine zastk E hw (ltRow (rowOf (nlt hiq4))) (fun r => ceRow ad cy r (rowOf (nlt hiq4))) 0 (by rfl) (Nat.le_of_ble_eq_true rfl) (by decide) dX11_prove_61 (fun σ6 eσ6 H locs hw => ?_)
      replace hf := lt_i eσ6 hf
      refine lv_aload_n hx hb dX11_prove_62 rfl (lv_at hl 0 rfl) ?_
      refine zget E hw (Nat.le_of_ble_eq_true rfl) (ceC_0 ad cy _) rfl inX11 7 (by decide) k2_128 (fun _ h => h) rfl dX11_prove_63 ?_
      refine lv_iload_n hx hb dX11_prove_66 rfl (lv_at hl 1 rfl) ?_
      obtain ⟨hiq7, hf⟩ := gd_e hf
      refine zaldq E hw (Nat.le_of_ble_eq_true rfl) 5 rfl rfl (ceC_14 ad cy _) hiq7 dX11_prove_67 ?_
      refine lv_iconst (v := 1) hx hb dX11_prove_68 (by decide) ?_
      refine lv_aload_n hx hb dX11_prove_69 rfl (lv_at hl 0 rfl) ?_
      refine zget E hw (Nat.le_of_ble_eq_true rfl) (ceC_0 ad cy _) rfl inX11 2 (by decide) k2_123 (fun _ h => h) rfl dX11_prove_70 ?_
      refine lv_aload_n hx hb dX11_prove_73 rfl (lv_at hl 0 rfl) ?_
      refine zget E hw (Nat.le_of_ble_eq_true rfl) (ceC_0 ad cy _) rfl inX11 6 (by decide) k2_127 (fun _ h => h) rfl dX11_prove_74 ?_
      refine lv_aload_n hx hb dX11_prove_77 rfl (lv_at hl 0 rfl) ?_
      refine zget E hw (Nat.le_of_ble_eq_true rfl) (ceC_0 ad cy _) rfl inX11 5 (by decide) k2_126 (fun _ h => h) rfl dX11_prove_78 ?_
      refine zget E hw (Nat.le_of_ble_eq_true rfl) (ceC_78 ad cy _) rfl inX6 3 (by decide) k2_83 (fun _ h => h) rfl dX11_prove_81 ?_
      refine lv_iload_n hx hb dX11_prove_84 rfl (lv_at hl 1 rfl) ?_
      obtain ⟨vq8, hvq8, hf⟩ := bd_e hf
      refine zaldr E hw (Nat.le_of_ble_eq_true rfl) (ceC_81 ad cy) hvq8 dX11_prove_85 ?_
      obtain ⟨vq9, σ10, hc, hf⟩ := bd2_e hf
      refine zcali hw (va_runV (As := [.ref (ad 64), .int vq8]) (rest := [.int 1, .ref (ad (15 + xq2.toNatClampNeg))]) E.fix (c_X1_goByAct (l := l) hA 64 (by unfold isSky; omega) vq8 σ6 hc) (zcV E k4_88 k1_11 k4_85 k4_86 k4_87 mf_X1_goByAct rfl rfl ⟨Nat.le_of_ble_eq_true rfl, Nat.le_of_ble_eq_true rfl⟩) (zPreV E hw (Nat.le_of_ble_eq_true rfl) (ceC_24 ad cy _) rfl _) rfl rfl hl.1 rfl (lv_room (Nat.le_of_ble_eq_true rfl)) dX11_prove_86 ⟨Nat.zero_le _, Nat.zero_le _⟩) (fun H locs hw => ?_)
      refine zastk E hw (ltRow (rowOf (nlt hiq7))) (fun r => ceRow ad cy r (rowOf (nlt hiq7))) 1 (by rfl) (Nat.le_of_ble_eq_true rfl) (by decide) dX11_prove_89 (fun σ11 eσ11 H locs hw => ?_)
      replace hf := lt_i eσ11 hf
      refine lv_aload_n hx hb dX11_prove_90 rfl (lv_at hl 0 rfl) ?_
      refine zget E hw (Nat.le_of_ble_eq_true rfl) (ceC_0 ad cy _) rfl inX11 7 (by decide) k2_128 (fun _ h => h) rfl dX11_prove_91 ?_
      refine lv_iload_n hx hb dX11_prove_94 rfl (lv_at hl 1 rfl) ?_
      obtain ⟨hiq12, hf⟩ := gd_e hf
      refine zaldq E hw (Nat.le_of_ble_eq_true rfl) 5 rfl rfl (ceC_14 ad cy _) hiq12 dX11_prove_95 ?_
      refine lv_iconst (v := 2) hx hb dX11_prove_96 (by decide) ?_
      refine lv_aload_n hx hb dX11_prove_97 rfl (lv_at hl 0 rfl) ?_
      refine zget E hw (Nat.le_of_ble_eq_true rfl) (ceC_0 ad cy _) rfl inX11 6 (by decide) k2_127 (fun _ h => h) rfl dX11_prove_98 ?_
      refine zget E hw (Nat.le_of_ble_eq_true rfl) (ceC_64 ad cy _) rfl inX10 3 (by decide) k1_118 (fun _ h => h) rfl dX11_prove_101 ?_
      refine zastk E hw (ltRow (rowOf (nlt hiq12))) (fun r => ceRow ad cy r (rowOf (nlt hiq12))) 2 (by rfl) (Nat.le_of_ble_eq_true rfl) (by decide) dX11_prove_104 (fun σ13 eσ13 H locs hw => ?_)
      replace hf := lt_i eσ13 hf
      refine lv_iinc (v := (xq2 + 1)) (lv' := [(2, .int (xq2 + 1)), (0, .ref (ad 0))]) hx hb dX11_prove_105 hl (k := 1) rfl (by rfl) (by decide) rfl (fun ls hl => ?_)
      refine lv_goto (tgt := 34) hx hb dX11_prove_108 (by decide) ?_
      exact hkq34 (xq2 + 1) σ13 _ _ _ hw (lv_sub hl [1, 0] rfl) hf
  have hL34 : ∀ (n : Nat) (xq2 : Int32) (σ : Sg) (H : Heap) (locs : List Loc) (ls : Array Slot), ZS D 97 (celC ad cy) ad A s σ H locs → lv_has ls 3 [(0, .ref (ad 0)), (2, .int xq2)] → f_X11_prove_l34 n xq2 σ = some (r, σ9) → W p l e ({ frames := 13, cells := 0, slots := 0, locals := 336 } : Room) s m args below meth c H locs 0 0 (MQ below (zQi D 97 (celC ad cy) ad A r σ9) args s 0 0 A) (F0 m 34 ls []) := by
    intro n
    induction n with
    | zero =>
      intro xq2 σ H locs ls hw hl hf
      exact nn_e hf
    | succ n ih =>
      intro xq2 σ H locs ls hw hl hf
      exact hB34 (f_X11_prove_l34 n) ih xq2 σ H locs ls hw hl hf
  unfold f_X11_prove at hf
  refine lv_iload_n hx hb dX11_prove_0 rfl (lv_at hl 1 rfl) ?_
  refine zcali hw (va_runS (As := [.int xq1]) (rest := []) E.fix (c_X11_isPlanLength (l := l) hA xq1 σ rfl) (zcS E k4_130 k1_1 k4_128 k4_129 mf_X11_isPlanLength rfl rfl ⟨Nat.le_of_ble_eq_true rfl, Nat.le_of_ble_eq_true rfl⟩) (zPre E hw _) rfl rfl hl.1 rfl (lv_room (Nat.le_of_ble_eq_true rfl)) dX11_prove_1 ⟨Nat.zero_le _, Nat.zero_le _⟩) (fun H locs hw => ?_)
  refine lv_if_ne (tgt := 9) hx hb dX11_prove_4 (by decide) (fun h => ?_) (fun h => ?_)
  · replace hf := it_t (b2i_n h) hf
    refine lv_aload_n hx hb dX11_prove_9 rfl (lv_at hl 0 rfl) ?_
    refine zget E hw (Nat.le_of_ble_eq_true rfl) (ceC_0 ad cy _) rfl inX11 5 (by decide) k2_126 (fun _ h => h) rfl dX11_prove_10 ?_
    refine lv_iload_n hx hb dX11_prove_13 rfl (lv_at hl 1 rfl) ?_
    refine lv_iconst (v := 0) hx hb dX11_prove_14 (by decide) ?_
    obtain ⟨σ1, hc, hf⟩ := bd_e hf
    refine zcalv hw (va_runV (As := [.int xq1, .int 0]) (rest := []) E.fix (c_X6_search (l := l) hA xq1 0 σ hc) (zcV E k4_134 k1_13 k4_131 k4_132 k4_133 mf_X6_search rfl rfl ⟨Nat.le_of_ble_eq_true rfl, Nat.le_of_ble_eq_true rfl⟩) (zPreV E hw (Nat.le_of_ble_eq_true rfl) (ceC_78 ad cy _) rfl _) rfl rfl hl.1 rfl (lv_room (Nat.le_of_ble_eq_true rfl)) dX11_prove_15 ⟨Nat.zero_le _, Nat.zero_le _⟩) (fun H locs hw => ?_)
    refine lv_aload_n hx hb dX11_prove_18 rfl (lv_at hl 0 rfl) ?_
    refine zget E hw (Nat.le_of_ble_eq_true rfl) (ceC_0 ad cy _) rfl inX11 6 (by decide) k2_127 (fun _ h => h) rfl dX11_prove_19 ?_
    refine lv_aload_n hx hb dX11_prove_22 rfl (lv_at hl 0 rfl) ?_
    refine zget E hw (Nat.le_of_ble_eq_true rfl) (ceC_0 ad cy _) rfl inX11 2 (by decide) k2_123 (fun _ h => h) rfl dX11_prove_23 ?_
    refine zget E hw (Nat.le_of_ble_eq_true rfl) (ceC_24 ad cy _) rfl inX1 15 (by decide) k2_36 (fun _ h => h) rfl dX11_prove_26 ?_
    obtain ⟨σ2, hc, hf⟩ := lt_e hf
    refine zcalv hw (va_runV (As := [.ref (ad 41)]) (rest := []) E.fix (c_X10_copy (l := l) hA 64 (by unfold isSky; omega) 41 (by unfold isSky; omega) σ1 hc) (zcV E k4_63 k1_4 k4_60 k4_61 k4_62 mf_X10_copy rfl rfl ⟨Nat.le_of_ble_eq_true rfl, Nat.le_of_ble_eq_true rfl⟩) (zPreV E hw (Nat.le_of_ble_eq_true rfl) (ceC_64 ad cy _) rfl _) rfl rfl hl.1 rfl (lv_room (Nat.le_of_ble_eq_true rfl)) dX11_prove_29 ⟨Nat.zero_le _, Nat.zero_le _⟩) (fun H locs hw => ?_)
    refine lv_iconst (v := 0) hx hb dX11_prove_32 (by decide) ?_
    refine lv_istore_n (lv' := [(2, .int 0), (0, .ref (ad 0)), (1, .int xq1)]) hx hb dX11_prove_33 rfl hl (by decide) rfl (fun ls hl => ?_)
    exact hL34 400 0 σ2 _ _ _ hw (lv_sub hl [1, 0] rfl) hf
  · replace hf := it_f (b2i_0 h) hf
    refine lv_iconst (v := (-1)) hx hb dX11_prove_7 (by decide) ?_
    exact zreti E hw hr hlk (rt_a hf) (rt_b hf) dX11_prove_8
set_option maxRecDepth 100000 in
set_option maxHeartbeats 4000000 in
theorem c_X11_isInRows {l : Launch} {D : va_G} {cy : Cy} {ad : Nat → Nat} {A : Nat → Prop} (hA : okAd 97 ad A) (xq1 : Int32) (xq2 : Int32) (σ : Sg) {r : Bool} (hf : f_X11_isInRows xq1 xq2 σ = r) : Met l yX11_isInRows (.code yX11_isInRows cX11_isInRows 3 (some .boolean) :: TT) ({ frames := 1, cells := 0, slots := 0, locals := 22 } : Room) (zPc D cy 97 (celC ad cy) ad A [.ref (ad 0), .int xq1, .int xq2] σ) (zQi D 97 (celC ad cy) ad A (b2i r) σ) 0 0 A := by
  refine zofW (by decide) hA (Nat.le_of_ble_eq_true rfl) ?_
  intro p e s m args below meth c ls E hw hr hlk hl
  have E : ZE p s m args c cX11_isInRows 3 "KiteSummons" D cy 97 ad A := E
  have hx := E.hx
  have hb := E.hb
  have hl : lv_has ls 3 [(0, .ref (ad 0)), (1, .int xq1), (2, .int xq2)] := hl
  unfold f_X11_isInRows at hf
  refine lv_iload_n hx hb dX11_isInRows_0 rfl (lv_at hl 1 rfl) ?_
  refine lv_iconst (v := 0) hx hb dX11_isInRows_1 (by decide) ?_
  refine lv_aload_n hx hb dX11_isInRows_2 rfl (lv_at hl 0 rfl) ?_
  refine zget E hw (Nat.le_of_ble_eq_true rfl) (ceC_0 ad cy _) rfl inX11 15 (by decide) k2_136 (fun _ h => h) rfl dX11_isInRows_3 ?_
  refine lv_iconst (v := 1) hx hb dX11_isInRows_6 (by decide) ?_
  refine lv_isub hx hb dX11_isInRows_7 ?_
  refine zcali hw (va_runS (As := [.int xq1, .int 0, .int ((σ 0 15) - 1)]) (rest := []) E.fix (c_X11_within (l := l) hA xq1 0 ((σ 0 15) - 1) σ rfl) (zcS E k2_179 k1_1 k2_177 k2_178 mf_X11_within rfl rfl ⟨Nat.le_of_ble_eq_true rfl, Nat.le_of_ble_eq_true rfl⟩) (zPre E hw _) rfl rfl hl.1 rfl (lv_room (Nat.le_of_ble_eq_true rfl)) dX11_isInRows_8 ⟨Nat.zero_le _, Nat.zero_le _⟩) (fun H locs hw => ?_)
  refine lv_if_eq (tgt := 27) hx hb dX11_isInRows_11 (by decide) (fun h => ?_) (fun h => ?_)
  · replace hf := it_f (b2i_0 h) hf
    refine lv_iconst (v := 0) hx hb dX11_isInRows_27 (by decide) ?_
    exact zretz E hw hr hlk (b_e hf (by rfl)) rfl dX11_isInRows_28
  · replace hf := it_t (b2i_n h) hf
    refine lv_iload_n hx hb dX11_isInRows_14 rfl (lv_at hl 2 rfl) ?_
    refine lv_iconst (v := 0) hx hb dX11_isInRows_15 (by decide) ?_
    refine lv_iconst (v := 2) hx hb dX11_isInRows_16 (by decide) ?_
    refine zcali hw (va_runS (As := [.int xq2, .int 0, .int 2]) (rest := []) E.fix (c_X11_within (l := l) hA xq2 0 2 σ rfl) (zcS E k2_179 k1_1 k2_177 k2_178 mf_X11_within rfl rfl ⟨Nat.le_of_ble_eq_true rfl, Nat.le_of_ble_eq_true rfl⟩) (zPre E hw _) rfl rfl hl.1 rfl (lv_room (Nat.le_of_ble_eq_true rfl)) dX11_isInRows_17 ⟨Nat.zero_le _, Nat.zero_le _⟩) (fun H locs hw => ?_)
    refine lv_if_eq (tgt := 27) hx hb dX11_isInRows_20 (by decide) (fun h => ?_) (fun h => ?_)
    · replace hf := it_f (b2i_0 h) hf
      refine lv_iconst (v := 0) hx hb dX11_isInRows_27 (by decide) ?_
      exact zretz E hw hr hlk (b_e hf (by rfl)) rfl dX11_isInRows_28
    · replace hf := it_t (b2i_n h) hf
      refine lv_iconst (v := 1) hx hb dX11_isInRows_23 (by decide) ?_
      refine lv_goto (tgt := 28) hx hb dX11_isInRows_24 (by decide) ?_
      exact zretz E hw hr hlk (b_e hf (by rfl)) rfl dX11_isInRows_28
set_option maxRecDepth 100000 in
set_option maxHeartbeats 4000000 in
theorem c_X11_row {l : Launch} {D : va_G} {cy : Cy} {ad : Nat → Nat} {A : Nat → Prop} (hA : okAd 97 ad A) (xq1 : Int32) (xq2 : Int32) (σ : Sg) {r : Int32} (hf : f_X11_row xq1 xq2 σ = some r) : Met l yX11_row (.code yX11_row cX11_row 3 (some .int) :: TT) ({ frames := 2, cells := 0, slots := 0, locals := 44 } : Room) (zPc D cy 97 (celC ad cy) ad A [.ref (ad 0), .int xq1, .int xq2] σ) (zQi D 97 (celC ad cy) ad A r σ) 0 0 A := by
  refine zofW (by decide) hA (Nat.le_of_ble_eq_true rfl) ?_
  intro p e s m args below meth c ls E hw hr hlk hl
  have E : ZE p s m args c cX11_row 3 "KiteSummons" D cy 97 ad A := E
  have hx := E.hx
  have hb := E.hb
  have hl : lv_has ls 3 [(0, .ref (ad 0)), (1, .int xq1), (2, .int xq2)] := hl
  unfold f_X11_row at hf
  refine lv_aload_n hx hb dX11_row_0 rfl (lv_at hl 0 rfl) ?_
  refine lv_iload_n hx hb dX11_row_1 rfl (lv_at hl 1 rfl) ?_
  refine lv_iload_n hx hb dX11_row_2 rfl (lv_at hl 2 rfl) ?_
  refine zcali hw (va_runV (As := [.int xq1, .int xq2]) (rest := []) E.fix (c_X11_isInRows (l := l) hA xq1 xq2 σ rfl) (zcV E k5_6 k1_1 k5_3 k5_5 kp3_1 mf_X11_isInRows rfl rfl ⟨Nat.le_of_ble_eq_true rfl, Nat.le_of_ble_eq_true rfl⟩) (zPreV E hw (Nat.le_of_ble_eq_true rfl) (ceC_0 ad cy _) rfl _) rfl rfl hl.1 rfl (lv_room (Nat.le_of_ble_eq_true rfl)) dX11_row_3 ⟨Nat.zero_le _, Nat.zero_le _⟩) (fun H locs hw => ?_)
  refine lv_if_eq (tgt := 20) hx hb dX11_row_6 (by decide) (fun h => ?_) (fun h => ?_)
  · replace hf := it_f (b2i_0 h) hf
    refine lv_bipush (v := (-9)) hx hb dX11_row_20 (by decide) ?_
    exact zreti E hw hr hlk (rt_1 hf) rfl dX11_row_22
  · replace hf := it_t (b2i_n h) hf
    refine lv_aload_n hx hb dX11_row_9 rfl (lv_at hl 0 rfl) ?_
    refine zget E hw (Nat.le_of_ble_eq_true rfl) (ceC_0 ad cy _) rfl inX11 7 (by decide) k2_128 (fun _ h => h) rfl dX11_row_10 ?_
    refine lv_iload_n hx hb dX11_row_13 rfl (lv_at hl 1 rfl) ?_
    obtain ⟨hiq1, hf⟩ := gd_e hf
    refine zaldq E hw (Nat.le_of_ble_eq_true rfl) 5 rfl rfl (ceC_14 ad cy _) hiq1 dX11_row_14 ?_
    refine lv_iload_n hx hb dX11_row_15 rfl (lv_at hl 2 rfl) ?_
    obtain ⟨vq2, hvq2, hf⟩ := bd_e hf
    refine zaldr E hw (ltRow (rowOf (nlt hiq1))) (fun r => ceRow ad cy r (rowOf (nlt hiq1))) hvq2 dX11_row_16 ?_
    refine lv_goto (tgt := 22) hx hb dX11_row_17 (by decide) ?_
    exact zreti E hw hr hlk (rt_1 hf) rfl dX11_row_22
set_option maxRecDepth 100000 in
set_option maxHeartbeats 4000000 in
theorem c_X11_alterRow {l : Launch} {D : va_G} {cy : Cy} {ad : Nat → Nat} {A : Nat → Prop} (hA : okAd 97 ad A) (xq1 : Int32) (xq2 : Int32) (xq3 : Int32) (σ : Sg) {r : Int32} {σ9 : Sg} (hf : f_X11_alterRow xq1 xq2 xq3 σ = some (r, σ9)) : Met l yX11_alterRow (.code yX11_alterRow cX11_alterRow 5 (some .int) :: TT) ({ frames := 2, cells := 0, slots := 0, locals := 44 } : Room) (zPc D cy 97 (celC ad cy) ad A [.ref (ad 0), .int xq1, .int xq2, .int xq3] σ) (zQi D 97 (celC ad cy) ad A r σ9) 0 0 A := by
  refine zofW (by decide) hA (Nat.le_of_ble_eq_true rfl) ?_
  intro p e s m args below meth c ls E hw hr hlk hl
  have E : ZE p s m args c cX11_alterRow 5 "KiteSummons" D cy 97 ad A := E
  have hx := E.hx
  have hb := E.hb
  have hl : lv_has ls 5 [(0, .ref (ad 0)), (1, .int xq1), (2, .int xq2), (3, .int xq3)] := hl
  unfold f_X11_alterRow at hf
  refine lv_aload_n hx hb dX11_alterRow_0 rfl (lv_at hl 0 rfl) ?_
  refine lv_iload_n hx hb dX11_alterRow_1 rfl (lv_at hl 1 rfl) ?_
  refine lv_iload_n hx hb dX11_alterRow_2 rfl (lv_at hl 2 rfl) ?_
  refine zcali hw (va_runV (As := [.int xq1, .int xq2]) (rest := []) E.fix (c_X11_isInRows (l := l) hA xq1 xq2 σ rfl) (zcV E k5_6 k1_1 k5_3 k5_5 kp3_1 mf_X11_isInRows rfl rfl ⟨Nat.le_of_ble_eq_true rfl, Nat.le_of_ble_eq_true rfl⟩) (zPreV E hw (Nat.le_of_ble_eq_true rfl) (ceC_0 ad cy _) rfl _) rfl rfl hl.1 rfl (lv_room (Nat.le_of_ble_eq_true rfl)) dX11_alterRow_3 ⟨Nat.zero_le _, Nat.zero_le _⟩) (fun H locs hw => ?_)
  refine lv_if_ne (tgt := 12) hx hb dX11_alterRow_6 (by decide) (fun h => ?_) (fun h => ?_)
  · replace hf := it_t (b2i_n h) hf
    refine lv_aload_n hx hb dX11_alterRow_12 rfl (lv_at hl 0 rfl) ?_
    refine zget E hw (Nat.le_of_ble_eq_true rfl) (ceC_0 ad cy _) rfl inX11 7 (by decide) k2_128 (fun _ h => h) rfl dX11_alterRow_13 ?_
    refine lv_iload_n hx hb dX11_alterRow_16 rfl (lv_at hl 1 rfl) ?_
    obtain ⟨hiq1, hf⟩ := gd_e hf
    refine zaldq E hw (Nat.le_of_ble_eq_true rfl) 5 rfl rfl (ceC_14 ad cy _) hiq1 dX11_alterRow_17 ?_
    refine lv_iload_n hx hb dX11_alterRow_18 rfl (lv_at hl 2 rfl) ?_
    obtain ⟨vq2, hvq2, hf⟩ := bd_e hf
    refine zaldr E hw (ltRow (rowOf (nlt hiq1))) (fun r => ceRow ad cy r (rowOf (nlt hiq1))) hvq2 dX11_alterRow_19 ?_
    refine lv_istore (lv' := [(4, .int vq2), (0, .ref (ad 0)), (1, .int xq1), (2, .int xq2), (3, .int xq3)]) hx hb dX11_alterRow_20 hl (by decide) rfl (fun ls hl => ?_)
    refine lv_aload_n hx hb dX11_alterRow_22 rfl (lv_at hl 1 rfl) ?_
    refine zget E hw (Nat.le_of_ble_eq_true rfl) (ceC_0 ad cy _) rfl inX11 7 (by decide) k2_128 (fun _ h => h) rfl dX11_alterRow_23 ?_
    refine lv_iload_n hx hb dX11_alterRow_26 rfl (lv_at hl 2 rfl) ?_
    obtain ⟨hiq3, hf⟩ := gd_e hf
    refine zaldq E hw (Nat.le_of_ble_eq_true rfl) 5 rfl rfl (ceC_14 ad cy _) hiq3 dX11_alterRow_27 ?_
    refine lv_iload_n hx hb dX11_alterRow_28 rfl (lv_at hl 3 rfl) ?_
    refine lv_iload_n hx hb dX11_alterRow_29 rfl (lv_at hl 4 rfl) ?_
    obtain ⟨σ4, hσ4, hf⟩ := bd_e hf
    refine zastr E hw (ltRow (rowOf (nlt hiq3))) (fun r => ceRow ad cy r (rowOf (nlt hiq3))) hσ4 dX11_alterRow_30 (fun H locs hw => ?_)
    refine lv_iload hx hb dX11_alterRow_31 (lv_at hl 0 rfl) ?_
    exact zreti E hw hr hlk (rt_a hf) (rt_b hf) dX11_alterRow_33
  · replace hf := it_f (b2i_0 h) hf
    refine lv_bipush (v := (-9)) hx hb dX11_alterRow_9 (by decide) ?_
    exact zreti E hw hr hlk (rt_a hf) (rt_b hf) dX11_alterRow_11
set_option maxRecDepth 100000 in
set_option maxHeartbeats 4000000 in
theorem c_X11_isRightOnTrial {l : Launch} {D : va_G} {cy : Cy} {ad : Nat → Nat} {A : Nat → Prop} (hA : okAd 97 ad A) (nq1 : Nat) (hnq1 : isRow nq1) (σ : Sg) {r : Bool} {σ9 : Sg} (hf : f_X11_isRightOnTrial nq1 σ = some (r, σ9)) : Met l yX11_isRightOnTrial (.code yX11_isRightOnTrial cX11_isRightOnTrial 3 (some .boolean) :: TT) ({ frames := 5, cells := 0, slots := 0, locals := 118 } : Room) (zPc D cy 97 (celC ad cy) ad A [.ref (ad 0), .ref (ad nq1)] σ) (zQi D 97 (celC ad cy) ad A (b2i r) σ9) 0 0 A := by
  refine zofW (by decide) hA (Nat.le_of_ble_eq_true rfl) ?_
  intro p e s m args below meth c ls E hw hr hlk hl
  have E : ZE p s m args c cX11_isRightOnTrial 3 "KiteSummons" D cy 97 ad A := E
  have hx := E.hx
  have hb := E.hb
  have hl : lv_has ls 3 [(0, .ref (ad 0)), (1, .ref (ad nq1))] := hl
  unfold f_X11_isRightOnTrial at hf
  refine lv_aload_n hx hb dX11_isRightOnTrial_0 rfl (lv_at hl 0 rfl) ?_
  refine zget E hw (Nat.le_of_ble_eq_true rfl) (ceC_0 ad cy _) rfl inX11 2 (by decide) k2_123 (fun _ h => h) rfl dX11_isRightOnTrial_1 ?_
  refine lv_aload_n hx hb dX11_isRightOnTrial_4 rfl (lv_at hl 0 rfl) ?_
  refine zget E hw (Nat.le_of_ble_eq_true rfl) (ceC_0 ad cy _) rfl inX11 6 (by decide) k2_127 (fun _ h => h) rfl dX11_isRightOnTrial_5 ?_
  refine zcali hw (va_runV (As := [.ref (ad 64)]) (rest := []) E.fix (c_X1_isOver (l := l) hA 64 (by unfold isSky; omega) σ rfl) (zcV E k3_106 k1_11 k3_103 k3_104 k3_105 mf_X1_isOver rfl rfl ⟨Nat.le_of_ble_eq_true rfl, Nat.le_of_ble_eq_true rfl⟩) (zPreV E hw (Nat.le_of_ble_eq_true rfl) (ceC_24 ad cy _) rfl _) rfl rfl hl.1 rfl (lv_room (Nat.le_of_ble_eq_true rfl)) dX11_isRightOnTrial_8 ⟨Nat.zero_le _, Nat.zero_le _⟩) (fun H locs hw => ?_)
  refine lv_if_ne (tgt := 31) hx hb dX11_isRightOnTrial_11 (by decide) (fun h => ?_) (fun h => ?_)
  · replace hf := it_t (b2i_n h) hf
    refine lv_iconst (v := 0) hx hb dX11_isRightOnTrial_31 (by decide) ?_
    exact zretz E hw hr hlk (b_e (rt_a hf) (by rfl)) (rt_b hf) dX11_isRightOnTrial_32
  · replace hf := it_f (b2i_0 h) hf
    refine lv_aload_n hx hb dX11_isRightOnTrial_14 rfl (lv_at hl 1 rfl) ?_
    refine lv_iconst (v := 0) hx hb dX11_isRightOnTrial_15 (by decide) ?_
    refine zaldk E hw (ltRow hnq1) (fun r => ceRow ad cy r hnq1) 0 (by rfl) (Nat.le_of_ble_eq_true rfl) (by decide) dX11_isRightOnTrial_16 ?_
    refine lv_iconst (v := 0) hx hb dX11_isRightOnTrial_17 (by decide) ?_
    refine lv_aload_n hx hb dX11_isRightOnTrial_18 rfl (lv_at hl 0 rfl) ?_
    refine zget E hw (Nat.le_of_ble_eq_true rfl) (ceC_0 ad cy _) rfl inX11 2 (by decide) k2_123 (fun _ h => h) rfl dX11_isRightOnTrial_19 ?_
    refine zget E hw (Nat.le_of_ble_eq_true rfl) (ceC_24 ad cy _) rfl inX1 1 (by decide) k2_10 (fun _ h => h) rfl dX11_isRightOnTrial_22 ?_
    refine zcali hw (va_runS (As := [.int (σ nq1 0), .int 0, .int (σ 24 1)]) (rest := []) E.fix (c_X11_within (l := l) hA (σ nq1 0) 0 (σ 24 1) σ rfl) (zcS E k2_179 k1_1 k2_177 k2_178 mf_X11_within rfl rfl ⟨Nat.le_of_ble_eq_true rfl, Nat.le_of_ble_eq_true rfl⟩) (zPre E hw _) rfl rfl hl.1 rfl (lv_room (Nat.le_of_ble_eq_true rfl)) dX11_isRightOnTrial_25 ⟨Nat.zero_le _, Nat.zero_le _⟩) (fun H locs hw => ?_)
    refine lv_if_ne (tgt := 33) hx hb dX11_isRightOnTrial_28 (by decide) (fun h => ?_) (fun h => ?_)
    · replace hf := it_t (b2i_n h) hf
      refine lv_aload_n hx hb dX11_isRightOnTrial_33 rfl (lv_at hl 0 rfl) ?_
      refine zget E hw (Nat.le_of_ble_eq_true rfl) (ceC_0 ad cy _) rfl inX11 2 (by decide) k2_123 (fun _ h => h) rfl dX11_isRightOnTrial_34 ?_
      refine lv_aload_n hx hb dX11_isRightOnTrial_37 rfl (lv_at hl 0 rfl) ?_
      refine zget E hw (Nat.le_of_ble_eq_true rfl) (ceC_0 ad cy _) rfl inX11 6 (by decide) k2_127 (fun _ h => h) rfl dX11_isRightOnTrial_38 ?_
      refine lv_aload_n hx hb dX11_isRightOnTrial_41 rfl (lv_at hl 1 rfl) ?_
      refine lv_iconst (v := 0) hx hb dX11_isRightOnTrial_42 (by decide) ?_
      refine zaldk E hw (ltRow hnq1) (fun r => ceRow ad cy r hnq1) 0 (by rfl) (Nat.le_of_ble_eq_true rfl) (by decide) dX11_isRightOnTrial_43 ?_
      obtain ⟨vq1, σ2, hc, hf⟩ := bd2_e hf
      refine zcali hw (va_runV (As := [.ref (ad 64), .int (σ nq1 0)]) (rest := []) E.fix (c_X1_goByAct (l := l) hA 64 (by unfold isSky; omega) (σ nq1 0) σ hc) (zcV E k4_88 k1_11 k4_85 k4_86 k4_87 mf_X1_goByAct rfl rfl ⟨Nat.le_of_ble_eq_true rfl, Nat.le_of_ble_eq_true rfl⟩) (zPreV E hw (Nat.le_of_ble_eq_true rfl) (ceC_24 ad cy _) rfl _) rfl rfl hl.1 rfl (lv_room (Nat.le_of_ble_eq_true rfl)) dX11_isRightOnTrial_44 ⟨Nat.zero_le _, Nat.zero_le _⟩) (fun H locs hw => ?_)
      refine lv_istore_n (lv' := [(2, .int vq1), (0, .ref (ad 0)), (1, .ref (ad nq1))]) hx hb dX11_isRightOnTrial_47 rfl hl (by decide) rfl (fun ls hl => ?_)
      refine lv_aload_n hx hb dX11_isRightOnTrial_48 rfl (lv_at hl 2 rfl) ?_
      refine lv_iconst (v := 1) hx hb dX11_isRightOnTrial_49 (by decide) ?_
      refine zaldk E hw (ltRow hnq1) (fun r => ceRow ad cy r hnq1) 1 (by rfl) (Nat.le_of_ble_eq_true rfl) (by decide) dX11_isRightOnTrial_50 ?_
      refine lv_iload_n hx hb dX11_isRightOnTrial_51 rfl (lv_at hl 0 rfl) ?_
      refine lv_icmp_ne (tgt := 72) hx hb dX11_isRightOnTrial_52 (by decide) (fun h => ?_) (fun h => ?_)
      · replace hf := it_t h hf
        refine lv_iconst (v := 0) hx hb dX11_isRightOnTrial_72 (by decide) ?_
        exact zretz E hw hr hlk (b_e (rt_a hf) (by rfl)) (rt_b hf) dX11_isRightOnTrial_73
      · replace hf := it_n h hf
        refine lv_aload_n hx hb dX11_isRightOnTrial_55 rfl (lv_at hl 2 rfl) ?_
        refine lv_iconst (v := 2) hx hb dX11_isRightOnTrial_56 (by decide) ?_
        refine zaldk E hw (ltRow hnq1) (fun r => ceRow ad cy r hnq1) 2 (by rfl) (Nat.le_of_ble_eq_true rfl) (by decide) dX11_isRightOnTrial_57 ?_
        refine lv_aload_n hx hb dX11_isRightOnTrial_58 rfl (lv_at hl 1 rfl) ?_
        refine zget E hw (Nat.le_of_ble_eq_true rfl) (ceC_0 ad cy _) rfl inX11 6 (by decide) k2_127 (fun _ h => h) rfl dX11_isRightOnTrial_59 ?_
        refine zget E hw (Nat.le_of_ble_eq_true rfl) (ceC_64 ad cy _) rfl inX10 3 (by decide) k1_118 (fun _ h => h) rfl dX11_isRightOnTrial_62 ?_
        refine lv_icmp_ne (tgt := 72) hx hb dX11_isRightOnTrial_65 (by decide) (fun h => ?_) (fun h => ?_)
        · replace hf := it_t h hf
          refine lv_iconst (v := 0) hx hb dX11_isRightOnTrial_72 (by decide) ?_
          exact zretz E hw hr hlk (b_e (rt_a hf) (by rfl)) (rt_b hf) dX11_isRightOnTrial_73
        · replace hf := it_n h hf
          refine lv_iconst (v := 1) hx hb dX11_isRightOnTrial_68 (by decide) ?_
          refine lv_goto (tgt := 73) hx hb dX11_isRightOnTrial_69 (by decide) ?_
          exact zretz E hw hr hlk (b_e (rt_a hf) (by rfl)) (rt_b hf) dX11_isRightOnTrial_73
    · replace hf := it_f (b2i_0 h) hf
      refine lv_iconst (v := 0) hx hb dX11_isRightOnTrial_31 (by decide) ?_
      exact zretz E hw hr hlk (b_e (rt_a hf) (by rfl)) (rt_b hf) dX11_isRightOnTrial_32
set_option maxRecDepth 100000 in
set_option maxHeartbeats 4000000 in
theorem c_X11_judge {l : Launch} {D : va_G} {cy : Cy} {ad : Nat → Nat} {A : Nat → Prop} (hA : okAd 97 ad A) (σ : Sg) {r : Int32} {σ9 : Sg} (hf : f_X11_judge σ = some (r, σ9)) : Met l yX11_judge (.code yX11_judge cX11_judge 2 (some .int) :: TT) ({ frames := 6, cells := 0, slots := 0, locals := 140 } : Room) (zPc D cy 97 (celC ad cy) ad A [.ref (ad 0)] σ) (zQi D 97 (celC ad cy) ad A r σ9) 0 0 A := by
  refine zofW (by decide) hA (Nat.le_of_ble_eq_true rfl) ?_
  intro p e s m args below meth c ls E hw hr hlk hl
  have E : ZE p s m args c cX11_judge 2 "KiteSummons" D cy 97 ad A := E
  have hx := E.hx
  have hb := E.hb
  have hl : lv_has ls 2 [(0, .ref (ad 0))] := hl
  have hB16 : ∀ (kq16 : Int32 → Sg → Option (Int32 × Sg)) (hkq16 : ∀ (xq1 : Int32) (σ : Sg) (H : Heap) (locs : List Loc) (ls : Array Slot), ZS D 97 (celC ad cy) ad A s σ H locs → lv_has ls 2 [(0, .ref (ad 0)), (1, .int xq1)] → kq16 xq1 σ = some (r, σ9) → W p l e ({ frames := 6, cells := 0, slots := 0, locals := 140 } : Room) s m args below meth c H locs 0 0 (MQ below (zQi D 97 (celC ad cy) ad A r σ9) args s 0 0 A) (F0 m 16 ls [])) (xq1 : Int32) (σ : Sg) (H : Heap) (locs : List Loc) (ls : Array Slot), ZS D 97 (celC ad cy) ad A s σ H locs → lv_has ls 2 [(0, .ref (ad 0)), (1, .int xq1)] → f_X11_judge_b16 kq16 xq1 σ = some (r, σ9) → W p l e ({ frames := 6, cells := 0, slots := 0, locals := 140 } : Room) s m args below meth c H locs 0 0 (MQ below (zQi D 97 (celC ad cy) ad A r σ9) args s 0 0 A) (F0 m 16 ls []) := by
    intro kq16 hkq16 xq1 σ H locs ls hw hl hf
    unfold f_X11_judge_b16 at hf
    refine lv_iload_n hx hb dX11_judge_16 rfl (lv_at hl 1 rfl) ?_
    refine lv_aload_n hx hb dX11_judge_17 rfl (lv_at hl 0 rfl) ?_
    refine zget E hw (Nat.le_of_ble_eq_true rfl) (ceC_0 ad cy _) rfl inX11 15 (by decide) k2_136 (fun _ h => h) rfl dX11_judge_18 ?_
    refine lv_icmp_ge (tgt := 47) hx hb dX11_judge_21 (by decide) (fun h => ?_) (fun h => ?_)
    · replace hf := it_t h hf
      refine lv_iconst (v := 0) hx hb dX11_judge_47 (by decide) ?_
      exact zreti E hw hr hlk (rt_a hf) (rt_b hf) dX11_judge_48
    · replace hf := it_f h hf
      refine lv_aload_n hx hb dX11_judge_24 rfl (lv_at hl 0 rfl) ?_
      refine lv_aload_n hx hb dX11_judge_25 rfl (lv_at hl 0 rfl) ?_
      refine zget E hw (Nat.le_of_ble_eq_true rfl) (ceC_0 ad cy _) rfl inX11 7 (by decide) k2_128 (fun _ h => h) rfl dX11_judge_26 ?_
      refine lv_iload_n hx hb dX11_judge_29 rfl (lv_at hl 1 rfl) ?_
      obtain ⟨hiq2, hf⟩ := gd_e hf
      refine zaldq E hw (Nat.le_of_ble_eq_true rfl) 5 rfl rfl (ceC_14 ad cy _) hiq2 dX11_judge_30 ?_
      obtain ⟨vq3, σ4, hc, hf⟩ := bd2_e hf
      refine zcali hw (va_runV (As := [.ref (ad (15 + xq1.toNatClampNeg))]) (rest := []) E.fix (c_X11_isRightOnTrial (l := l) hA (15 + xq1.toNatClampNeg) (rowOf (nlt hiq2)) σ hc) (zcV E k5_18 k1_1 k5_15 k5_17 kp3_2 mf_X11_isRightOnTrial rfl rfl ⟨Nat.le_of_ble_eq_true rfl, Nat.le_of_ble_eq_true rfl⟩) (zPreV E hw (Nat.le_of_ble_eq_true rfl) (ceC_0 ad cy _) rfl _) rfl rfl hl.1 rfl (lv_room (Nat.le_of_ble_eq_true rfl)) dX11_judge_31 ⟨Nat.zero_le _, Nat.zero_le _⟩) (fun H locs hw => ?_)
      refine lv_if_ne (tgt := 41) hx hb dX11_judge_34 (by decide) (fun h => ?_) (fun h => ?_)
      · replace hf := it_t (b2i_n h) hf
        refine lv_iinc (v := (xq1 + 1)) (lv' := [(1, .int (xq1 + 1)), (0, .ref (ad 0))]) hx hb dX11_judge_41 hl (k := 1) rfl (by rfl) (by decide) rfl (fun ls hl => ?_)
        refine lv_goto (tgt := 16) hx hb dX11_judge_44 (by decide) ?_
        exact hkq16 (xq1 + 1) σ4 _ _ _ hw (lv_sub hl [1, 0] rfl) hf
      · replace hf := it_f (b2i_0 h) hf
        refine lv_iload_n hx hb dX11_judge_37 rfl (lv_at hl 1 rfl) ?_
        refine lv_iconst (v := 1) hx hb dX11_judge_38 (by decide) ?_
        refine lv_iadd hx hb dX11_judge_39 ?_
        exact zreti E hw hr hlk (rt_a hf) (rt_b hf) dX11_judge_40
  have hL16 : ∀ (n : Nat) (xq1 : Int32) (σ : Sg) (H : Heap) (locs : List Loc) (ls : Array Slot), ZS D 97 (celC ad cy) ad A s σ H locs → lv_has ls 2 [(0, .ref (ad 0)), (1, .int xq1)] → f_X11_judge_l16 n xq1 σ = some (r, σ9) → W p l e ({ frames := 6, cells := 0, slots := 0, locals := 140 } : Room) s m args below meth c H locs 0 0 (MQ below (zQi D 97 (celC ad cy) ad A r σ9) args s 0 0 A) (F0 m 16 ls []) := by
    intro n
    induction n with
    | zero =>
      intro xq1 σ H locs ls hw hl hf
      exact nn_e hf
    | succ n ih =>
      intro xq1 σ H locs ls hw hl hf
      exact hB16 (f_X11_judge_l16 n) ih xq1 σ H locs ls hw hl hf
  unfold f_X11_judge at hf
  refine lv_aload_n hx hb dX11_judge_0 rfl (lv_at hl 0 rfl) ?_
  refine zget E hw (Nat.le_of_ble_eq_true rfl) (ceC_0 ad cy _) rfl inX11 6 (by decide) k2_127 (fun _ h => h) rfl dX11_judge_1 ?_
  refine lv_aload_n hx hb dX11_judge_4 rfl (lv_at hl 0 rfl) ?_
  refine zget E hw (Nat.le_of_ble_eq_true rfl) (ceC_0 ad cy _) rfl inX11 2 (by decide) k2_123 (fun _ h => h) rfl dX11_judge_5 ?_
  refine zget E hw (Nat.le_of_ble_eq_true rfl) (ceC_24 ad cy _) rfl inX1 15 (by decide) k2_36 (fun _ h => h) rfl dX11_judge_8 ?_
  obtain ⟨σ1, hc, hf⟩ := lt_e hf
  refine zcalv hw (va_runV (As := [.ref (ad 41)]) (rest := []) E.fix (c_X10_copy (l := l) hA 64 (by unfold isSky; omega) 41 (by unfold isSky; omega) σ hc) (zcV E k4_63 k1_4 k4_60 k4_61 k4_62 mf_X10_copy rfl rfl ⟨Nat.le_of_ble_eq_true rfl, Nat.le_of_ble_eq_true rfl⟩) (zPreV E hw (Nat.le_of_ble_eq_true rfl) (ceC_64 ad cy _) rfl _) rfl rfl hl.1 rfl (lv_room (Nat.le_of_ble_eq_true rfl)) dX11_judge_11 ⟨Nat.zero_le _, Nat.zero_le _⟩) (fun H locs hw => ?_)
  refine lv_iconst (v := 0) hx hb dX11_judge_14 (by decide) ?_
  refine lv_istore_n (lv' := [(1, .int 0), (0, .ref (ad 0))]) hx hb dX11_judge_15 rfl hl (by decide) rfl (fun ls hl => ?_)
  exact hL16 400 0 σ1 _ _ _ hw (lv_sub hl [1, 0] rfl) hf
set_option maxRecDepth 100000 in
set_option maxHeartbeats 4000000 in
theorem c_X11_isSheet {l : Launch} {D : va_G} {cy : Cy} {ad : Nat → Nat} {A : Nat → Prop} (hA : okAd 97 ad A) (xq0 : Int32) (σ : Sg) {r : Bool} (hf : f_X11_isSheet xq0 σ = r) : Met l yX11_isSheet (.code yX11_isSheet cX11_isSheet 1 (some .boolean) :: TT) ({ frames := 1, cells := 0, slots := 0, locals := 22 } : Room) (zPc D cy 97 (celC ad cy) ad A [.int xq0] σ) (zQi D 97 (celC ad cy) ad A (b2i r) σ) 0 0 A := by
  refine zofW (by decide) hA (Nat.le_of_ble_eq_true rfl) ?_
  intro p e s m args below meth c ls E hw hr hlk hl
  have E : ZE p s m args c cX11_isSheet 1 "KiteSummons" D cy 97 ad A := E
  have hx := E.hx
  have hb := E.hb
  have hl : lv_has ls 1 [(0, .int xq0)] := hl
  unfold f_X11_isSheet at hf
  refine lv_iload_n hx hb dX11_isSheet_0 rfl (lv_at hl 0 rfl) ?_
  refine lv_iconst (v := 0) hx hb dX11_isSheet_1 (by decide) ?_
  refine lv_iconst (v := 3) hx hb dX11_isSheet_2 (by decide) ?_
  refine zcali hw (va_runS (As := [.int xq0, .int 0, .int 3]) (rest := []) E.fix (c_X11_within (l := l) hA xq0 0 3 σ rfl) (zcS E k2_179 k1_1 k2_177 k2_178 mf_X11_within rfl rfl ⟨Nat.le_of_ble_eq_true rfl, Nat.le_of_ble_eq_true rfl⟩) (zPre E hw _) rfl rfl hl.1 rfl (lv_room (Nat.le_of_ble_eq_true rfl)) dX11_isSheet_3 ⟨Nat.zero_le _, Nat.zero_le _⟩) (fun H locs hw => ?_)
  exact zretz E hw hr hlk (b_e hf (by rfl)) rfl dX11_isSheet_6
set_option maxRecDepth 100000 in
set_option maxHeartbeats 4000000 in
theorem c_J7_fill_d0a16 {l : Launch} {D : va_G} {cy : Cy} {ad : Nat → Nat} {A : Nat → Prop} (hA : okAd 97 ad A) (nq0 : Nat) (hnq0 : isItm nq0) (xq1 : Int32) (σ : Sg) {σ9 : Sg} (hf : f_J7_fill_d0a16 nq0 xq1 σ = some σ9) : Met l yJ7_fill_d0a16 (.code yJ7_fill_d0a16 cJ7_fill_d0a16 5 none :: TT) ({ frames := 0, cells := 0, slots := 0, locals := 0 } : Room) (zPc D cy 97 (celC ad cy) ad A [.ref (ad nq0), .long xq1.toInt64] σ) (zQv D 97 (celC ad cy) ad A σ9) 0 0 A := by
  refine zofW (by decide) hA (Nat.le_of_ble_eq_true rfl) ?_
  intro p e s m args below meth c ls E hw hr hlk hl
  have E : ZE p s m args c cJ7_fill_d0a16 5 "java/util/Arrays" D cy 97 ad A := E
  have hx := E.hx
  have hb := E.hb
  have hl : lv_has ls 5 [(0, .ref (ad nq0)), (1, .long xq1.toInt64)] := hl
  have hB6 : ∀ (nq0 : Nat) (hnq0 : isItm nq0) (xq1 : Int32) (xq4 : Int32) (kq6 : Int32 → Sg → Option Sg) (hkq6 : ∀ (xq3 : Int32) (σ : Sg) (H : Heap) (locs : List Loc) (ls : Array Slot), ZS D 97 (celC ad cy) ad A s σ H locs → lv_has ls 5 [(0, .ref (ad nq0)), (1, .long xq1.toInt64), (3, .int xq3), (4, .int xq4)] → kq6 xq3 σ = some σ9 → W p l e ({ frames := 0, cells := 0, slots := 0, locals := 0 } : Room) s m args below meth c H locs 0 0 (MQ below (zQv D 97 (celC ad cy) ad A σ9) args s 0 0 A) (F0 m 6 ls [])) (xq3 : Int32) (σ : Sg) (H : Heap) (locs : List Loc) (ls : Array Slot), ZS D 97 (celC ad cy) ad A s σ H locs → lv_has ls 5 [(0, .ref (ad nq0)), (1, .long xq1.toInt64), (3, .int xq3), (4, .int xq4)] → f_J7_fill_d0a16_b6 kq6 nq0 xq1 xq4 xq3 σ = some σ9 → W p l e ({ frames := 0, cells := 0, slots := 0, locals := 0 } : Room) s m args below meth c H locs 0 0 (MQ below (zQv D 97 (celC ad cy) ad A σ9) args s 0 0 A) (F0 m 6 ls []) := by
    intro nq0 hnq0 xq1 xq4 kq6 hkq6 xq3 σ H locs ls hw hl hf
    unfold f_J7_fill_d0a16_b6 at hf
    refine lv_iload_n hx hb dJ7_fill_d0a16_6 rfl (lv_at hl 2 rfl) ?_
    refine lv_iload hx hb dJ7_fill_d0a16_7 (lv_at hl 3 rfl) ?_
    refine lv_icmp_ge (tgt := 22) hx hb dJ7_fill_d0a16_9 (by decide) (fun h => ?_) (fun h => ?_)
    · replace hf := it_t h hf
      exact zretv E hw hr hlk (rt_1 hf) dJ7_fill_d0a16_22
    · replace hf := it_f h hf
      refine lv_aload_n hx hb dJ7_fill_d0a16_12 rfl (lv_at hl 0 rfl) ?_
      refine lv_iload_n hx hb dJ7_fill_d0a16_13 rfl (lv_at hl 2 rfl) ?_
      refine lv_lload_n hx hb dJ7_fill_d0a16_14 rfl (lv_at hl 1 rfl) ?_
      obtain ⟨σ1, hσ1, hf⟩ := bd_e hf
      refine zlastr E hw (ltItm hnq0) (fun r => ceItm ad cy r hnq0) hσ1 dJ7_fill_d0a16_15 (fun H locs hw => ?_)
      refine lv_iinc (v := (xq3 + 1)) (lv' := [(3, .int (xq3 + 1)), (0, .ref (ad nq0)), (1, .long xq1.toInt64), (4, .int xq4)]) hx hb dJ7_fill_d0a16_16 hl (k := 2) rfl (by rfl) (by decide) rfl (fun ls hl => ?_)
      refine lv_goto (tgt := 6) hx hb dJ7_fill_d0a16_19 (by decide) ?_
      exact hkq6 (xq3 + 1) σ1 _ _ _ hw (lv_sub hl [1, 2, 0, 3] rfl) hf
  have hL6 : ∀ (nq0 : Nat) (hnq0 : isItm nq0) (xq1 : Int32) (xq4 : Int32) (n : Nat) (xq3 : Int32) (σ : Sg) (H : Heap) (locs : List Loc) (ls : Array Slot), ZS D 97 (celC ad cy) ad A s σ H locs → lv_has ls 5 [(0, .ref (ad nq0)), (1, .long xq1.toInt64), (3, .int xq3), (4, .int xq4)] → f_J7_fill_d0a16_l6 nq0 xq1 xq4 n xq3 σ = some σ9 → W p l e ({ frames := 0, cells := 0, slots := 0, locals := 0 } : Room) s m args below meth c H locs 0 0 (MQ below (zQv D 97 (celC ad cy) ad A σ9) args s 0 0 A) (F0 m 6 ls []) := by
    intro nq0 hnq0 xq1 xq4 n
    induction n with
    | zero =>
      intro xq3 σ H locs ls hw hl hf
      exact nn_e hf
    | succ n ih =>
      intro xq3 σ H locs ls hw hl hf
      exact hB6 nq0 hnq0 xq1 xq4 (f_J7_fill_d0a16_l6 nq0 xq1 xq4 n) ih xq3 σ H locs ls hw hl hf
  unfold f_J7_fill_d0a16 at hf
  refine lv_iconst (v := 0) hx hb dJ7_fill_d0a16_0 (by decide) ?_
  refine lv_istore_n (lv' := [(3, .int 0), (0, .ref (ad nq0)), (1, .long xq1.toInt64)]) hx hb dJ7_fill_d0a16_1 rfl hl (by decide) rfl (fun ls hl => ?_)
  refine lv_aload_n hx hb dJ7_fill_d0a16_2 rfl (lv_at hl 1 rfl) ?_
  refine zalen (v := 40) E hw (ltItm hnq0) 2 rfl (ceItm ad cy _ hnq0) (by rfl) dJ7_fill_d0a16_3 ?_
  refine lv_istore (lv' := [(4, .int 40), (3, .int 0), (0, .ref (ad nq0)), (1, .long xq1.toInt64)]) hx hb dJ7_fill_d0a16_4 hl (by decide) rfl (fun ls hl => ?_)
  exact hL6 nq0 hnq0 xq1 40 400 0 σ _ _ _ hw (lv_sub hl [2, 3, 1, 0] rfl) hf
set_option maxRecDepth 100000 in
set_option maxHeartbeats 4000000 in
theorem c_X11_sheet {l : Launch} {D : va_G} {cy : Cy} {ad : Nat → Nat} {A : Nat → Prop} (hA : okAd 97 ad A) (xq1 : Int32) (xq2 : Int32) (xq3 : Int32) (σ : Sg) {r : Int32} {σ9 : Sg} (hf : f_X11_sheet xq1 xq2 xq3 σ = some (r, σ9)) : Met l yX11_sheet (.code yX11_sheet cX11_sheet 4 (some .int) :: TT) ({ frames := 2, cells := 0, slots := 0, locals := 42 } : Room) (zPc D cy 97 (celC ad cy) ad A [.ref (ad 0), .int xq1, .int xq2, .int xq3] σ) (zQi D 97 (celC ad cy) ad A r σ9) 0 0 A := by
  refine zofW (by decide) hA (Nat.le_of_ble_eq_true rfl) ?_
  intro p e s m args below meth c ls E hw hr hlk hl
  have E : ZE p s m args c cX11_sheet 4 "KiteSummons" D cy 97 ad A := E
  have hx := E.hx
  have hb := E.hb
  have hl : lv_has ls 4 [(0, .ref (ad 0)), (1, .int xq1), (2, .int xq2), (3, .int xq3)] := hl
  have hB65 : ∀ (xq1 : Int32) (tq1 : Int32) (tq2 : Int32) (σ : Sg) (H : Heap) (locs : List Loc) (ls : Array Slot), ZS D 97 (celC ad cy) ad A s σ H locs → lv_has ls 4 [(0, .ref (ad 0)), (1, .int xq1)] → f_X11_sheet_b65 xq1 tq1 tq2 σ = some (r, σ9) → W p l e ({ frames := 2, cells := 0, slots := 0, locals := 42 } : Room) s m args below meth c H locs 0 0 (MQ below (zQi D 97 (celC ad cy) ad A r σ9) args s 0 0 A) (F0 m 65 ls [.int tq2, .int tq1, .ref (ad 10)]) := by
    intro xq1 tq1 tq2 σ H locs ls hw hl hf
    unfold f_X11_sheet_b65 at hf
    obtain ⟨σ2, hσ2, hf⟩ := bd_e hf
    refine zastr E hw (Nat.le_of_ble_eq_true rfl) (ceC_10 ad cy) hσ2 dX11_sheet_65 (fun H locs hw => ?_)
    refine lv_aload_n hx hb dX11_sheet_66 rfl (lv_at hl 0 rfl) ?_
    refine zget E hw (Nat.le_of_ble_eq_true rfl) (ceC_0 ad cy _) rfl inX11 8 (by decide) k2_129 (fun _ h => h) rfl dX11_sheet_67 ?_
    refine lv_iload_n hx hb dX11_sheet_70 rfl (lv_at hl 1 rfl) ?_
    obtain ⟨hiq3, hf⟩ := gd_e hf
    refine zaldq E hw (Nat.le_of_ble_eq_true rfl) 6 rfl rfl (ceC_19 ad cy _) hiq3 dX11_sheet_71 ?_
    refine lv_lconst (v := 0) hx hb dX11_sheet_72 (by decide) ?_
    obtain ⟨σ4, hc, hf⟩ := bd_e hf
    refine zcalv hw (va_runS (As := [.ref (ad (20 + xq1.toNatClampNeg)), .long (0 : Int64)]) (rest := []) E.fix (c_J7_fill_d0a16 (l := l) hA (20 + xq1.toNatClampNeg) (itmOf (nlt hiq3)) 0 σ2 hc) (zcS E k5_28 k1_12 k5_26 k5_27 mf_J7_fill_d0a16 rfl rfl ⟨Nat.le_of_ble_eq_true rfl, Nat.le_of_ble_eq_true rfl⟩) (zPre E hw _) rfl rfl hl.1 rfl (lv_room (Nat.le_of_ble_eq_true rfl)) dX11_sheet_73 ⟨Nat.zero_le _, Nat.zero_le _⟩) (fun H locs hw => ?_)
    refine lv_iconst (v := 1) hx hb dX11_sheet_76 (by decide) ?_
    exact zreti E hw hr hlk (rt_a hf) (rt_b hf) dX11_sheet_77
  have hB43 : ∀ (xq1 : Int32) (xq2 : Int32) (xq3 : Int32) (σ : Sg) (H : Heap) (locs : List Loc) (ls : Array Slot), ZS D 97 (celC ad cy) ad A s σ H locs → lv_has ls 4 [(0, .ref (ad 0)), (1, .int xq1), (2, .int xq2), (3, .int xq3)] → f_X11_sheet_b43 xq1 xq2 xq3 σ = some (r, σ9) → W p l e ({ frames := 2, cells := 0, slots := 0, locals := 42 } : Room) s m args below meth c H locs 0 0 (MQ below (zQi D 97 (celC ad cy) ad A r σ9) args s 0 0 A) (F0 m 43 ls []) := by
    intro xq1 xq2 xq3 σ H locs ls hw hl hf
    unfold f_X11_sheet_b43 at hf
    refine lv_aload_n hx hb dX11_sheet_43 rfl (lv_at hl 0 rfl) ?_
    refine zget E hw (Nat.le_of_ble_eq_true rfl) (ceC_0 ad cy _) rfl inX11 9 (by decide) k2_130 (fun _ h => h) rfl dX11_sheet_44 ?_
    refine lv_iload_n hx hb dX11_sheet_47 rfl (lv_at hl 1 rfl) ?_
    refine lv_iload_n hx hb dX11_sheet_48 rfl (lv_at hl 2 rfl) ?_
    obtain ⟨σ1, hσ1, hf⟩ := bd_e hf
    refine zastr E hw (Nat.le_of_ble_eq_true rfl) (ceC_9 ad cy) hσ1 dX11_sheet_49 (fun H locs hw => ?_)
    refine lv_aload_n hx hb dX11_sheet_50 rfl (lv_at hl 0 rfl) ?_
    refine zget E hw (Nat.le_of_ble_eq_true rfl) (ceC_0 ad cy _) rfl inX11 10 (by decide) k2_131 (fun _ h => h) rfl dX11_sheet_51 ?_
    refine lv_iload_n hx hb dX11_sheet_54 rfl (lv_at hl 1 rfl) ?_
    refine lv_iload_n hx hb dX11_sheet_55 rfl (lv_at hl 2 rfl) ?_
    refine lv_iconst (v := (-1)) hx hb dX11_sheet_56 (by decide) ?_
    refine lv_icmp_ne (tgt := 64) hx hb dX11_sheet_57 (by decide) (fun h => ?_) (fun h => ?_)
    · replace hf := it_t h hf
      refine lv_iload_n hx hb dX11_sheet_64 rfl (lv_at hl 3 rfl) ?_
      exact hB65 xq1 xq1 xq3 σ1 _ _ _ hw (lv_sub hl [0, 1] rfl) hf
    · replace hf := it_n h hf
      refine lv_iconst (v := 0) hx hb dX11_sheet_60 (by decide) ?_
      refine lv_goto (tgt := 65) hx hb dX11_sheet_61 (by decide) ?_
      exact hB65 xq1 xq1 0 σ1 _ _ _ hw (lv_sub hl [0, 1] rfl) hf
  have hB31 : ∀ (xq1 : Int32) (xq2 : Int32) (xq3 : Int32) (σ : Sg) (H : Heap) (locs : List Loc) (ls : Array Slot), ZS D 97 (celC ad cy) ad A s σ H locs → lv_has ls 4 [(0, .ref (ad 0)), (1, .int xq1), (2, .int xq2), (3, .int xq3)] → f_X11_sheet_b31 xq1 xq2 xq3 σ = some (r, σ9) → W p l e ({ frames := 2, cells := 0, slots := 0, locals := 42 } : Room) s m args below meth c H locs 0 0 (MQ below (zQi D 97 (celC ad cy) ad A r σ9) args s 0 0 A) (F0 m 31 ls []) := by
    intro xq1 xq2 xq3 σ H locs ls hw hl hf
    unfold f_X11_sheet_b31 at hf
    refine lv_iload_n hx hb dX11_sheet_31 rfl (lv_at hl 2 rfl) ?_
    refine lv_iconst (v := (-1)) hx hb dX11_sheet_32 (by decide) ?_
    refine lv_icmp_eq (tgt := 43) hx hb dX11_sheet_33 (by decide) (fun h => ?_) (fun h => ?_)
    · replace hf := it_t h hf
      exact hB43 xq1 xq2 xq3 σ _ _ _ hw (lv_sub hl [0, 1, 2, 3] rfl) hf
    · replace hf := it_f h hf
      refine lv_iload_n hx hb dX11_sheet_36 rfl (lv_at hl 3 rfl) ?_
      refine lv_if_ge (tgt := 43) hx hb dX11_sheet_37 (by decide) (fun h => ?_) (fun h => ?_)
      · replace hf := it_t h hf
        exact hB43 xq1 xq2 xq3 σ _ _ _ hw (lv_sub hl [0, 1, 2, 3] rfl) hf
      · replace hf := it_f h hf
        refine lv_bipush (v := (-14)) hx hb dX11_sheet_40 (by decide) ?_
        exact zreti E hw hr hlk (rt_a hf) (rt_b hf) dX11_sheet_42
  unfold f_X11_sheet at hf
  refine lv_iload_n hx hb dX11_sheet_0 rfl (lv_at hl 1 rfl) ?_
  refine zcali hw (va_runS (As := [.int xq1]) (rest := []) E.fix (c_X11_isSheet (l := l) hA xq1 σ rfl) (zcS E k5_25 k1_1 k5_23 k5_24 mf_X11_isSheet rfl rfl ⟨Nat.le_of_ble_eq_true rfl, Nat.le_of_ble_eq_true rfl⟩) (zPre E hw _) rfl rfl hl.1 rfl (lv_room (Nat.le_of_ble_eq_true rfl)) dX11_sheet_1 ⟨Nat.zero_le _, Nat.zero_le _⟩) (fun H locs hw => ?_)
  refine lv_if_eq (tgt := 16) hx hb dX11_sheet_4 (by decide) (fun h => ?_) (fun h => ?_)
  · replace hf := it_f (b2i_0 h) hf
    refine lv_iconst (v := (-1)) hx hb dX11_sheet_16 (by decide) ?_
    exact zreti E hw hr hlk (rt_a hf) (rt_b hf) dX11_sheet_17
  · replace hf := it_t (b2i_n h) hf
    refine lv_iload_n hx hb dX11_sheet_7 rfl (lv_at hl 2 rfl) ?_
    refine lv_iconst (v := (-1)) hx hb dX11_sheet_8 (by decide) ?_
    refine lv_iconst (v := 4) hx hb dX11_sheet_9 (by decide) ?_
    refine zcali hw (va_runS (As := [.int xq2, .int (-1), .int 4]) (rest := []) E.fix (c_X11_within (l := l) hA xq2 (-1) 4 σ rfl) (zcS E k2_179 k1_1 k2_177 k2_178 mf_X11_within rfl rfl ⟨Nat.le_of_ble_eq_true rfl, Nat.le_of_ble_eq_true rfl⟩) (zPre E hw _) rfl rfl hl.1 rfl (lv_room (Nat.le_of_ble_eq_true rfl)) dX11_sheet_10 ⟨Nat.zero_le _, Nat.zero_le _⟩) (fun H locs hw => ?_)
    refine lv_if_ne (tgt := 18) hx hb dX11_sheet_13 (by decide) (fun h => ?_) (fun h => ?_)
    · replace hf := it_t (b2i_n h) hf
      refine lv_iload_n hx hb dX11_sheet_18 rfl (lv_at hl 2 rfl) ?_
      refine lv_iconst (v := (-1)) hx hb dX11_sheet_19 (by decide) ?_
      refine lv_icmp_eq (tgt := 31) hx hb dX11_sheet_20 (by decide) (fun h => ?_) (fun h => ?_)
      · replace hf := it_t h hf
        exact hB31 xq1 xq2 xq3 σ _ _ _ hw (lv_sub hl [0, 1, 2, 3] rfl) hf
      · replace hf := it_f h hf
        refine lv_iload_n hx hb dX11_sheet_23 rfl (lv_at hl 3 rfl) ?_
        refine lv_bipush (v := 40) hx hb dX11_sheet_24 (by decide) ?_
        refine lv_icmp_le (tgt := 31) hx hb dX11_sheet_26 (by decide) (fun h => ?_) (fun h => ?_)
        · replace hf := it_t h hf
          exact hB31 xq1 xq2 xq3 σ _ _ _ hw (lv_sub hl [0, 1, 2, 3] rfl) hf
        · replace hf := it_f h hf
          refine lv_iconst (v := (-1)) hx hb dX11_sheet_29 (by decide) ?_
          exact zreti E hw hr hlk (rt_a hf) (rt_b hf) dX11_sheet_30
    · replace hf := it_f (b2i_0 h) hf
      refine lv_iconst (v := (-1)) hx hb dX11_sheet_16 (by decide) ?_
      exact zreti E hw hr hlk (rt_a hf) (rt_b hf) dX11_sheet_17
set_option maxRecDepth 100000 in
set_option maxHeartbeats 4000000 in
theorem c_X11_narrowed {l : Launch} {D : va_G} {cy : Cy} {ad : Nat → Nat} {A : Nat → Prop} (hA : okAd 97 ad A) (xq0 : Int32) (xq1 : Int32) (σ : Sg) {r : Int32} (hf : f_X11_narrowed xq0 xq1 σ = r) : Met l yX11_narrowed (.code yX11_narrowed cX11_narrowed 2 (some .long) :: TT) ({ frames := 0, cells := 0, slots := 0, locals := 0 } : Room) (zPc D cy 97 (celC ad cy) ad A [.int xq0, .int xq1] σ) (zQl D 97 (celC ad cy) ad A r.toInt64 σ) 0 0 A := by
  refine zofW (by decide) hA (Nat.le_of_ble_eq_true rfl) ?_
  intro p e s m args below meth c ls E hw hr hlk hl
  have E : ZE p s m args c cX11_narrowed 2 "KiteSummons" D cy 97 ad A := E
  have hx := E.hx
  have hb := E.hb
  have hl : lv_has ls 2 [(0, .int xq0), (1, .int xq1)] := hl
  unfold f_X11_narrowed at hf
  refine lv_iload_n hx hb dX11_narrowed_0 rfl (lv_at hl 1 rfl) ?_
  by_cases hc1_0 : xq1 = 0
  · replace hf := it_t hc1_0 hf
    refine lv_tableIn (tgt := 36) (off := 35) hx hb dX11_narrowed_1 (by rw [hc1_0]; decide) (by rw [hc1_0]; decide) (by rw [hc1_0]; rfl) (by decide) ?_
    refine lv_iload_n hx hb dX11_narrowed_36 rfl (lv_at hl 0 rfl) ?_
    refine lv_i2b hx hb dX11_narrowed_37 rfl ?_
    refine lv_i2l hx hb dX11_narrowed_38 rfl ?_
    exact zretl E hw hr hlk (emb_e hf (by rfl)) rfl dX11_narrowed_39
  · replace hf := it_f hc1_0 hf
    by_cases hc1_1 : xq1 = 1
    · replace hf := it_t hc1_1 hf
      refine lv_tableIn (tgt := 40) (off := 39) hx hb dX11_narrowed_1 (by rw [hc1_1]; decide) (by rw [hc1_1]; decide) (by rw [hc1_1]; rfl) (by decide) ?_
      refine lv_iload_n hx hb dX11_narrowed_40 rfl (lv_at hl 0 rfl) ?_
      refine lv_i2s hx hb dX11_narrowed_41 rfl ?_
      refine lv_i2l hx hb dX11_narrowed_42 rfl ?_
      exact zretl E hw hr hlk (emb_e hf (by rfl)) rfl dX11_narrowed_43
    · replace hf := it_f hc1_1 hf
      by_cases hc1_2 : xq1 = 2
      · replace hf := it_t hc1_2 hf
        refine lv_tableIn (tgt := 54) (off := 53) hx hb dX11_narrowed_1 (by rw [hc1_2]; decide) (by rw [hc1_2]; decide) (by rw [hc1_2]; rfl) (by decide) ?_
        refine lv_iload_n hx hb dX11_narrowed_54 rfl (lv_at hl 0 rfl) ?_
        refine lv_i2l hx hb dX11_narrowed_55 rfl ?_
        exact zretl E hw hr hlk (emb_e hf (by rfl)) rfl dX11_narrowed_56
      · replace hf := it_f hc1_2 hf
        by_cases hc1_3 : xq1 = 3
        · replace hf := it_t hc1_3 hf
          refine lv_tableIn (tgt := 54) (off := 53) hx hb dX11_narrowed_1 (by rw [hc1_3]; decide) (by rw [hc1_3]; decide) (by rw [hc1_3]; rfl) (by decide) ?_
          refine lv_iload_n hx hb dX11_narrowed_54 rfl (lv_at hl 0 rfl) ?_
          refine lv_i2l hx hb dX11_narrowed_55 rfl ?_
          exact zretl E hw hr hlk (emb_e hf (by rfl)) rfl dX11_narrowed_56
        · replace hf := it_f hc1_3 hf
          by_cases hc1_4 : xq1 = 4
          · replace hf := it_t hc1_4 hf
            refine lv_tableIn (tgt := 44) (off := 43) hx hb dX11_narrowed_1 (by rw [hc1_4]; decide) (by rw [hc1_4]; decide) (by rw [hc1_4]; rfl) (by decide) ?_
            refine lv_iload_n hx hb dX11_narrowed_44 rfl (lv_at hl 0 rfl) ?_
            refine lv_if_eq (tgt := 52) hx hb dX11_narrowed_45 (by decide) (fun h => ?_) (fun h => ?_)
            · replace hf := it_t h hf
              refine lv_lconst (v := 0) hx hb dX11_narrowed_52 (by decide) ?_
              exact zretl E hw hr hlk (emb_e hf (by rfl)) rfl dX11_narrowed_53
            · replace hf := it_f h hf
              refine lv_lconst (v := 1) hx hb dX11_narrowed_48 (by decide) ?_
              refine lv_goto (tgt := 53) hx hb dX11_narrowed_49 (by decide) ?_
              exact zretl E hw hr hlk (emb_e hf (by rfl)) rfl dX11_narrowed_53
          · replace hf := it_f hc1_4 hf
            refine lv_tableOut (tgt := 54) hx hb dX11_narrowed_1 (by have := lv_neT hc1_0 (a := 0) rfl; have := lv_neT hc1_1 (a := 1) rfl; have := lv_neT hc1_2 (a := 2) rfl; have := lv_neT hc1_3 (a := 3) rfl; have := lv_neT hc1_4 (a := 4) rfl; omega) (by decide) ?_
            refine lv_iload_n hx hb dX11_narrowed_54 rfl (lv_at hl 0 rfl) ?_
            refine lv_i2l hx hb dX11_narrowed_55 rfl ?_
            exact zretl E hw hr hlk (emb_e hf (by rfl)) rfl dX11_narrowed_56
set_option maxRecDepth 100000 in
set_option maxHeartbeats 4000000 in
theorem c_X11_write {l : Launch} {D : va_G} {cy : Cy} {ad : Nat → Nat} {A : Nat → Prop} (hA : okAd 97 ad A) (xq1 : Int32) (xq2 : Int32) (xq3 : Int32) (σ : Sg) {r : Int32} {σ9 : Sg} (hf : f_X11_write xq1 xq2 xq3 σ = some (r, σ9)) : Met l yX11_write (.code yX11_write cX11_write 4 (some .int) :: TT) ({ frames := 2, cells := 0, slots := 0, locals := 42 } : Room) (zPc D cy 97 (celC ad cy) ad A [.ref (ad 0), .int xq1, .int xq2, .int xq3] σ) (zQi D 97 (celC ad cy) ad A r σ9) 0 0 A := by
  refine zofW (by decide) hA (Nat.le_of_ble_eq_true rfl) ?_
  intro p e s m args below meth c ls E hw hr hlk hl
  have E : ZE p s m args c cX11_write 4 "KiteSummons" D cy 97 ad A := E
  have hx := E.hx
  have hb := E.hb
  have hl : lv_has ls 4 [(0, .ref (ad 0)), (1, .int xq1), (2, .int xq2), (3, .int xq3)] := hl
  unfold f_X11_write at hf
  refine lv_iload_n hx hb dX11_write_0 rfl (lv_at hl 1 rfl) ?_
  refine zcali hw (va_runS (As := [.int xq1]) (rest := []) E.fix (c_X11_isSheet (l := l) hA xq1 σ rfl) (zcS E k5_25 k1_1 k5_23 k5_24 mf_X11_isSheet rfl rfl ⟨Nat.le_of_ble_eq_true rfl, Nat.le_of_ble_eq_true rfl⟩) (zPre E hw _) rfl rfl hl.1 rfl (lv_room (Nat.le_of_ble_eq_true rfl)) dX11_write_1 ⟨Nat.zero_le _, Nat.zero_le _⟩) (fun H locs hw => ?_)
  refine lv_if_ne (tgt := 9) hx hb dX11_write_4 (by decide) (fun h => ?_) (fun h => ?_)
  · replace hf := it_t (b2i_n h) hf
    refine lv_aload_n hx hb dX11_write_9 rfl (lv_at hl 0 rfl) ?_
    refine zget E hw (Nat.le_of_ble_eq_true rfl) (ceC_0 ad cy _) rfl inX11 9 (by decide) k2_130 (fun _ h => h) rfl dX11_write_10 ?_
    refine lv_iload_n hx hb dX11_write_13 rfl (lv_at hl 1 rfl) ?_
    obtain ⟨vq1, hvq1, hf⟩ := bd_e hf
    refine zaldr E hw (Nat.le_of_ble_eq_true rfl) (ceC_9 ad cy) hvq1 dX11_write_14 ?_
    refine lv_iconst (v := (-1)) hx hb dX11_write_15 (by decide) ?_
    refine lv_icmp_ne (tgt := 22) hx hb dX11_write_16 (by decide) (fun h => ?_) (fun h => ?_)
    · replace hf := it_t h hf
      refine lv_iload_n hx hb dX11_write_22 rfl (lv_at hl 2 rfl) ?_
      refine lv_iconst (v := 0) hx hb dX11_write_23 (by decide) ?_
      refine lv_aload_n hx hb dX11_write_24 rfl (lv_at hl 0 rfl) ?_
      refine zget E hw (Nat.le_of_ble_eq_true rfl) (ceC_0 ad cy _) rfl inX11 10 (by decide) k2_131 (fun _ h => h) rfl dX11_write_25 ?_
      refine lv_iload_n hx hb dX11_write_28 rfl (lv_at hl 1 rfl) ?_
      obtain ⟨vq2, hvq2, hf⟩ := bd_e hf
      refine zaldr E hw (Nat.le_of_ble_eq_true rfl) (ceC_10 ad cy) hvq2 dX11_write_29 ?_
      refine lv_iconst (v := 1) hx hb dX11_write_30 (by decide) ?_
      refine lv_isub hx hb dX11_write_31 ?_
      refine zcali hw (va_runS (As := [.int xq2, .int 0, .int (vq2 - 1)]) (rest := []) E.fix (c_X11_within (l := l) hA xq2 0 (vq2 - 1) σ rfl) (zcS E k2_179 k1_1 k2_177 k2_178 mf_X11_within rfl rfl ⟨Nat.le_of_ble_eq_true rfl, Nat.le_of_ble_eq_true rfl⟩) (zPre E hw _) rfl rfl hl.1 rfl (lv_room (Nat.le_of_ble_eq_true rfl)) dX11_write_32 ⟨Nat.zero_le _, Nat.zero_le _⟩) (fun H locs hw => ?_)
      refine lv_if_ne (tgt := 41) hx hb dX11_write_35 (by decide) (fun h => ?_) (fun h => ?_)
      · replace hf := it_t (b2i_n h) hf
        refine lv_aload_n hx hb dX11_write_41 rfl (lv_at hl 0 rfl) ?_
        refine zget E hw (Nat.le_of_ble_eq_true rfl) (ceC_0 ad cy _) rfl inX11 8 (by decide) k2_129 (fun _ h => h) rfl dX11_write_42 ?_
        refine lv_iload_n hx hb dX11_write_45 rfl (lv_at hl 1 rfl) ?_
        obtain ⟨hiq3, hf⟩ := gd_e hf
        refine zaldq E hw (Nat.le_of_ble_eq_true rfl) 6 rfl rfl (ceC_19 ad cy _) hiq3 dX11_write_46 ?_
        refine lv_iload_n hx hb dX11_write_47 rfl (lv_at hl 2 rfl) ?_
        refine lv_iload_n hx hb dX11_write_48 rfl (lv_at hl 3 rfl) ?_
        refine lv_aload_n hx hb dX11_write_49 rfl (lv_at hl 0 rfl) ?_
        refine zget E hw (Nat.le_of_ble_eq_true rfl) (ceC_0 ad cy _) rfl inX11 9 (by decide) k2_130 (fun _ h => h) rfl dX11_write_50 ?_
        refine lv_iload_n hx hb dX11_write_53 rfl (lv_at hl 1 rfl) ?_
        obtain ⟨vq4, hvq4, hf⟩ := bd_e hf
        refine zaldr E hw (Nat.le_of_ble_eq_true rfl) (ceC_9 ad cy) hvq4 dX11_write_54 ?_
        refine zcall hw (va_runS (As := [.int xq3, .int vq4]) (rest := [.int xq2, .ref (ad (20 + xq1.toNatClampNeg))]) E.fix (c_X11_narrowed (l := l) hA xq3 vq4 σ rfl) (zcS E k5_35 k1_1 k5_33 k5_34 mf_X11_narrowed rfl rfl ⟨Nat.le_of_ble_eq_true rfl, Nat.le_of_ble_eq_true rfl⟩) (zPre E hw _) rfl rfl hl.1 rfl (lv_room (Nat.le_of_ble_eq_true rfl)) dX11_write_55 ⟨Nat.zero_le _, Nat.zero_le _⟩) (fun H locs hw => ?_)
        obtain ⟨σ5, hσ5, hf⟩ := bd_e hf
        refine zlastr E hw (ltItm (itmOf (nlt hiq3))) (fun r => ceItm ad cy r (itmOf (nlt hiq3))) hσ5 dX11_write_58 (fun H locs hw => ?_)
        refine lv_iconst (v := 1) hx hb dX11_write_59 (by decide) ?_
        exact zreti E hw hr hlk (rt_a hf) (rt_b hf) dX11_write_60
      · replace hf := it_f (b2i_0 h) hf
        refine lv_bipush (v := (-12)) hx hb dX11_write_38 (by decide) ?_
        exact zreti E hw hr hlk (rt_a hf) (rt_b hf) dX11_write_40
    · replace hf := it_n h hf
      refine lv_bipush (v := (-11)) hx hb dX11_write_19 (by decide) ?_
      exact zreti E hw hr hlk (rt_a hf) (rt_b hf) dX11_write_21
  · replace hf := it_f (b2i_0 h) hf
    refine lv_iconst (v := (-1)) hx hb dX11_write_7 (by decide) ?_
    exact zreti E hw hr hlk (rt_a hf) (rt_b hf) dX11_write_8
set_option maxRecDepth 100000 in
set_option maxHeartbeats 4000000 in
theorem c_X11_refusalAs {l : Launch} {D : va_G} {cy : Cy} {ad : Nat → Nat} {A : Nat → Prop} (hA : okAd 97 ad A) (xq1 : Int32) (xq2 : Int32) (σ : Sg) {r : Int32} (hf : f_X11_refusalAs xq1 xq2 σ = some r) : Met l yX11_refusalAs (.code yX11_refusalAs cX11_refusalAs 3 (some .int) :: TT) ({ frames := 0, cells := 0, slots := 0, locals := 0 } : Room) (zPc D cy 97 (celC ad cy) ad A [.ref (ad 0), .int xq1, .int xq2] σ) (zQi D 97 (celC ad cy) ad A r σ) 0 0 A := by
  refine zofW (by decide) hA (Nat.le_of_ble_eq_true rfl) ?_
  intro p e s m args below meth c ls E hw hr hlk hl
  have E : ZE p s m args c cX11_refusalAs 3 "KiteSummons" D cy 97 ad A := E
  have hx := E.hx
  have hb := E.hb
  have hl : lv_has ls 3 [(0, .ref (ad 0)), (1, .int xq1), (2, .int xq2)] := hl
  unfold f_X11_refusalAs at hf
  refine lv_aload_n hx hb dX11_refusalAs_0 rfl (lv_at hl 0 rfl) ?_
  refine zget E hw (Nat.le_of_ble_eq_true rfl) (ceC_0 ad cy _) rfl inX11 9 (by decide) k2_130 (fun _ h => h) rfl dX11_refusalAs_1 ?_
  refine lv_iload_n hx hb dX11_refusalAs_4 rfl (lv_at hl 1 rfl) ?_
  obtain ⟨vq1, hvq1, hf⟩ := bd_e hf
  refine zaldr E hw (Nat.le_of_ble_eq_true rfl) (ceC_9 ad cy) hvq1 dX11_refusalAs_5 ?_
  refine lv_iconst (v := (-1)) hx hb dX11_refusalAs_6 (by decide) ?_
  refine lv_icmp_ne (tgt := 13) hx hb dX11_refusalAs_7 (by decide) (fun h => ?_) (fun h => ?_)
  · replace hf := it_t h hf
    refine lv_aload_n hx hb dX11_refusalAs_13 rfl (lv_at hl 0 rfl) ?_
    refine zget E hw (Nat.le_of_ble_eq_true rfl) (ceC_0 ad cy _) rfl inX11 9 (by decide) k2_130 (fun _ h => h) rfl dX11_refusalAs_14 ?_
    refine lv_iload_n hx hb dX11_refusalAs_17 rfl (lv_at hl 1 rfl) ?_
    obtain ⟨vq2, hvq2, hf⟩ := bd_e hf
    refine zaldr E hw (Nat.le_of_ble_eq_true rfl) (ceC_9 ad cy) hvq2 dX11_refusalAs_18 ?_
    refine lv_iload_n hx hb dX11_refusalAs_19 rfl (lv_at hl 2 rfl) ?_
    refine lv_icmp_ne (tgt := 27) hx hb dX11_refusalAs_20 (by decide) (fun h => ?_) (fun h => ?_)
    · replace hf := it_t h hf
      refine lv_bipush (v := (-13)) hx hb dX11_refusalAs_27 (by decide) ?_
      exact zreti E hw hr hlk (rt_1 hf) rfl dX11_refusalAs_29
    · replace hf := it_n h hf
      refine lv_iconst (v := 0) hx hb dX11_refusalAs_23 (by decide) ?_
      refine lv_goto (tgt := 29) hx hb dX11_refusalAs_24 (by decide) ?_
      exact zreti E hw hr hlk (rt_1 hf) rfl dX11_refusalAs_29
  · replace hf := it_n h hf
    refine lv_bipush (v := (-11)) hx hb dX11_refusalAs_10 (by decide) ?_
    exact zreti E hw hr hlk (rt_1 hf) rfl dX11_refusalAs_12
set_option maxRecDepth 100000 in
set_option maxHeartbeats 4000000 in
theorem c_X11_item {l : Launch} {D : va_G} {cy : Cy} {ad : Nat → Nat} {A : Nat → Prop} (hA : okAd 97 ad A) (xq1 : Int32) (xq2 : Int32) (xq3 : Int32) (σ : Sg) {r : Int32} (hf : f_X11_item xq1 xq2 xq3 σ = some r) : Met l yX11_item (.code yX11_item cX11_item 5 (some .int) :: TT) ({ frames := 2, cells := 0, slots := 0, locals := 42 } : Room) (zPc D cy 97 (celC ad cy) ad A [.ref (ad 0), .int xq1, .int xq2, .int xq3] σ) (zQi D 97 (celC ad cy) ad A r σ) 0 0 A := by
  refine zofW (by decide) hA (Nat.le_of_ble_eq_true rfl) ?_
  intro p e s m args below meth c ls E hw hr hlk hl
  have E : ZE p s m args c cX11_item 5 "KiteSummons" D cy 97 ad A := E
  have hx := E.hx
  have hb := E.hb
  have hl : lv_has ls 5 [(0, .ref (ad 0)), (1, .int xq1), (2, .int xq2), (3, .int xq3)] := hl
  unfold f_X11_item at hf
  refine lv_iload_n hx hb dX11_item_0 rfl (lv_at hl 1 rfl) ?_
  refine zcali hw (va_runS (As := [.int xq1]) (rest := []) E.fix (c_X11_isSheet (l := l) hA xq1 σ rfl) (zcS E k5_25 k1_1 k5_23 k5_24 mf_X11_isSheet rfl rfl ⟨Nat.le_of_ble_eq_true rfl, Nat.le_of_ble_eq_true rfl⟩) (zPre E hw _) rfl rfl hl.1 rfl (lv_room (Nat.le_of_ble_eq_true rfl)) dX11_item_1 ⟨Nat.zero_le _, Nat.zero_le _⟩) (fun H locs hw => ?_)
  refine lv_if_eq (tgt := 16) hx hb dX11_item_4 (by decide) (fun h => ?_) (fun h => ?_)
  · replace hf := it_f (b2i_0 h) hf
    refine lv_iconst (v := (-1)) hx hb dX11_item_16 (by decide) ?_
    exact zreti E hw hr hlk (rt_1 hf) rfl dX11_item_17
  · replace hf := it_t (b2i_n h) hf
    refine lv_iload_n hx hb dX11_item_7 rfl (lv_at hl 2 rfl) ?_
    refine lv_iconst (v := 0) hx hb dX11_item_8 (by decide) ?_
    refine lv_iconst (v := 4) hx hb dX11_item_9 (by decide) ?_
    refine zcali hw (va_runS (As := [.int xq2, .int 0, .int 4]) (rest := []) E.fix (c_X11_within (l := l) hA xq2 0 4 σ rfl) (zcS E k2_179 k1_1 k2_177 k2_178 mf_X11_within rfl rfl ⟨Nat.le_of_ble_eq_true rfl, Nat.le_of_ble_eq_true rfl⟩) (zPre E hw _) rfl rfl hl.1 rfl (lv_room (Nat.le_of_ble_eq_true rfl)) dX11_item_10 ⟨Nat.zero_le _, Nat.zero_le _⟩) (fun H locs hw => ?_)
    refine lv_if_ne (tgt := 18) hx hb dX11_item_13 (by decide) (fun h => ?_) (fun h => ?_)
    · replace hf := it_t (b2i_n h) hf
      refine lv_aload_n hx hb dX11_item_18 rfl (lv_at hl 0 rfl) ?_
      refine lv_iload_n hx hb dX11_item_19 rfl (lv_at hl 1 rfl) ?_
      refine lv_iload_n hx hb dX11_item_20 rfl (lv_at hl 2 rfl) ?_
      obtain ⟨vq1, hc, hf⟩ := bd_e hf
      refine zcali hw (va_runV (As := [.int xq1, .int xq2]) (rest := []) E.fix (c_X11_refusalAs (l := l) hA xq1 xq2 σ hc) (zcV E k5_43 k1_1 k5_40 k5_42 kp3_3 mf_X11_refusalAs rfl rfl ⟨Nat.le_of_ble_eq_true rfl, Nat.le_of_ble_eq_true rfl⟩) (zPreV E hw (Nat.le_of_ble_eq_true rfl) (ceC_0 ad cy _) rfl _) rfl rfl hl.1 rfl (lv_room (Nat.le_of_ble_eq_true rfl)) dX11_item_21 ⟨Nat.zero_le _, Nat.zero_le _⟩) (fun H locs hw => ?_)
      refine lv_istore (lv' := [(4, .int vq1), (0, .ref (ad 0)), (1, .int xq1), (2, .int xq2), (3, .int xq3)]) hx hb dX11_item_24 hl (by decide) rfl (fun ls hl => ?_)
      refine lv_iload hx hb dX11_item_26 (lv_at hl 0 rfl) ?_
      refine lv_if_eq (tgt := 34) hx hb dX11_item_28 (by decide) (fun h => ?_) (fun h => ?_)
      · replace hf := it_t h hf
        refine lv_iload_n hx hb dX11_item_34 rfl (lv_at hl 4 rfl) ?_
        refine lv_iconst (v := 0) hx hb dX11_item_35 (by decide) ?_
        refine lv_aload_n hx hb dX11_item_36 rfl (lv_at hl 1 rfl) ?_
        refine zget E hw (Nat.le_of_ble_eq_true rfl) (ceC_0 ad cy _) rfl inX11 10 (by decide) k2_131 (fun _ h => h) rfl dX11_item_37 ?_
        refine lv_iload_n hx hb dX11_item_40 rfl (lv_at hl 2 rfl) ?_
        obtain ⟨vq2, hvq2, hf⟩ := bd_e hf
        refine zaldr E hw (Nat.le_of_ble_eq_true rfl) (ceC_10 ad cy) hvq2 dX11_item_41 ?_
        refine lv_iconst (v := 1) hx hb dX11_item_42 (by decide) ?_
        refine lv_isub hx hb dX11_item_43 ?_
        refine zcali hw (va_runS (As := [.int xq3, .int 0, .int (vq2 - 1)]) (rest := []) E.fix (c_X11_within (l := l) hA xq3 0 (vq2 - 1) σ rfl) (zcS E k2_179 k1_1 k2_177 k2_178 mf_X11_within rfl rfl ⟨Nat.le_of_ble_eq_true rfl, Nat.le_of_ble_eq_true rfl⟩) (zPre E hw _) rfl rfl hl.1 rfl (lv_room (Nat.le_of_ble_eq_true rfl)) dX11_item_44 ⟨Nat.zero_le _, Nat.zero_le _⟩) (fun H locs hw => ?_)
        refine lv_if_eq (tgt := 62) hx hb dX11_item_47 (by decide) (fun h => ?_) (fun h => ?_)
        · replace hf := it_f (b2i_0 h) hf
          refine lv_bipush (v := (-12)) hx hb dX11_item_62 (by decide) ?_
          exact zreti E hw hr hlk (rt_1 hf) rfl dX11_item_64
        · replace hf := it_t (b2i_n h) hf
          refine lv_aload_n hx hb dX11_item_50 rfl (lv_at hl 1 rfl) ?_
          refine zget E hw (Nat.le_of_ble_eq_true rfl) (ceC_0 ad cy _) rfl inX11 8 (by decide) k2_129 (fun _ h => h) rfl dX11_item_51 ?_
          refine lv_iload_n hx hb dX11_item_54 rfl (lv_at hl 2 rfl) ?_
          obtain ⟨hiq3, hf⟩ := gd_e hf
          refine zaldq E hw (Nat.le_of_ble_eq_true rfl) 6 rfl rfl (ceC_19 ad cy _) hiq3 dX11_item_55 ?_
          refine lv_iload_n hx hb dX11_item_56 rfl (lv_at hl 4 rfl) ?_
          obtain ⟨vq4, hvq4, hf⟩ := bd_e hf
          refine zlaldr E hw (ltItm (itmOf (nlt hiq3))) (fun r => ceItm ad cy r (itmOf (nlt hiq3))) hvq4 dX11_item_57 ?_
          refine lv_l2i (v := vq4) hx hb dX11_item_58 (i64_back _) ?_
          refine lv_goto (tgt := 64) hx hb dX11_item_59 (by decide) ?_
          exact zreti E hw hr hlk (rt_1 hf) rfl dX11_item_64
      · replace hf := it_f h hf
        refine lv_iload hx hb dX11_item_31 (lv_at hl 0 rfl) ?_
        exact zreti E hw hr hlk (rt_1 hf) rfl dX11_item_33
    · replace hf := it_f (b2i_0 h) hf
      refine lv_iconst (v := (-1)) hx hb dX11_item_16 (by decide) ?_
      exact zreti E hw hr hlk (rt_1 hf) rfl dX11_item_17
set_option maxRecDepth 100000 in
set_option maxHeartbeats 4000000 in
theorem c_X11_goAll {l : Launch} {D : va_G} {cy : Cy} {ad : Nat → Nat} {A : Nat → Prop} (hA : okAd 97 ad A) (xq1 : Int32) (xq2 : Int32) (xq3 : Int32) (σ : Sg) {r : Int32} {σ9 : Sg} (hf : f_X11_goAll xq1 xq2 xq3 σ = some (r, σ9)) : Met l yX11_goAll (.code yX11_goAll cX11_goAll 8 (some .int) :: TT) ({ frames := 5, cells := 0, slots := 0, locals := 118 } : Room) (zPc D cy 97 (celC ad cy) ad A [.ref (ad 0), .int xq1, .int xq2, .int xq3] σ) (zQi D 97 (celC ad cy) ad A r σ9) 0 0 A := by
  refine zofW (by decide) hA (Nat.le_of_ble_eq_true rfl) ?_
  intro p e s m args below meth c ls E hw hr hlk hl
  have E : ZE p s m args c cX11_goAll 8 "KiteSummons" D cy 97 ad A := E
  have hx := E.hx
  have hb := E.hb
  have hl : lv_has ls 8 [(0, .ref (ad 0)), (1, .int xq1), (2, .int xq2), (3, .int xq3)] := hl
  have hB41 : ∀ (xq1 : Int32) (xq2 : Int32) (xq3 : Int32) (kq41 : Int32 → Int32 → Sg → Option (Int32 × Sg)) (hkq41 : ∀ (xq5 : Int32) (xq6 : Int32) (σ : Sg) (H : Heap) (locs : List Loc) (ls : Array Slot), ZS D 97 (celC ad cy) ad A s σ H locs → lv_has ls 8 [(0, .ref (ad 0)), (1, .int xq1), (2, .int xq2), (3, .int xq3), (5, .int xq5), (6, .int xq6)] → kq41 xq5 xq6 σ = some (r, σ9) → W p l e ({ frames := 5, cells := 0, slots := 0, locals := 118 } : Room) s m args below meth c H locs 0 0 (MQ below (zQi D 97 (celC ad cy) ad A r σ9) args s 0 0 A) (F0 m 41 ls [])) (xq5 : Int32) (xq6 : Int32) (σ : Sg) (H : Heap) (locs : List Loc) (ls : Array Slot), ZS D 97 (celC ad cy) ad A s σ H locs → lv_has ls 8 [(0, .ref (ad 0)), (1, .int xq1), (2, .int xq2), (3, .int xq3), (5, .int xq5), (6, .int xq6)] → f_X11_goAll_b41 kq41 xq1 xq2 xq3 xq5 xq6 σ = some (r, σ9) → W p l e ({ frames := 5, cells := 0, slots := 0, locals := 118 } : Room) s m args below meth c H locs 0 0 (MQ below (zQi D 97 (celC ad cy) ad A r σ9) args s 0 0 A) (F0 m 41 ls []) := by
    intro xq1 xq2 xq3 kq41 hkq41 xq5 xq6 σ H locs ls hw hl hf
    unfold f_X11_goAll_b41 at hf
    refine lv_iload hx hb dX11_goAll_41 (lv_at hl 5 rfl) ?_
    refine lv_iload_n hx hb dX11_goAll_43 rfl (lv_at hl 3 rfl) ?_
    refine lv_icmp_ge (tgt := 143) hx hb dX11_goAll_44 (by decide) (fun h => ?_) (fun h => ?_)
    · replace hf := it_t h hf
      refine lv_iload hx hb dX11_goAll_143 (lv_at hl 4 rfl) ?_
      exact zreti E hw hr hlk (rt_a hf) (rt_b hf) dX11_goAll_145
    · replace hf := it_f h hf
      refine lv_iload_n hx hb dX11_goAll_47 rfl (lv_at hl 2 rfl) ?_
      refine lv_iload hx hb dX11_goAll_48 (lv_at hl 5 rfl) ?_
      refine lv_iadd hx hb dX11_goAll_50 ?_
      refine lv_iconst (v := 0) hx hb dX11_goAll_51 (by decide) ?_
      refine lv_aload_n hx hb dX11_goAll_52 rfl (lv_at hl 0 rfl) ?_
      refine zget E hw (Nat.le_of_ble_eq_true rfl) (ceC_0 ad cy _) rfl inX11 10 (by decide) k2_131 (fun _ h => h) rfl dX11_goAll_53 ?_
      refine lv_iload_n hx hb dX11_goAll_56 rfl (lv_at hl 1 rfl) ?_
      obtain ⟨vq2, hvq2, hf⟩ := bd_e hf
      refine zaldr E hw (Nat.le_of_ble_eq_true rfl) (ceC_10 ad cy) hvq2 dX11_goAll_57 ?_
      refine lv_iconst (v := 1) hx hb dX11_goAll_58 (by decide) ?_
      refine lv_isub hx hb dX11_goAll_59 ?_
      refine zcali hw (va_runS (As := [.int (xq2 + xq6), .int 0, .int (vq2 - 1)]) (rest := []) E.fix (c_X11_within (l := l) hA (xq2 + xq6) 0 (vq2 - 1) σ rfl) (zcS E k2_179 k1_1 k2_177 k2_178 mf_X11_within rfl rfl ⟨Nat.le_of_ble_eq_true rfl, Nat.le_of_ble_eq_true rfl⟩) (zPre E hw _) rfl rfl hl.1 rfl (lv_room (Nat.le_of_ble_eq_true rfl)) dX11_goAll_60 ⟨Nat.zero_le _, Nat.zero_le _⟩) (fun H locs hw => ?_)
      refine lv_if_ne (tgt := 69) hx hb dX11_goAll_63 (by decide) (fun h => ?_) (fun h => ?_)
      · replace hf := it_t (b2i_n h) hf
        refine lv_aload_n hx hb dX11_goAll_69 rfl (lv_at hl 0 rfl) ?_
        refine zget E hw (Nat.le_of_ble_eq_true rfl) (ceC_0 ad cy _) rfl inX11 8 (by decide) k2_129 (fun _ h => h) rfl dX11_goAll_70 ?_
        refine lv_iload_n hx hb dX11_goAll_73 rfl (lv_at hl 1 rfl) ?_
        obtain ⟨hiq3, hf⟩ := gd_e hf
        refine zaldq E hw (Nat.le_of_ble_eq_true rfl) 6 rfl rfl (ceC_19 ad cy _) hiq3 dX11_goAll_74 ?_
        refine lv_iload_n hx hb dX11_goAll_75 rfl (lv_at hl 2 rfl) ?_
        refine lv_iload hx hb dX11_goAll_76 (lv_at hl 5 rfl) ?_
        refine lv_iadd hx hb dX11_goAll_78 ?_
        obtain ⟨vq4, hvq4, hf⟩ := bd_e hf
        refine zlaldr E hw (ltItm (itmOf (nlt hiq3))) (fun r => ceItm ad cy r (itmOf (nlt hiq3))) hvq4 dX11_goAll_79 ?_
        refine lv_l2i (v := vq4) hx hb dX11_goAll_80 (i64_back _) ?_
        refine lv_topi (fun vq5 evq5 => ?_)
        replace hf := lt_i evq5 hf
        refine lv_istore (lv' := [(7, .int vq5), (0, .ref (ad 0)), (1, .int xq1), (2, .int xq2), (3, .int xq3), (5, .int xq5), (6, .int xq6)]) hx hb dX11_goAll_81 hl (by decide) rfl (fun ls hl => ?_)
        refine lv_iload hx hb dX11_goAll_83 (lv_at hl 0 rfl) ?_
        refine lv_iconst (v := 0) hx hb dX11_goAll_85 (by decide) ?_
        refine lv_aload_n hx hb dX11_goAll_86 rfl (lv_at hl 1 rfl) ?_
        refine zget E hw (Nat.le_of_ble_eq_true rfl) (ceC_0 ad cy _) rfl inX11 2 (by decide) k2_123 (fun _ h => h) rfl dX11_goAll_87 ?_
        refine zget E hw (Nat.le_of_ble_eq_true rfl) (ceC_24 ad cy _) rfl inX1 1 (by decide) k2_10 (fun _ h => h) rfl dX11_goAll_90 ?_
        refine zcali hw (va_runS (As := [.int vq5, .int 0, .int (σ 24 1)]) (rest := []) E.fix (c_X11_within (l := l) hA vq5 0 (σ 24 1) σ rfl) (zcS E k2_179 k1_1 k2_177 k2_178 mf_X11_within rfl rfl ⟨Nat.le_of_ble_eq_true rfl, Nat.le_of_ble_eq_true rfl⟩) (zPre E hw _) rfl rfl hl.1 rfl (lv_room (Nat.le_of_ble_eq_true rfl)) dX11_goAll_93 ⟨Nat.zero_le _, Nat.zero_le _⟩) (fun H locs hw => ?_)
        refine lv_if_eq (tgt := 137) hx hb dX11_goAll_96 (by decide) (fun h => ?_) (fun h => ?_)
        · replace hf := it_f (b2i_0 h) hf
          refine lv_iinc (v := (xq6 + 1)) (lv' := [(6, .int (xq6 + 1)), (7, .int vq5), (0, .ref (ad 0)), (1, .int xq1), (2, .int xq2), (3, .int xq3), (5, .int xq5)]) hx hb dX11_goAll_137 hl (k := 6) rfl (by rfl) (by decide) rfl (fun ls hl => ?_)
          refine lv_goto (tgt := 41) hx hb dX11_goAll_140 (by decide) ?_
          exact hkq41 xq5 (xq6 + 1) σ _ _ _ hw (lv_sub hl [2, 3, 4, 5, 6, 0] rfl) hf
        · replace hf := it_t (b2i_n h) hf
          refine lv_aload_n hx hb dX11_goAll_99 rfl (lv_at hl 1 rfl) ?_
          refine zget E hw (Nat.le_of_ble_eq_true rfl) (ceC_0 ad cy _) rfl inX11 2 (by decide) k2_123 (fun _ h => h) rfl dX11_goAll_100 ?_
          refine lv_aload_n hx hb dX11_goAll_103 rfl (lv_at hl 1 rfl) ?_
          refine zget E hw (Nat.le_of_ble_eq_true rfl) (ceC_0 ad cy _) rfl inX11 2 (by decide) k2_123 (fun _ h => h) rfl dX11_goAll_104 ?_
          refine zget E hw (Nat.le_of_ble_eq_true rfl) (ceC_24 ad cy _) rfl inX1 15 (by decide) k2_36 (fun _ h => h) rfl dX11_goAll_107 ?_
          refine zcali hw (va_runV (As := [.ref (ad 41)]) (rest := []) E.fix (c_X1_isOver (l := l) hA 41 (by unfold isSky; omega) σ rfl) (zcV E k3_106 k1_11 k3_103 k3_104 k3_105 mf_X1_isOver rfl rfl ⟨Nat.le_of_ble_eq_true rfl, Nat.le_of_ble_eq_true rfl⟩) (zPreV E hw (Nat.le_of_ble_eq_true rfl) (ceC_24 ad cy _) rfl _) rfl rfl hl.1 rfl (lv_room (Nat.le_of_ble_eq_true rfl)) dX11_goAll_110 ⟨Nat.zero_le _, Nat.zero_le _⟩) (fun H locs hw => ?_)
          refine lv_if_ne (tgt := 137) hx hb dX11_goAll_113 (by decide) (fun h => ?_) (fun h => ?_)
          · replace hf := it_t (b2i_n h) hf
            refine lv_iinc (v := (xq6 + 1)) (lv' := [(6, .int (xq6 + 1)), (7, .int vq5), (0, .ref (ad 0)), (1, .int xq1), (2, .int xq2), (3, .int xq3), (5, .int xq5)]) hx hb dX11_goAll_137 hl (k := 6) rfl (by rfl) (by decide) rfl (fun ls hl => ?_)
            refine lv_goto (tgt := 41) hx hb dX11_goAll_140 (by decide) ?_
            exact hkq41 xq5 (xq6 + 1) σ _ _ _ hw (lv_sub hl [2, 3, 4, 5, 6, 0] rfl) hf
          · replace hf := it_f (b2i_0 h) hf
            refine lv_iload hx hb dX11_goAll_116 (lv_at hl 5 rfl) ?_
            refine lv_aload_n hx hb dX11_goAll_118 rfl (lv_at hl 1 rfl) ?_
            refine zget E hw (Nat.le_of_ble_eq_true rfl) (ceC_0 ad cy _) rfl inX11 2 (by decide) k2_123 (fun _ h => h) rfl dX11_goAll_119 ?_
            refine lv_aload_n hx hb dX11_goAll_122 rfl (lv_at hl 1 rfl) ?_
            refine zget E hw (Nat.le_of_ble_eq_true rfl) (ceC_0 ad cy _) rfl inX11 2 (by decide) k2_123 (fun _ h => h) rfl dX11_goAll_123 ?_
            refine zget E hw (Nat.le_of_ble_eq_true rfl) (ceC_24 ad cy _) rfl inX1 15 (by decide) k2_36 (fun _ h => h) rfl dX11_goAll_126 ?_
            refine lv_iload hx hb dX11_goAll_129 (lv_at hl 0 rfl) ?_
            obtain ⟨vq6, σ7, hc, hf⟩ := bd2_e hf
            refine zcali hw (va_runV (As := [.ref (ad 41), .int vq5]) (rest := [.int xq5]) E.fix (c_X1_goByAct (l := l) hA 41 (by unfold isSky; omega) vq5 σ hc) (zcV E k4_88 k1_11 k4_85 k4_86 k4_87 mf_X1_goByAct rfl rfl ⟨Nat.le_of_ble_eq_true rfl, Nat.le_of_ble_eq_true rfl⟩) (zPreV E hw (Nat.le_of_ble_eq_true rfl) (ceC_24 ad cy _) rfl _) rfl rfl hl.1 rfl (lv_room (Nat.le_of_ble_eq_true rfl)) dX11_goAll_131 ⟨Nat.zero_le _, Nat.zero_le _⟩) (fun H locs hw => ?_)
            refine lv_iadd hx hb dX11_goAll_134 ?_
            refine lv_topi (fun vq8 evq8 => ?_)
            replace hf := lt_i evq8 hf
            refine lv_istore (lv' := [(5, .int vq8), (7, .int vq5), (0, .ref (ad 0)), (1, .int xq1), (2, .int xq2), (3, .int xq3), (6, .int xq6)]) hx hb dX11_goAll_135 hl (by decide) rfl (fun ls hl => ?_)
            refine lv_iinc (v := (xq6 + 1)) (lv' := [(6, .int (xq6 + 1)), (5, .int vq8), (7, .int vq5), (0, .ref (ad 0)), (1, .int xq1), (2, .int xq2), (3, .int xq3)]) hx hb dX11_goAll_137 hl (k := 6) rfl (by rfl) (by decide) rfl (fun ls hl => ?_)
            refine lv_goto (tgt := 41) hx hb dX11_goAll_140 (by decide) ?_
            exact hkq41 vq8 (xq6 + 1) σ7 _ _ _ hw (lv_sub hl [3, 4, 5, 6, 1, 0] rfl) hf
      · replace hf := it_f (b2i_0 h) hf
        refine lv_bipush (v := (-12)) hx hb dX11_goAll_66 (by decide) ?_
        exact zreti E hw hr hlk (rt_a hf) (rt_b hf) dX11_goAll_68
  have hL41 : ∀ (xq1 : Int32) (xq2 : Int32) (xq3 : Int32) (n : Nat) (xq5 : Int32) (xq6 : Int32) (σ : Sg) (H : Heap) (locs : List Loc) (ls : Array Slot), ZS D 97 (celC ad cy) ad A s σ H locs → lv_has ls 8 [(0, .ref (ad 0)), (1, .int xq1), (2, .int xq2), (3, .int xq3), (5, .int xq5), (6, .int xq6)] → f_X11_goAll_l41 xq1 xq2 xq3 n xq5 xq6 σ = some (r, σ9) → W p l e ({ frames := 5, cells := 0, slots := 0, locals := 118 } : Room) s m args below meth c H locs 0 0 (MQ below (zQi D 97 (celC ad cy) ad A r σ9) args s 0 0 A) (F0 m 41 ls []) := by
    intro xq1 xq2 xq3 n
    induction n with
    | zero =>
      intro xq5 xq6 σ H locs ls hw hl hf
      exact nn_e hf
    | succ n ih =>
      intro xq5 xq6 σ H locs ls hw hl hf
      exact hB41 xq1 xq2 xq3 (f_X11_goAll_l41 xq1 xq2 xq3 n) ih xq5 xq6 σ H locs ls hw hl hf
  unfold f_X11_goAll at hf
  refine lv_iload_n hx hb dX11_goAll_0 rfl (lv_at hl 1 rfl) ?_
  refine zcali hw (va_runS (As := [.int xq1]) (rest := []) E.fix (c_X11_isSheet (l := l) hA xq1 σ rfl) (zcS E k5_25 k1_1 k5_23 k5_24 mf_X11_isSheet rfl rfl ⟨Nat.le_of_ble_eq_true rfl, Nat.le_of_ble_eq_true rfl⟩) (zPre E hw _) rfl rfl hl.1 rfl (lv_room (Nat.le_of_ble_eq_true rfl)) dX11_goAll_1 ⟨Nat.zero_le _, Nat.zero_le _⟩) (fun H locs hw => ?_)
  refine lv_if_eq (tgt := 17) hx hb dX11_goAll_4 (by decide) (fun h => ?_) (fun h => ?_)
  · replace hf := it_f (b2i_0 h) hf
    refine lv_iconst (v := (-1)) hx hb dX11_goAll_17 (by decide) ?_
    exact zreti E hw hr hlk (rt_a hf) (rt_b hf) dX11_goAll_18
  · replace hf := it_t (b2i_n h) hf
    refine lv_iload_n hx hb dX11_goAll_7 rfl (lv_at hl 3 rfl) ?_
    refine lv_iconst (v := 0) hx hb dX11_goAll_8 (by decide) ?_
    refine lv_bipush (v := 20) hx hb dX11_goAll_9 (by decide) ?_
    refine zcali hw (va_runS (As := [.int xq3, .int 0, .int 20]) (rest := []) E.fix (c_X11_within (l := l) hA xq3 0 20 σ rfl) (zcS E k2_179 k1_1 k2_177 k2_178 mf_X11_within rfl rfl ⟨Nat.le_of_ble_eq_true rfl, Nat.le_of_ble_eq_true rfl⟩) (zPre E hw _) rfl rfl hl.1 rfl (lv_room (Nat.le_of_ble_eq_true rfl)) dX11_goAll_11 ⟨Nat.zero_le _, Nat.zero_le _⟩) (fun H locs hw => ?_)
    refine lv_if_ne (tgt := 19) hx hb dX11_goAll_14 (by decide) (fun h => ?_) (fun h => ?_)
    · replace hf := it_t (b2i_n h) hf
      refine lv_aload_n hx hb dX11_goAll_19 rfl (lv_at hl 0 rfl) ?_
      refine lv_iload_n hx hb dX11_goAll_20 rfl (lv_at hl 1 rfl) ?_
      refine lv_iconst (v := 0) hx hb dX11_goAll_21 (by decide) ?_
      obtain ⟨vq1, hc, hf⟩ := bd_e hf
      refine zcali hw (va_runV (As := [.int xq1, .int 0]) (rest := []) E.fix (c_X11_refusalAs (l := l) hA xq1 0 σ hc) (zcV E k5_43 k1_1 k5_40 k5_42 kp3_3 mf_X11_refusalAs rfl rfl ⟨Nat.le_of_ble_eq_true rfl, Nat.le_of_ble_eq_true rfl⟩) (zPreV E hw (Nat.le_of_ble_eq_true rfl) (ceC_0 ad cy _) rfl _) rfl rfl hl.1 rfl (lv_room (Nat.le_of_ble_eq_true rfl)) dX11_goAll_22 ⟨Nat.zero_le _, Nat.zero_le _⟩) (fun H locs hw => ?_)
      refine lv_istore (lv' := [(4, .int vq1), (0, .ref (ad 0)), (1, .int xq1), (2, .int xq2), (3, .int xq3)]) hx hb dX11_goAll_25 hl (by decide) rfl (fun ls hl => ?_)
      refine lv_iload hx hb dX11_goAll_27 (lv_at hl 0 rfl) ?_
      refine lv_if_eq (tgt := 35) hx hb dX11_goAll_29 (by decide) (fun h => ?_) (fun h => ?_)
      · replace hf := it_t h hf
        refine lv_iconst (v := 0) hx hb dX11_goAll_35 (by decide) ?_
        refine lv_istore (lv' := [(5, .int 0), (4, .int vq1), (0, .ref (ad 0)), (1, .int xq1), (2, .int xq2), (3, .int xq3)]) hx hb dX11_goAll_36 hl (by decide) rfl (fun ls hl => ?_)
        refine lv_iconst (v := 0) hx hb dX11_goAll_38 (by decide) ?_
        refine lv_istore (lv' := [(6, .int 0), (5, .int 0), (4, .int vq1), (0, .ref (ad 0)), (1, .int xq1), (2, .int xq2), (3, .int xq3)]) hx hb dX11_goAll_39 hl (by decide) rfl (fun ls hl => ?_)
        exact hL41 xq1 xq2 xq3 400 0 0 σ _ _ _ hw (lv_sub hl [3, 4, 5, 6, 1, 0] rfl) hf
      · replace hf := it_f h hf
        refine lv_iload hx hb dX11_goAll_32 (lv_at hl 0 rfl) ?_
        exact zreti E hw hr hlk (rt_a hf) (rt_b hf) dX11_goAll_34
    · replace hf := it_f (b2i_0 h) hf
      refine lv_iconst (v := (-1)) hx hb dX11_goAll_17 (by decide) ?_
      exact zreti E hw hr hlk (rt_a hf) (rt_b hf) dX11_goAll_18
