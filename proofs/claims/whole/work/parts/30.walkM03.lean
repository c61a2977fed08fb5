set_option maxRecDepth 100000 in
set_option maxHeartbeats 4000000 in
theorem c_X12_goes {l : Launch} {D : va_G} {cy : Cy} {ad : Nat → Nat} {A : Nat → Prop} (hA : okAd 17 ad A) (xq1 : Int32) (σ : Sg) {r : Int32} {σ9 : Sg} (hf : f_X12_goes xq1 σ = some (r, σ9)) : Met l yX12_goes (.code yX12_goes cX12_goes 4 (some .int) :: TT) ({ frames := 7, cells := 0, slots := 0, locals := 160 } : Room) (zPc D cy 17 (celM ad cy) ad A [.ref (ad 0), .int xq1] σ) (zQi D 17 (celM ad cy) ad A r σ9) 0 0 A := by
  refine zofW (by decide) hA (Nat.le_of_ble_eq_true rfl) ?_
  intro p e s m args below meth c ls E hw hr hlk hl
  have E : ZE p s m args c cX12_goes 4 "KiteSummonsModel" D cy 17 ad A := E
  have hx := E.hx
  have hb := E.hb
  have hl : lv_has ls 4 [(0, .ref (ad 0)), (1, .int xq1)] := hl
  have hB45 : ∀ (tq0 : Int32) (σ : Sg) (H : Heap) (locs : List Loc) (ls : Array Slot), ZS D 17 (celM ad cy) ad A s σ H locs → lv_has ls 4 [(0, .ref (ad 0))] → f_X12_goes_b45 tq0 σ = some (r, σ9) → W p l e ({ frames := 7, cells := 0, slots := 0, locals := 160 } : Room) s m args below meth c H locs 0 0 (MQ below (zQi D 17 (celM ad cy) ad A r σ9) args s 0 0 A) (F0 m 45 ls [.int tq0]) := by
    intro tq0 σ H locs ls hw hl hf
    unfold f_X12_goes_b45 at hf
    refine lv_istore_n (lv' := [(3, .int tq0), (0, .ref (ad 0))]) hx hb dX12_goes_45 rfl hl (by decide) rfl (fun ls hl => ?_)
    refine lv_aload_n hx hb dX12_goes_46 rfl (lv_at hl 1 rfl) ?_
    refine zget E hw (Nat.le_of_ble_eq_true rfl) (ceM_0 ad cy _) rfl inX12 0 (by decide) k5_223 (fun _ h => h) rfl dX12_goes_47 ?_
    refine lv_iconst (v := 4) hx hb dX12_goes_50 (by decide) ?_
    refine lv_dup2_11 hx hb dX12_goes_51 rfl rfl ?_
    refine zaldk E hw (Nat.le_of_ble_eq_true rfl) (ceM_1 ad cy) 4 (by rfl) (Nat.le_of_ble_eq_true rfl) (by decide) dX12_goes_52 ?_
    refine lv_iload_n hx hb dX12_goes_53 rfl (lv_at hl 0 rfl) ?_
    refine lv_iadd hx hb dX12_goes_54 ?_
    refine zastk E hw (Nat.le_of_ble_eq_true rfl) (ceM_1 ad cy) 4 (by rfl) (Nat.le_of_ble_eq_true rfl) (by decide) dX12_goes_55 (fun σ6 eσ6 H locs hw => ?_)
    replace hf := lt_i eσ6 hf
    refine lv_aload_n hx hb dX12_goes_56 rfl (lv_at hl 1 rfl) ?_
    refine zget E hw (Nat.le_of_ble_eq_true rfl) (ceM_0 ad cy _) rfl inX12 0 (by decide) k5_223 (fun _ h => h) rfl dX12_goes_57 ?_
    refine lv_iconst (v := 3) hx hb dX12_goes_60 (by decide) ?_
    refine lv_dup2_11 hx hb dX12_goes_61 rfl rfl ?_
    refine zaldk E hw (Nat.le_of_ble_eq_true rfl) (ceM_1 ad cy) 3 (by rfl) (Nat.le_of_ble_eq_true rfl) (by decide) dX12_goes_62 ?_
    refine lv_iconst (v := 1) hx hb dX12_goes_63 (by decide) ?_
    refine lv_iadd hx hb dX12_goes_64 ?_
    refine zastk E hw (Nat.le_of_ble_eq_true rfl) (ceM_1 ad cy) 3 (by rfl) (Nat.le_of_ble_eq_true rfl) (by decide) dX12_goes_65 (fun σ7 eσ7 H locs hw => ?_)
    replace hf := lt_i eσ7 hf
    refine lv_iload_n hx hb dX12_goes_66 rfl (lv_at hl 0 rfl) ?_
    exact zreti E hw hr hlk (rt_a hf) (rt_b hf) dX12_goes_67
  have hB17 : ∀ (tq0 : Int32) (σ : Sg) (H : Heap) (locs : List Loc) (ls : Array Slot), ZS D 17 (celM ad cy) ad A s σ H locs → lv_has ls 4 [(0, .ref (ad 0))] → f_X12_goes_b17 tq0 σ = some (r, σ9) → W p l e ({ frames := 7, cells := 0, slots := 0, locals := 160 } : Room) s m args below meth c H locs 0 0 (MQ below (zQi D 17 (celM ad cy) ad A r σ9) args s 0 0 A) (F0 m 17 ls [.int tq0]) := by
    intro tq0 σ H locs ls hw hl hf
    unfold f_X12_goes_b17 at hf
    refine lv_istore_n (lv' := [(2, .int tq0), (0, .ref (ad 0))]) hx hb dX12_goes_17 rfl hl (by decide) rfl (fun ls hl => ?_)
    refine lv_iload_n hx hb dX12_goes_18 rfl (lv_at hl 0 rfl) ?_
    refine lv_if_le (tgt := 44) hx hb dX12_goes_19 (by decide) (fun h => ?_) (fun h => ?_)
    · replace hf := it_t h hf
      refine lv_iconst (v := 0) hx hb dX12_goes_44 (by decide) ?_
      exact hB45 0 σ _ _ _ hw (lv_sub hl [1] rfl) hf
    · replace hf := it_f h hf
      refine lv_aload_n hx hb dX12_goes_22 rfl (lv_at hl 1 rfl) ?_
      refine lv_iload_n hx hb dX12_goes_23 rfl (lv_at hl 0 rfl) ?_
      refine lv_iconst (v := 1) hx hb dX12_goes_24 (by decide) ?_
      refine lv_isub hx hb dX12_goes_25 ?_
      refine lv_iconst (v := 4) hx hb dX12_goes_26 (by decide) ?_
      obtain ⟨vq3, hc, hf⟩ := bd_e hf
      refine zcali hw (va_runV (As := [.int (tq0 - 1), .int 4]) (rest := []) E.fix (c_X12_its (l := l) hA (tq0 - 1) 4 σ hc) (zcV E k6_145 k1_14 k6_142 k6_144 kp3_9 mf_X12_its rfl rfl ⟨Nat.le_of_ble_eq_true rfl, Nat.le_of_ble_eq_true rfl⟩) (zPreV E hw (Nat.le_of_ble_eq_true rfl) (ceM_0 ad cy _) rfl _) rfl rfl hl.1 rfl (lv_room (Nat.le_of_ble_eq_true rfl)) dX12_goes_27 ⟨Nat.zero_le _, Nat.zero_le _⟩) (fun H locs hw => ?_)
      refine lv_iconst (v := 1) hx hb dX12_goes_30 (by decide) ?_
      refine lv_icmp_ne (tgt := 44) hx hb dX12_goes_31 (by decide) (fun h => ?_) (fun h => ?_)
      · replace hf := it_t h hf
        refine lv_iconst (v := 0) hx hb dX12_goes_44 (by decide) ?_
        exact hB45 0 σ _ _ _ hw (lv_sub hl [1] rfl) hf
      · replace hf := it_n h hf
        refine lv_aload_n hx hb dX12_goes_34 rfl (lv_at hl 1 rfl) ?_
        refine lv_iload_n hx hb dX12_goes_35 rfl (lv_at hl 0 rfl) ?_
        refine lv_iconst (v := 1) hx hb dX12_goes_36 (by decide) ?_
        refine lv_isub hx hb dX12_goes_37 ?_
        obtain ⟨vq4, σ5, hc, hf⟩ := bd2_e hf
        refine zcali hw (va_runV (As := [.int (tq0 - 1)]) (rest := []) E.fix (c_X12_isTold (l := l) hA (tq0 - 1) σ hc) (zcV E k7_24 k1_14 k7_21 k7_23 kp4_7 mf_X12_isTold rfl rfl ⟨Nat.le_of_ble_eq_true rfl, Nat.le_of_ble_eq_true rfl⟩) (zPreV E hw (Nat.le_of_ble_eq_true rfl) (ceM_0 ad cy _) rfl _) rfl rfl hl.1 rfl (lv_room (Nat.le_of_ble_eq_true rfl)) dX12_goes_38 ⟨Nat.zero_le _, Nat.zero_le _⟩) (fun H locs hw => ?_)
        refine lv_goto (tgt := 45) hx hb dX12_goes_41 (by decide) ?_
        exact hB45 vq4 σ5 _ _ _ hw (lv_sub hl [1] rfl) hf
  unfold f_X12_goes at hf
  refine lv_aload_n hx hb dX12_goes_0 rfl (lv_at hl 0 rfl) ?_
  obtain ⟨σ1, hc, hf⟩ := bd_e hf
  refine zcalv hw (va_runV (As := []) (rest := []) E.fix (c_X12_blows (l := l) hA σ hc) (zcV E k7_6 k1_14 k7_3 k7_5 kp4_4 mf_X12_blows rfl rfl ⟨Nat.le_of_ble_eq_true rfl, Nat.le_of_ble_eq_true rfl⟩) (zPreV E hw (Nat.le_of_ble_eq_true rfl) (ceM_0 ad cy _) rfl _) rfl rfl hl.1 rfl (lv_room (Nat.le_of_ble_eq_true rfl)) dX12_goes_1 ⟨Nat.zero_le _, Nat.zero_le _⟩) (fun H locs hw => ?_)
  refine lv_iload_n hx hb dX12_goes_4 rfl (lv_at hl 1 rfl) ?_
  refine lv_iconst (v := (-1)) hx hb dX12_goes_5 (by decide) ?_
  refine lv_icmp_ne (tgt := 16) hx hb dX12_goes_6 (by decide) (fun h => ?_) (fun h => ?_)
  · replace hf := it_t h hf
    refine lv_iload_n hx hb dX12_goes_16 rfl (lv_at hl 1 rfl) ?_
    exact hB17 xq1 σ1 _ _ _ hw (lv_sub hl [0] rfl) hf
  · replace hf := it_n h hf
    refine lv_aload_n hx hb dX12_goes_9 rfl (lv_at hl 0 rfl) ?_
    obtain ⟨vq2, hc, hf⟩ := bd_e hf
    refine zcali hw (va_runV (As := []) (rest := []) E.fix (c_X12_chosen (l := l) hA σ1 hc) (zcV E k7_16 k1_14 k7_13 k7_15 kp4_5 mf_X12_chosen rfl rfl ⟨Nat.le_of_ble_eq_true rfl, Nat.le_of_ble_eq_true rfl⟩) (zPreV E hw (Nat.le_of_ble_eq_true rfl) (ceM_0 ad cy _) rfl _) rfl rfl hl.1 rfl (lv_room (Nat.le_of_ble_eq_true rfl)) dX12_goes_10 ⟨Nat.zero_le _, Nat.zero_le _⟩) (fun H locs hw => ?_)
    refine lv_goto (tgt := 17) hx hb dX12_goes_13 (by decide) ?_
    exact hB17 vq2 σ1 _ _ _ hw (lv_sub hl [0] rfl) hf
set_option maxRecDepth 100000 in
set_option maxHeartbeats 4000000 in
theorem c_X12_gust {l : Launch} {D : va_G} {cy : Cy} {ad : Nat → Nat} {A : Nat → Prop} (hA : okAd 17 ad A) (σ : Sg) {r : Int32} {σ9 : Sg} (hf : f_X12_gust σ = some (r, σ9)) : Met l yX12_gust (.code yX12_gust cX12_gust 1 (some .int) :: TT) ({ frames := 8, cells := 0, slots := 0, locals := 183 } : Room) (zPc D cy 17 (celM ad cy) ad A [.ref (ad 0)] σ) (zQi D 17 (celM ad cy) ad A r σ9) 0 0 A := by
  refine zofW (by decide) hA (Nat.le_of_ble_eq_true rfl) ?_
  intro p e s m args below meth c ls E hw hr hlk hl
  have E : ZE p s m args c cX12_gust 1 "KiteSummonsModel" D cy 17 ad A := E
  have hx := E.hx
  have hb := E.hb
  have hl : lv_has ls 1 [(0, .ref (ad 0))] := hl
  unfold f_X12_gust at hf
  refine lv_aload_n hx hb dX12_gust_0 rfl (lv_at hl 0 rfl) ?_
  refine zcali hw (va_runV (As := []) (rest := []) E.fix (c_X12_isOver (l := l) hA σ rfl) (zcV E k6_230 k1_14 k6_227 k6_229 kp4_1 mf_X12_isOver rfl rfl ⟨Nat.le_of_ble_eq_true rfl, Nat.le_of_ble_eq_true rfl⟩) (zPreV E hw (Nat.le_of_ble_eq_true rfl) (ceM_0 ad cy _) rfl _) rfl rfl hl.1 rfl (lv_room (Nat.le_of_ble_eq_true rfl)) dX12_gust_1 ⟨Nat.zero_le _, Nat.zero_le _⟩) (fun H locs hw => ?_)
  refine lv_if_eq (tgt := 12) hx hb dX12_gust_4 (by decide) (fun h => ?_) (fun h => ?_)
  · replace hf := it_f (b2i_0 h) hf
    refine lv_aload_n hx hb dX12_gust_12 rfl (lv_at hl 0 rfl) ?_
    refine lv_iconst (v := (-1)) hx hb dX12_gust_13 (by decide) ?_
    obtain ⟨vq1, σ2, hc, hf⟩ := bd2_e hf
    refine zcali hw (va_runV (As := [.int (-1)]) (rest := []) E.fix (c_X12_goes (l := l) hA (-1) σ hc) (zcV E k7_2 k1_14 k6_239 k7_1 kp4_3 mf_X12_goes rfl rfl ⟨Nat.le_of_ble_eq_true rfl, Nat.le_of_ble_eq_true rfl⟩) (zPreV E hw (Nat.le_of_ble_eq_true rfl) (ceM_0 ad cy _) rfl _) rfl rfl hl.1 rfl (lv_room (Nat.le_of_ble_eq_true rfl)) dX12_gust_14 ⟨Nat.zero_le _, Nat.zero_le _⟩) (fun H locs hw => ?_)
    exact zreti E hw hr hlk (rt_a hf) (rt_b hf) dX12_gust_17
  · replace hf := it_t (b2i_n h) hf
    refine lv_bipush (v := (-4)) hx hb dX12_gust_7 (by decide) ?_
    refine lv_goto (tgt := 17) hx hb dX12_gust_9 (by decide) ?_
    exact zreti E hw hr hlk (rt_a hf) (rt_b hf) dX12_gust_17
set_option maxRecDepth 100000 in
set_option maxHeartbeats 4000000 in
theorem c_X12_rest {l : Launch} {D : va_G} {cy : Cy} {ad : Nat → Nat} {A : Nat → Prop} (hA : okAd 17 ad A) (xq1 : Int32) (σ : Sg) {r : Int32} {σ9 : Sg} (hf : f_X12_rest xq1 σ = some (r, σ9)) : Met l yX12_rest (.code yX12_rest cX12_rest 4 (some .int) :: TT) ({ frames := 8, cells := 0, slots := 0, locals := 183 } : Room) (zPc D cy 17 (celM ad cy) ad A [.ref (ad 0), .int xq1] σ) (zQi D 17 (celM ad cy) ad A r σ9) 0 0 A := by
  refine zofW (by decide) hA (Nat.le_of_ble_eq_true rfl) ?_
  intro p e s m args below meth c ls E hw hr hlk hl
  have E : ZE p s m args c cX12_rest 4 "KiteSummonsModel" D cy 17 ad A := E
  have hx := E.hx
  have hb := E.hb
  have hl : lv_has ls 4 [(0, .ref (ad 0)), (1, .int xq1)] := hl
  have hB4 : ∀ (xq1 : Int32) (kq4 : Int32 → Int32 → Sg → Option (Int32 × Sg)) (hkq4 : ∀ (xq2 : Int32) (xq3 : Int32) (σ : Sg) (H : Heap) (locs : List Loc) (ls : Array Slot), ZS D 17 (celM ad cy) ad A s σ H locs → lv_has ls 4 [(0, .ref (ad 0)), (1, .int xq1), (2, .int xq2), (3, .int xq3)] → kq4 xq2 xq3 σ = some (r, σ9) → W p l e ({ frames := 8, cells := 0, slots := 0, locals := 183 } : Room) s m args below meth c H locs 0 0 (MQ below (zQi D 17 (celM ad cy) ad A r σ9) args s 0 0 A) (F0 m 4 ls [])) (xq2 : Int32) (xq3 : Int32) (σ : Sg) (H : Heap) (locs : List Loc) (ls : Array Slot), ZS D 17 (celM ad cy) ad A s σ H locs → lv_has ls 4 [(0, .ref (ad 0)), (1, .int xq1), (2, .int xq2), (3, .int xq3)] → f_X12_rest_b4 kq4 xq1 xq2 xq3 σ = some (r, σ9) → W p l e ({ frames := 8, cells := 0, slots := 0, locals := 183 } : Room) s m args below meth c H locs 0 0 (MQ below (zQi D 17 (celM ad cy) ad A r σ9) args s 0 0 A) (F0 m 4 ls []) := by
    intro xq1 kq4 hkq4 xq2 xq3 σ H locs ls hw hl hf
    unfold f_X12_rest_b4 at hf
    refine lv_iload_n hx hb dX12_rest_4 rfl (lv_at hl 3 rfl) ?_
    refine lv_iload_n hx hb dX12_rest_5 rfl (lv_at hl 1 rfl) ?_
    refine lv_icmp_ge (tgt := 30) hx hb dX12_rest_6 (by decide) (fun h => ?_) (fun h => ?_)
    · replace hf := it_t h hf
      refine lv_iload_n hx hb dX12_rest_30 rfl (lv_at hl 2 rfl) ?_
      exact zreti E hw hr hlk (rt_a hf) (rt_b hf) dX12_rest_31
    · replace hf := it_f h hf
      refine lv_aload_n hx hb dX12_rest_9 rfl (lv_at hl 0 rfl) ?_
      refine zcali hw (va_runV (As := []) (rest := []) E.fix (c_X12_isOver (l := l) hA σ rfl) (zcV E k6_230 k1_14 k6_227 k6_229 kp4_1 mf_X12_isOver rfl rfl ⟨Nat.le_of_ble_eq_true rfl, Nat.le_of_ble_eq_true rfl⟩) (zPreV E hw (Nat.le_of_ble_eq_true rfl) (ceM_0 ad cy _) rfl _) rfl rfl hl.1 rfl (lv_room (Nat.le_of_ble_eq_true rfl)) dX12_rest_10 ⟨Nat.zero_le _, Nat.zero_le _⟩) (fun H locs hw => ?_)
      refine lv_if_ne (tgt := 30) hx hb dX12_rest_13 (by decide) (fun h => ?_) (fun h => ?_)
      · replace hf := it_t (b2i_n h) hf
        refine lv_iload_n hx hb dX12_rest_30 rfl (lv_at hl 2 rfl) ?_
        exact zreti E hw hr hlk (rt_a hf) (rt_b hf) dX12_rest_31
      · replace hf := it_f (b2i_0 h) hf
        refine lv_iload_n hx hb dX12_rest_16 rfl (lv_at hl 2 rfl) ?_
        refine lv_aload_n hx hb dX12_rest_17 rfl (lv_at hl 0 rfl) ?_
        refine lv_iconst (v := (-1)) hx hb dX12_rest_18 (by decide) ?_
        obtain ⟨vq1, σ2, hc, hf⟩ := bd2_e hf
        refine zcali hw (va_runV (As := [.int (-1)]) (rest := [.int xq2]) E.fix (c_X12_goes (l := l) hA (-1) σ hc) (zcV E k7_2 k1_14 k6_239 k7_1 kp4_3 mf_X12_goes rfl rfl ⟨Nat.le_of_ble_eq_true rfl, Nat.le_of_ble_eq_true rfl⟩) (zPreV E hw (Nat.le_of_ble_eq_true rfl) (ceM_0 ad cy _) rfl _) rfl rfl hl.1 rfl (lv_room (Nat.le_of_ble_eq_true rfl)) dX12_rest_19 ⟨Nat.zero_le _, Nat.zero_le _⟩) (fun H locs hw => ?_)
        refine lv_iadd hx hb dX12_rest_22 ?_
        refine lv_topi (fun vq3 evq3 => ?_)
        replace hf := lt_i evq3 hf
        refine lv_istore_n (lv' := [(2, .int vq3), (0, .ref (ad 0)), (1, .int xq1), (3, .int xq3)]) hx hb dX12_rest_23 rfl hl (by decide) rfl (fun ls hl => ?_)
        refine lv_iinc (v := (xq3 + 1)) (lv' := [(3, .int (xq3 + 1)), (2, .int vq3), (0, .ref (ad 0)), (1, .int xq1)]) hx hb dX12_rest_24 hl (k := 3) rfl (by rfl) (by decide) rfl (fun ls hl => ?_)
        refine lv_goto (tgt := 4) hx hb dX12_rest_27 (by decide) ?_
        exact hkq4 vq3 (xq3 + 1) σ2 _ _ _ hw (lv_sub hl [2, 3, 1, 0] rfl) hf
  have hL4 : ∀ (xq1 : Int32) (n : Nat) (xq2 : Int32) (xq3 : Int32) (σ : Sg) (H : Heap) (locs : List Loc) (ls : Array Slot), ZS D 17 (celM ad cy) ad A s σ H locs → lv_has ls 4 [(0, .ref (ad 0)), (1, .int xq1), (2, .int xq2), (3, .int xq3)] → f_X12_rest_l4 xq1 n xq2 xq3 σ = some (r, σ9) → W p l e ({ frames := 8, cells := 0, slots := 0, locals := 183 } : Room) s m args below meth c H locs 0 0 (MQ below (zQi D 17 (celM ad cy) ad A r σ9) args s 0 0 A) (F0 m 4 ls []) := by
    intro xq1 n
    induction n with
    | zero =>
      intro xq2 xq3 σ H locs ls hw hl hf
      exact nn_e hf
    | succ n ih =>
      intro xq2 xq3 σ H locs ls hw hl hf
      exact hB4 xq1 (f_X12_rest_l4 xq1 n) ih xq2 xq3 σ H locs ls hw hl hf
  unfold f_X12_rest at hf
  refine lv_iconst (v := 0) hx hb dX12_rest_0 (by decide) ?_
  refine lv_istore_n (lv' := [(2, .int 0), (0, .ref (ad 0)), (1, .int xq1)]) hx hb dX12_rest_1 rfl hl (by decide) rfl (fun ls hl => ?_)
  refine lv_iconst (v := 0) hx hb dX12_rest_2 (by decide) ?_
  refine lv_istore_n (lv' := [(3, .int 0), (2, .int 0), (0, .ref (ad 0)), (1, .int xq1)]) hx hb dX12_rest_3 rfl hl (by decide) rfl (fun ls hl => ?_)
  exact hL4 xq1 400 0 0 σ _ _ _ hw (lv_sub hl [2, 3, 1, 0] rfl) hf
set_option maxRecDepth 100000 in
set_option maxHeartbeats 4000000 in
theorem c_X12_restTried {l : Launch} {D : va_G} {cy : Cy} {ad : Nat → Nat} {A : Nat → Prop} (hA : okAd 17 ad A) (xq1 : Int32) (σ : Sg) {r : Int32} {σ9 : Sg} (hf : f_X12_restTried xq1 σ = some (r, σ9)) : Met l yX12_restTried (.code yX12_restTried cX12_restTried 3 (some .int) :: TT) ({ frames := 9, cells := 0, slots := 0, locals := 206 } : Room) (zPc D cy 17 (celM ad cy) ad A [.ref (ad 0), .int xq1] σ) (zQi D 17 (celM ad cy) ad A r σ9) 0 0 A := by
  refine zofW (by decide) hA (Nat.le_of_ble_eq_true rfl) ?_
  intro p e s m args below meth c ls E hw hr hlk hl
  have E : ZE p s m args c cX12_restTried 3 "KiteSummonsModel" D cy 17 ad A := E
  have hx := E.hx
  have hb := E.hb
  have hl : lv_has ls 3 [(0, .ref (ad 0)), (1, .int xq1)] := hl
  unfold f_X12_restTried at hf
  refine lv_aload_n hx hb dX12_restTried_0 rfl (lv_at hl 0 rfl) ?_
  obtain ⟨σ1, hc, hf⟩ := bd_e hf
  refine zcalv hw (va_runV (As := []) (rest := []) E.fix (c_X12_puts (l := l) hA σ hc) (zcV E k7_36 k1_14 k7_33 k7_35 kp4_9 mf_X12_puts rfl rfl ⟨Nat.le_of_ble_eq_true rfl, Nat.le_of_ble_eq_true rfl⟩) (zPreV E hw (Nat.le_of_ble_eq_true rfl) (ceM_0 ad cy _) rfl _) rfl rfl hl.1 rfl (lv_room (Nat.le_of_ble_eq_true rfl)) dX12_restTried_1 ⟨Nat.zero_le _, Nat.zero_le _⟩) (fun H locs hw => ?_)
  refine lv_aload_n hx hb dX12_restTried_4 rfl (lv_at hl 0 rfl) ?_
  refine lv_iload_n hx hb dX12_restTried_5 rfl (lv_at hl 1 rfl) ?_
  obtain ⟨vq2, σ3, hc, hf⟩ := bd2_e hf
  refine zcali hw (va_runV (As := [.int xq1]) (rest := []) E.fix (c_X12_rest (l := l) hA xq1 σ1 hc) (zcV E k7_40 k1_14 k7_37 k7_39 kp4_10 mf_X12_rest rfl rfl ⟨Nat.le_of_ble_eq_true rfl, Nat.le_of_ble_eq_true rfl⟩) (zPreV E hw (Nat.le_of_ble_eq_true rfl) (ceM_0 ad cy _) rfl _) rfl rfl hl.1 rfl (lv_room (Nat.le_of_ble_eq_true rfl)) dX12_restTried_6 ⟨Nat.zero_le _, Nat.zero_le _⟩) (fun H locs hw => ?_)
  refine lv_istore_n (lv' := [(2, .int vq2), (0, .ref (ad 0)), (1, .int xq1)]) hx hb dX12_restTried_9 rfl hl (by decide) rfl (fun ls hl => ?_)
  refine lv_aload_n hx hb dX12_restTried_10 rfl (lv_at hl 1 rfl) ?_
  obtain ⟨σ4, hc, hf⟩ := bd_e hf
  refine zcalv hw (va_runV (As := []) (rest := []) E.fix (c_X12_putsBack (l := l) hA σ3 hc) (zcV E k7_44 k1_14 k7_41 k7_43 kp4_11 mf_X12_putsBack rfl rfl ⟨Nat.le_of_ble_eq_true rfl, Nat.le_of_ble_eq_true rfl⟩) (zPreV E hw (Nat.le_of_ble_eq_true rfl) (ceM_0 ad cy _) rfl _) rfl rfl hl.1 rfl (lv_room (Nat.le_of_ble_eq_true rfl)) dX12_restTried_11 ⟨Nat.zero_le _, Nat.zero_le _⟩) (fun H locs hw => ?_)
  refine lv_iload_n hx hb dX12_restTried_14 rfl (lv_at hl 0 rfl) ?_
  exact zreti E hw hr hlk (rt_a hf) (rt_b hf) dX12_restTried_15
set_option maxRecDepth 100000 in
set_option maxHeartbeats 4000000 in
theorem c_X12_on {l : Launch} {D : va_G} {cy : Cy} {ad : Nat → Nat} {A : Nat → Prop} (hA : okAd 17 ad A) (xq1 : Int32) (σ : Sg) {r : Int32} {σ9 : Sg} (hf : f_X12_on xq1 σ = some (r, σ9)) : Met l yX12_on (.code yX12_on cX12_on 2 (some .int) :: TT) ({ frames := 10, cells := 0, slots := 0, locals := 228 } : Room) (zPc D cy 17 (celM ad cy) ad A [.ref (ad 0), .int xq1] σ) (zQi D 17 (celM ad cy) ad A r σ9) 0 0 A := by
  refine zofW (by decide) hA (Nat.le_of_ble_eq_true rfl) ?_
  intro p e s m args below meth c ls E hw hr hlk hl
  have E : ZE p s m args c cX12_on 2 "KiteSummonsModel" D cy 17 ad A := E
  have hx := E.hx
  have hb := E.hb
  have hl : lv_has ls 2 [(0, .ref (ad 0)), (1, .int xq1)] := hl
  unfold f_X12_on at hf
  refine lv_iload_n hx hb dX12_on_0 rfl (lv_at hl 1 rfl) ?_
  refine lv_i2l hx hb dX12_on_1 rfl ?_
  refine lv_lconst (v := 0) hx hb dX12_on_2 (by decide) ?_
  refine lv_ldc2 (v := 16) hx hb E.hown (E.ht _ k6_218) dX12_on_3 ?_
  refine zcali hw (va_runS (As := [.long xq1.toInt64, .long (0 : Int64), .long (16 : Int64)]) (rest := []) E.fix (c_X12_in (l := l) hA xq1.toInt64 (0 : Int64) (16 : Int64) σ rfl) (zcS E k6_114 k1_14 k6_112 k6_113 mf_X12_in rfl rfl ⟨Nat.le_of_ble_eq_true rfl, Nat.le_of_ble_eq_true rfl⟩) (zPre E hw _) rfl rfl hl.1 rfl (lv_room (Nat.le_of_ble_eq_true rfl)) dX12_on_6 ⟨Nat.zero_le _, Nat.zero_le _⟩) (fun H locs hw => ?_)
  refine lv_if_eq (tgt := 20) hx hb dX12_on_9 (by decide) (fun h => ?_) (fun h => ?_)
  · replace hf := it_f (b2i_0 h) hf
    refine lv_iconst (v := (-1)) hx hb dX12_on_20 (by decide) ?_
    exact zreti E hw hr hlk (rt_a hf) (rt_b hf) dX12_on_21
  · replace hf := it_t (b2i_n h) hf
    refine lv_aload_n hx hb dX12_on_12 rfl (lv_at hl 0 rfl) ?_
    refine lv_iload_n hx hb dX12_on_13 rfl (lv_at hl 1 rfl) ?_
    obtain ⟨vq1, σ2, hc, hf⟩ := bd2_e hf
    refine zcali hw (va_runV (As := [.int xq1]) (rest := []) E.fix (c_X12_restTried (l := l) hA xq1 σ hc) (zcV E k7_32 k1_14 k7_29 k7_31 kp4_8 mf_X12_restTried rfl rfl ⟨Nat.le_of_ble_eq_true rfl, Nat.le_of_ble_eq_true rfl⟩) (zPreV E hw (Nat.le_of_ble_eq_true rfl) (ceM_0 ad cy _) rfl _) rfl rfl hl.1 rfl (lv_room (Nat.le_of_ble_eq_true rfl)) dX12_on_14 ⟨Nat.zero_le _, Nat.zero_le _⟩) (fun H locs hw => ?_)
    refine lv_goto (tgt := 21) hx hb dX12_on_17 (by decide) ?_
    exact zreti E hw hr hlk (rt_a hf) (rt_b hf) dX12_on_21
set_option maxRecDepth 100000 in
set_option maxHeartbeats 4000000 in
theorem c_X12_when {l : Launch} {D : va_G} {cy : Cy} {ad : Nat → Nat} {A : Nat → Prop} (hA : okAd 17 ad A) (xq1 : Int32) (σ : Sg) {r : Int32} {σ9 : Sg} (hf : f_X12_when xq1 σ = some (r, σ9)) : Met l yX12_when (.code yX12_when cX12_when 3 (some .int) :: TT) ({ frames := 8, cells := 0, slots := 0, locals := 183 } : Room) (zPc D cy 17 (celM ad cy) ad A [.ref (ad 0), .int xq1] σ) (zQi D 17 (celM ad cy) ad A r σ9) 0 0 A := by
  refine zofW (by decide) hA (Nat.le_of_ble_eq_true rfl) ?_
  intro p e s m args below meth c ls E hw hr hlk hl
  have E : ZE p s m args c cX12_when 3 "KiteSummonsModel" D cy 17 ad A := E
  have hx := E.hx
  have hb := E.hb
  have hl : lv_has ls 3 [(0, .ref (ad 0)), (1, .int xq1)] := hl
  have hB52 : ∀ (xq1 : Int32) (σ : Sg) (H : Heap) (locs : List Loc) (ls : Array Slot), ZS D 17 (celM ad cy) ad A s σ H locs → lv_has ls 3 [(0, .ref (ad 0)), (1, .int xq1)] → f_X12_when_b52 xq1 σ = some (r, σ9) → W p l e ({ frames := 8, cells := 0, slots := 0, locals := 183 } : Room) s m args below meth c H locs 0 0 (MQ below (zQi D 17 (celM ad cy) ad A r σ9) args s 0 0 A) (F0 m 52 ls []) := by
    intro xq1 σ H locs ls hw hl hf
    unfold f_X12_when_b52 at hf
    refine lv_aload_n hx hb dX12_when_52 rfl (lv_at hl 0 rfl) ?_
    refine lv_iload_n hx hb dX12_when_53 rfl (lv_at hl 1 rfl) ?_
    refine lv_iconst (v := 4) hx hb dX12_when_54 (by decide) ?_
    obtain ⟨vq6, hc, hf⟩ := bd_e hf
    refine zcali hw (va_runV (As := [.int xq1, .int 4]) (rest := []) E.fix (c_X12_its (l := l) hA xq1 4 σ hc) (zcV E k6_145 k1_14 k6_142 k6_144 kp3_9 mf_X12_its rfl rfl ⟨Nat.le_of_ble_eq_true rfl, Nat.le_of_ble_eq_true rfl⟩) (zPreV E hw (Nat.le_of_ble_eq_true rfl) (ceM_0 ad cy _) rfl _) rfl rfl hl.1 rfl (lv_room (Nat.le_of_ble_eq_true rfl)) dX12_when_55 ⟨Nat.zero_le _, Nat.zero_le _⟩) (fun H locs hw => ?_)
    refine lv_if_ne (tgt := 72) hx hb dX12_when_58 (by decide) (fun h => ?_) (fun h => ?_)
    · replace hf := it_t h hf
      refine lv_bipush (v := (-3)) hx hb dX12_when_72 (by decide) ?_
      refine lv_istore_n (lv' := [(2, .int (-3)), (0, .ref (ad 0)), (1, .int xq1)]) hx hb dX12_when_74 rfl hl (by decide) rfl (fun ls hl => ?_)
      refine lv_aload_n hx hb dX12_when_75 rfl (lv_at hl 1 rfl) ?_
      obtain ⟨σ7, hc, hf⟩ := bd_e hf
      refine zcalv hw (va_runV (As := []) (rest := []) E.fix (c_X12_putsBack (l := l) hA σ hc) (zcV E k7_44 k1_14 k7_41 k7_43 kp4_11 mf_X12_putsBack rfl rfl ⟨Nat.le_of_ble_eq_true rfl, Nat.le_of_ble_eq_true rfl⟩) (zPreV E hw (Nat.le_of_ble_eq_true rfl) (ceM_0 ad cy _) rfl _) rfl rfl hl.1 rfl (lv_room (Nat.le_of_ble_eq_true rfl)) dX12_when_76 ⟨Nat.zero_le _, Nat.zero_le _⟩) (fun H locs hw => ?_)
      refine lv_iload_n hx hb dX12_when_79 rfl (lv_at hl 0 rfl) ?_
      exact zreti E hw hr hlk (rt_a hf) (rt_b hf) dX12_when_80
    · replace hf := it_n h hf
      refine lv_aload_n hx hb dX12_when_61 rfl (lv_at hl 0 rfl) ?_
      refine zget E hw (Nat.le_of_ble_eq_true rfl) (ceM_0 ad cy _) rfl inX12 0 (by decide) k5_223 (fun _ h => h) rfl dX12_when_62 ?_
      refine lv_iconst (v := 3) hx hb dX12_when_65 (by decide) ?_
      refine zaldk E hw (Nat.le_of_ble_eq_true rfl) (ceM_1 ad cy) 3 (by rfl) (Nat.le_of_ble_eq_true rfl) (by decide) dX12_when_66 ?_
      refine lv_iconst (v := 1) hx hb dX12_when_67 (by decide) ?_
      refine lv_isub hx hb dX12_when_68 ?_
      refine lv_goto (tgt := 74) hx hb dX12_when_69 (by decide) ?_
      refine lv_topi (fun vq8 evq8 => ?_)
      replace hf := lt_i evq8 hf
      refine lv_istore_n (lv' := [(2, .int vq8), (0, .ref (ad 0)), (1, .int xq1)]) hx hb dX12_when_74 rfl hl (by decide) rfl (fun ls hl => ?_)
      refine lv_aload_n hx hb dX12_when_75 rfl (lv_at hl 1 rfl) ?_
      obtain ⟨σ9, hc, hf⟩ := bd_e hf
      refine zcalv hw (va_runV (As := []) (rest := []) E.fix (c_X12_putsBack (l := l) hA σ hc) (zcV E k7_44 k1_14 k7_41 k7_43 kp4_11 mf_X12_putsBack rfl rfl ⟨Nat.le_of_ble_eq_true rfl, Nat.le_of_ble_eq_true rfl⟩) (zPreV E hw (Nat.le_of_ble_eq_true rfl) (ceM_0 ad cy _) rfl _) rfl rfl hl.1 rfl (lv_room (Nat.le_of_ble_eq_true rfl)) dX12_when_76 ⟨Nat.zero_le _, Nat.zero_le _⟩) (fun H locs hw => ?_)
      refine lv_iload_n hx hb dX12_when_79 rfl (lv_at hl 0 rfl) ?_
      exact zreti E hw hr hlk (rt_a hf) (rt_b hf) dX12_when_80
  have hB26 : ∀ (xq1 : Int32) (kq26 : Sg → Option (Int32 × Sg)) (hkq26 : ∀ (σ : Sg) (H : Heap) (locs : List Loc) (ls : Array Slot), ZS D 17 (celM ad cy) ad A s σ H locs → lv_has ls 3 [(0, .ref (ad 0)), (1, .int xq1)] → kq26 σ = some (r, σ9) → W p l e ({ frames := 8, cells := 0, slots := 0, locals := 183 } : Room) s m args below meth c H locs 0 0 (MQ below (zQi D 17 (celM ad cy) ad A r σ9) args s 0 0 A) (F0 m 26 ls [])) (σ : Sg) (H : Heap) (locs : List Loc) (ls : Array Slot), ZS D 17 (celM ad cy) ad A s σ H locs → lv_has ls 3 [(0, .ref (ad 0)), (1, .int xq1)] → f_X12_when_b26 kq26 xq1 σ = some (r, σ9) → W p l e ({ frames := 8, cells := 0, slots := 0, locals := 183 } : Room) s m args below meth c H locs 0 0 (MQ below (zQi D 17 (celM ad cy) ad A r σ9) args s 0 0 A) (F0 m 26 ls []) := by
    intro xq1 kq26 hkq26 σ H locs ls hw hl hf
    unfold f_X12_when_b26 at hf
    refine lv_aload_n hx hb dX12_when_26 rfl (lv_at hl 0 rfl) ?_
    refine zcali hw (va_runV (As := []) (rest := []) E.fix (c_X12_isOver (l := l) hA σ rfl) (zcV E k6_230 k1_14 k6_227 k6_229 kp4_1 mf_X12_isOver rfl rfl ⟨Nat.le_of_ble_eq_true rfl, Nat.le_of_ble_eq_true rfl⟩) (zPreV E hw (Nat.le_of_ble_eq_true rfl) (ceM_0 ad cy _) rfl _) rfl rfl hl.1 rfl (lv_room (Nat.le_of_ble_eq_true rfl)) dX12_when_27 ⟨Nat.zero_le _, Nat.zero_le _⟩) (fun H locs hw => ?_)
    refine lv_if_ne (tgt := 52) hx hb dX12_when_30 (by decide) (fun h => ?_) (fun h => ?_)
    · replace hf := it_t (b2i_n h) hf
      exact hB52 xq1 σ _ _ _ hw (lv_sub hl [0, 1] rfl) hf
    · replace hf := it_f (b2i_0 h) hf
      refine lv_aload_n hx hb dX12_when_33 rfl (lv_at hl 0 rfl) ?_
      refine lv_iload_n hx hb dX12_when_34 rfl (lv_at hl 1 rfl) ?_
      refine lv_iconst (v := 4) hx hb dX12_when_35 (by decide) ?_
      obtain ⟨vq3, hc, hf⟩ := bd_e hf
      refine zcali hw (va_runV (As := [.int xq1, .int 4]) (rest := []) E.fix (c_X12_its (l := l) hA xq1 4 σ hc) (zcV E k6_145 k1_14 k6_142 k6_144 kp3_9 mf_X12_its rfl rfl ⟨Nat.le_of_ble_eq_true rfl, Nat.le_of_ble_eq_true rfl⟩) (zPreV E hw (Nat.le_of_ble_eq_true rfl) (ceM_0 ad cy _) rfl _) rfl rfl hl.1 rfl (lv_room (Nat.le_of_ble_eq_true rfl)) dX12_when_36 ⟨Nat.zero_le _, Nat.zero_le _⟩) (fun H locs hw => ?_)
      refine lv_iconst (v := 1) hx hb dX12_when_39 (by decide) ?_
      refine lv_icmp_ne (tgt := 52) hx hb dX12_when_40 (by decide) (fun h => ?_) (fun h => ?_)
      · replace hf := it_t h hf
        exact hB52 xq1 σ _ _ _ hw (lv_sub hl [0, 1] rfl) hf
      · replace hf := it_n h hf
        refine lv_aload_n hx hb dX12_when_43 rfl (lv_at hl 0 rfl) ?_
        refine lv_iconst (v := (-1)) hx hb dX12_when_44 (by decide) ?_
        obtain ⟨vq4, σ5, hc, hf⟩ := bd2_e hf
        refine zcali hw (va_runV (As := [.int (-1)]) (rest := []) E.fix (c_X12_goes (l := l) hA (-1) σ hc) (zcV E k7_2 k1_14 k6_239 k7_1 kp4_3 mf_X12_goes rfl rfl ⟨Nat.le_of_ble_eq_true rfl, Nat.le_of_ble_eq_true rfl⟩) (zPreV E hw (Nat.le_of_ble_eq_true rfl) (ceM_0 ad cy _) rfl _) rfl rfl hl.1 rfl (lv_room (Nat.le_of_ble_eq_true rfl)) dX12_when_45 ⟨Nat.zero_le _, Nat.zero_le _⟩) (fun H locs hw => ?_)
        refine lv_istore_n (lv' := [(2, .int vq4), (0, .ref (ad 0)), (1, .int xq1)]) hx hb dX12_when_48 rfl hl (by decide) rfl (fun ls hl => ?_)
        refine lv_goto (tgt := 26) hx hb dX12_when_49 (by decide) ?_
        exact hkq26 σ5 _ _ _ hw (lv_sub hl [1, 2] rfl) hf
  have hL26 : ∀ (xq1 : Int32) (n : Nat) (σ : Sg) (H : Heap) (locs : List Loc) (ls : Array Slot), ZS D 17 (celM ad cy) ad A s σ H locs → lv_has ls 3 [(0, .ref (ad 0)), (1, .int xq1)] → f_X12_when_l26 xq1 n σ = some (r, σ9) → W p l e ({ frames := 8, cells := 0, slots := 0, locals := 183 } : Room) s m args below meth c H locs 0 0 (MQ below (zQi D 17 (celM ad cy) ad A r σ9) args s 0 0 A) (F0 m 26 ls []) := by
    intro xq1 n
    induction n with
    | zero =>
      intro σ H locs ls hw hl hf
      exact nn_e hf
    | succ n ih =>
      intro σ H locs ls hw hl hf
      exact hB26 xq1 (f_X12_when_l26 xq1 n) ih σ H locs ls hw hl hf
  unfold f_X12_when at hf
  refine lv_aload_n hx hb dX12_when_0 rfl (lv_at hl 0 rfl) ?_
  refine lv_iload_n hx hb dX12_when_1 rfl (lv_at hl 1 rfl) ?_
  refine zcali hw (va_runV (As := [.int xq1]) (rest := []) E.fix (c_X12_isKite (l := l) hA xq1 σ rfl) (zcV E k6_137 k1_14 k6_134 k6_136 kp3_7 mf_X12_isKite rfl rfl ⟨Nat.le_of_ble_eq_true rfl, Nat.le_of_ble_eq_true rfl⟩) (zPreV E hw (Nat.le_of_ble_eq_true rfl) (ceM_0 ad cy _) rfl _) rfl rfl hl.1 rfl (lv_room (Nat.le_of_ble_eq_true rfl)) dX12_when_2 ⟨Nat.zero_le _, Nat.zero_le _⟩) (fun H locs hw => ?_)
  refine lv_if_ne (tgt := 10) hx hb dX12_when_5 (by decide) (fun h => ?_) (fun h => ?_)
  · replace hf := it_t (b2i_n h) hf
    refine lv_aload_n hx hb dX12_when_10 rfl (lv_at hl 0 rfl) ?_
    refine lv_iload_n hx hb dX12_when_11 rfl (lv_at hl 1 rfl) ?_
    refine lv_iconst (v := 4) hx hb dX12_when_12 (by decide) ?_
    obtain ⟨vq1, hc, hf⟩ := bd_e hf
    refine zcali hw (va_runV (As := [.int xq1, .int 4]) (rest := []) E.fix (c_X12_its (l := l) hA xq1 4 σ hc) (zcV E k6_145 k1_14 k6_142 k6_144 kp3_9 mf_X12_its rfl rfl ⟨Nat.le_of_ble_eq_true rfl, Nat.le_of_ble_eq_true rfl⟩) (zPreV E hw (Nat.le_of_ble_eq_true rfl) (ceM_0 ad cy _) rfl _) rfl rfl hl.1 rfl (lv_room (Nat.le_of_ble_eq_true rfl)) dX12_when_13 ⟨Nat.zero_le _, Nat.zero_le _⟩) (fun H locs hw => ?_)
    refine lv_if_ne (tgt := 22) hx hb dX12_when_16 (by decide) (fun h => ?_) (fun h => ?_)
    · replace hf := it_t h hf
      refine lv_aload_n hx hb dX12_when_22 rfl (lv_at hl 0 rfl) ?_
      obtain ⟨σ2, hc, hf⟩ := bd_e hf
      refine zcalv hw (va_runV (As := []) (rest := []) E.fix (c_X12_puts (l := l) hA σ hc) (zcV E k7_36 k1_14 k7_33 k7_35 kp4_9 mf_X12_puts rfl rfl ⟨Nat.le_of_ble_eq_true rfl, Nat.le_of_ble_eq_true rfl⟩) (zPreV E hw (Nat.le_of_ble_eq_true rfl) (ceM_0 ad cy _) rfl _) rfl rfl hl.1 rfl (lv_room (Nat.le_of_ble_eq_true rfl)) dX12_when_23 ⟨Nat.zero_le _, Nat.zero_le _⟩) (fun H locs hw => ?_)
      exact hL26 xq1 400 σ2 _ _ _ hw (lv_sub hl [0, 1] rfl) hf
    · replace hf := it_n h hf
      refine lv_bipush (v := (-3)) hx hb dX12_when_19 (by decide) ?_
      exact zreti E hw hr hlk (rt_a hf) (rt_b hf) dX12_when_21
  · replace hf := it_f (b2i_0 h) hf
    refine lv_iconst (v := (-1)) hx hb dX12_when_8 (by decide) ?_
    exact zreti E hw hr hlk (rt_a hf) (rt_b hf) dX12_when_9
set_option maxRecDepth 100000 in
set_option maxHeartbeats 4000000 in
theorem c_X12_mostFor {l : Launch} {D : va_G} {cy : Cy} {ad : Nat → Nat} {A : Nat → Prop} (hA : okAd 17 ad A) (xq1 : Int32) (xq2 : Int32) (σ : Sg) {r : Int32} {σ9 : Sg} (hf : f_X12_mostFor xq1 xq2 σ = some (r, σ9)) : Met l yX12_mostFor (.code yX12_mostFor cX12_mostFor 8 (some .int) :: TT) ({ frames := 10, cells := 0, slots := 0, locals := 228 } : Room) (zPc D cy 17 (celM ad cy) ad A [.ref (ad 0), .int xq1, .int xq2] σ) (zQi D 17 (celM ad cy) ad A r σ9) 0 0 A := by
  refine zofW (by decide) hA (Nat.le_of_ble_eq_true rfl) ?_
  intro p e s m args below meth c ls E hw hr hlk hl
  have E : ZE p s m args c cX12_mostFor 8 "KiteSummonsModel" D cy 17 ad A := E
  have hx := E.hx
  have hb := E.hb
  have hl : lv_has ls 8 [(0, .ref (ad 0)), (1, .int xq1), (2, .int xq2)] := hl
  have hB52 : ∀ (xq1 : Int32) (xq2 : Int32) (xq3 : Int32) (xq5 : Int32) (xq6 : Int32) (xq7 : Int32) (tq0 : Int32) (kq16 : Int32 → Int32 → Int32 → Sg → Option (Int32 × Sg)) (hkq16 : ∀ (xq4 : Int32) (xq5 : Int32) (xq6 : Int32) (σ : Sg) (H : Heap) (locs : List Loc) (ls : Array Slot), ZS D 17 (celM ad cy) ad A s σ H locs → lv_has ls 8 [(0, .ref (ad 0)), (1, .int xq1), (2, .int xq2), (3, .int xq3), (4, .int xq4), (5, .int xq5), (6, .int xq6)] → kq16 xq4 xq5 xq6 σ = some (r, σ9) → W p l e ({ frames := 10, cells := 0, slots := 0, locals := 228 } : Room) s m args below meth c H locs 0 0 (MQ below (zQi D 17 (celM ad cy) ad A r σ9) args s 0 0 A) (F0 m 16 ls [])) (σ : Sg) (H : Heap) (locs : List Loc) (ls : Array Slot), ZS D 17 (celM ad cy) ad A s σ H locs → lv_has ls 8 [(0, .ref (ad 0)), (1, .int xq1), (2, .int xq2), (3, .int xq3), (5, .int xq5), (6, .int xq6), (7, .int xq7)] → f_X12_mostFor_b52 kq16 xq1 xq2 xq3 xq5 xq6 xq7 tq0 σ = some (r, σ9) → W p l e ({ frames := 10, cells := 0, slots := 0, locals := 228 } : Room) s m args below meth c H locs 0 0 (MQ below (zQi D 17 (celM ad cy) ad A r σ9) args s 0 0 A) (F0 m 52 ls [.int tq0]) := by
    intro xq1 xq2 xq3 xq5 xq6 xq7 tq0 kq16 hkq16 σ H locs ls hw hl hf
    unfold f_X12_mostFor_b52 at hf
    refine lv_istore (lv' := [(4, .int tq0), (0, .ref (ad 0)), (1, .int xq1), (2, .int xq2), (3, .int xq3), (5, .int xq5), (6, .int xq6), (7, .int xq7)]) hx hb dX12_mostFor_52 hl (by decide) rfl (fun ls hl => ?_)
    refine lv_iload hx hb dX12_mostFor_54 (lv_at hl 7 rfl) ?_
    refine lv_iload hx hb dX12_mostFor_56 (lv_at hl 5 rfl) ?_
    refine lv_icmp_le (tgt := 66) hx hb dX12_mostFor_58 (by decide) (fun h => ?_) (fun h => ?_)
    · replace hf := it_t h hf
      refine lv_iload hx hb dX12_mostFor_66 (lv_at hl 5 rfl) ?_
      refine lv_istore (lv' := [(5, .int xq5), (4, .int tq0), (0, .ref (ad 0)), (1, .int xq1), (2, .int xq2), (3, .int xq3), (6, .int xq6), (7, .int xq7)]) hx hb dX12_mostFor_68 hl (by decide) rfl (fun ls hl => ?_)
      refine lv_iinc (v := (xq6 + 1)) (lv' := [(6, .int (xq6 + 1)), (5, .int xq5), (4, .int tq0), (0, .ref (ad 0)), (1, .int xq1), (2, .int xq2), (3, .int xq3), (7, .int xq7)]) hx hb dX12_mostFor_70 hl (k := 6) rfl (by rfl) (by decide) rfl (fun ls hl => ?_)
      refine lv_goto (tgt := 16) hx hb dX12_mostFor_73 (by decide) ?_
      exact hkq16 tq0 xq5 (xq6 + 1) σ _ _ _ hw (lv_sub hl [3, 4, 5, 6, 2, 1, 0] rfl) hf
    · replace hf := it_f h hf
      refine lv_iload hx hb dX12_mostFor_61 (lv_at hl 7 rfl) ?_
      refine lv_goto (tgt := 68) hx hb dX12_mostFor_63 (by decide) ?_
      refine lv_istore (lv' := [(5, .int xq7), (4, .int tq0), (0, .ref (ad 0)), (1, .int xq1), (2, .int xq2), (3, .int xq3), (6, .int xq6), (7, .int xq7)]) hx hb dX12_mostFor_68 hl (by decide) rfl (fun ls hl => ?_)
      refine lv_iinc (v := (xq6 + 1)) (lv' := [(6, .int (xq6 + 1)), (5, .int xq7), (4, .int tq0), (0, .ref (ad 0)), (1, .int xq1), (2, .int xq2), (3, .int xq3), (7, .int xq7)]) hx hb dX12_mostFor_70 hl (k := 6) rfl (by rfl) (by decide) rfl (fun ls hl => ?_)
      refine lv_goto (tgt := 16) hx hb dX12_mostFor_73 (by decide) ?_
      exact hkq16 tq0 xq7 (xq6 + 1) σ _ _ _ hw (lv_sub hl [3, 4, 5, 6, 2, 1, 0] rfl) hf
  have hB16 : ∀ (xq1 : Int32) (xq2 : Int32) (xq3 : Int32) (kq16 : Int32 → Int32 → Int32 → Sg → Option (Int32 × Sg)) (hkq16 : ∀ (xq4 : Int32) (xq5 : Int32) (xq6 : Int32) (σ : Sg) (H : Heap) (locs : List Loc) (ls : Array Slot), ZS D 17 (celM ad cy) ad A s σ H locs → lv_has ls 8 [(0, .ref (ad 0)), (1, .int xq1), (2, .int xq2), (3, .int xq3), (4, .int xq4), (5, .int xq5), (6, .int xq6)] → kq16 xq4 xq5 xq6 σ = some (r, σ9) → W p l e ({ frames := 10, cells := 0, slots := 0, locals := 228 } : Room) s m args below meth c H locs 0 0 (MQ below (zQi D 17 (celM ad cy) ad A r σ9) args s 0 0 A) (F0 m 16 ls [])) (xq4 : Int32) (xq5 : Int32) (xq6 : Int32) (σ : Sg) (H : Heap) (locs : List Loc) (ls : Array Slot), ZS D 17 (celM ad cy) ad A s σ H locs → lv_has ls 8 [(0, .ref (ad 0)), (1, .int xq1), (2, .int xq2), (3, .int xq3), (4, .int xq4), (5, .int xq5), (6, .int xq6)] → f_X12_mostFor_b16 kq16 xq1 xq2 xq3 xq4 xq5 xq6 σ = some (r, σ9) → W p l e ({ frames := 10, cells := 0, slots := 0, locals := 228 } : Room) s m args below meth c H locs 0 0 (MQ below (zQi D 17 (celM ad cy) ad A r σ9) args s 0 0 A) (F0 m 16 ls []) := by
    intro xq1 xq2 xq3 kq16 hkq16 xq4 xq5 xq6 σ H locs ls hw hl hf
    unfold f_X12_mostFor_b16 at hf
    refine lv_iload hx hb dX12_mostFor_16 (lv_at hl 6 rfl) ?_
    refine lv_iload_n hx hb dX12_mostFor_18 rfl (lv_at hl 2 rfl) ?_
    refine lv_icmp_gt (tgt := 76) hx hb dX12_mostFor_19 (by decide) (fun h => ?_) (fun h => ?_)
    · replace hf := it_t h hf
      refine lv_aload_n hx hb dX12_mostFor_76 rfl (lv_at hl 0 rfl) ?_
      refine zget E hw (Nat.le_of_ble_eq_true rfl) (ceM_0 ad cy _) rfl inX12 0 (by decide) k5_223 (fun _ h => h) rfl dX12_mostFor_77 ?_
      refine lv_iload_n hx hb dX12_mostFor_80 rfl (lv_at hl 1 rfl) ?_
      refine lv_iload_n hx hb dX12_mostFor_81 rfl (lv_at hl 3 rfl) ?_
      obtain ⟨σ2, hσ2, hf⟩ := bd_e hf
      refine zastr E hw (Nat.le_of_ble_eq_true rfl) (ceM_1 ad cy) hσ2 dX12_mostFor_82 (fun H locs hw => ?_)
      refine lv_iload hx hb dX12_mostFor_83 (lv_at hl 4 rfl) ?_
      exact zreti E hw hr hlk (rt_a hf) (rt_b hf) dX12_mostFor_85
    · replace hf := it_f h hf
      refine lv_aload_n hx hb dX12_mostFor_22 rfl (lv_at hl 0 rfl) ?_
      refine zget E hw (Nat.le_of_ble_eq_true rfl) (ceM_0 ad cy _) rfl inX12 0 (by decide) k5_223 (fun _ h => h) rfl dX12_mostFor_23 ?_
      refine lv_iload_n hx hb dX12_mostFor_26 rfl (lv_at hl 1 rfl) ?_
      refine lv_iload hx hb dX12_mostFor_27 (lv_at hl 6 rfl) ?_
      obtain ⟨σ3, hσ3, hf⟩ := bd_e hf
      refine zastr E hw (Nat.le_of_ble_eq_true rfl) (ceM_1 ad cy) hσ3 dX12_mostFor_29 (fun H locs hw => ?_)
      refine lv_aload_n hx hb dX12_mostFor_30 rfl (lv_at hl 0 rfl) ?_
      refine lv_bipush (v := 16) hx hb dX12_mostFor_31 (by decide) ?_
      obtain ⟨vq4, σ5, hc, hf⟩ := bd2_e hf
      refine zcali hw (va_runV (As := [.int 16]) (rest := []) E.fix (c_X12_restTried (l := l) hA 16 σ3 hc) (zcV E k7_32 k1_14 k7_29 k7_31 kp4_8 mf_X12_restTried rfl rfl ⟨Nat.le_of_ble_eq_true rfl, Nat.le_of_ble_eq_true rfl⟩) (zPreV E hw (Nat.le_of_ble_eq_true rfl) (ceM_0 ad cy _) rfl _) rfl rfl hl.1 rfl (lv_room (Nat.le_of_ble_eq_true rfl)) dX12_mostFor_33 ⟨Nat.zero_le _, Nat.zero_le _⟩) (fun H locs hw => ?_)
      refine lv_istore (lv' := [(7, .int vq4), (0, .ref (ad 0)), (1, .int xq1), (2, .int xq2), (3, .int xq3), (4, .int xq4), (5, .int xq5), (6, .int xq6)]) hx hb dX12_mostFor_36 hl (by decide) rfl (fun ls hl => ?_)
      refine lv_iload hx hb dX12_mostFor_38 (lv_at hl 0 rfl) ?_
      refine lv_iload hx hb dX12_mostFor_40 (lv_at hl 6 rfl) ?_
      refine lv_icmp_le (tgt := 50) hx hb dX12_mostFor_42 (by decide) (fun h => ?_) (fun h => ?_)
      · replace hf := it_t h hf
        refine lv_iload hx hb dX12_mostFor_50 (lv_at hl 5 rfl) ?_
        exact hB52 xq1 xq2 xq3 xq5 xq6 vq4 xq4 kq16 hkq16 σ5 _ _ _ hw (lv_sub hl [1, 2, 3, 4, 6, 7, 0] rfl) hf
      · replace hf := it_f h hf
        refine lv_iload hx hb dX12_mostFor_45 (lv_at hl 7 rfl) ?_
        refine lv_goto (tgt := 52) hx hb dX12_mostFor_47 (by decide) ?_
        exact hB52 xq1 xq2 xq3 xq5 xq6 vq4 xq6 kq16 hkq16 σ5 _ _ _ hw (lv_sub hl [1, 2, 3, 4, 6, 7, 0] rfl) hf
  have hL16 : ∀ (xq1 : Int32) (xq2 : Int32) (xq3 : Int32) (n : Nat) (xq4 : Int32) (xq5 : Int32) (xq6 : Int32) (σ : Sg) (H : Heap) (locs : List Loc) (ls : Array Slot), ZS D 17 (celM ad cy) ad A s σ H locs → lv_has ls 8 [(0, .ref (ad 0)), (1, .int xq1), (2, .int xq2), (3, .int xq3), (4, .int xq4), (5, .int xq5), (6, .int xq6)] → f_X12_mostFor_l16 xq1 xq2 xq3 n xq4 xq5 xq6 σ = some (r, σ9) → W p l e ({ frames := 10, cells := 0, slots := 0, locals := 228 } : Room) s m args below meth c H locs 0 0 (MQ below (zQi D 17 (celM ad cy) ad A r σ9) args s 0 0 A) (F0 m 16 ls []) := by
    intro xq1 xq2 xq3 n
    induction n with
    | zero =>
      intro xq4 xq5 xq6 σ H locs ls hw hl hf
      exact nn_e hf
    | succ n ih =>
      intro xq4 xq5 xq6 σ H locs ls hw hl hf
      exact hB16 xq1 xq2 xq3 (f_X12_mostFor_l16 xq1 xq2 xq3 n) ih xq4 xq5 xq6 σ H locs ls hw hl hf
  unfold f_X12_mostFor at hf
  refine lv_aload_n hx hb dX12_mostFor_0 rfl (lv_at hl 0 rfl) ?_
  refine zget E hw (Nat.le_of_ble_eq_true rfl) (ceM_0 ad cy _) rfl inX12 0 (by decide) k5_223 (fun _ h => h) rfl dX12_mostFor_1 ?_
  refine lv_iload_n hx hb dX12_mostFor_4 rfl (lv_at hl 1 rfl) ?_
  obtain ⟨vq1, hvq1, hf⟩ := bd_e hf
  refine zaldr E hw (Nat.le_of_ble_eq_true rfl) (ceM_1 ad cy) hvq1 dX12_mostFor_5 ?_
  refine lv_istore_n (lv' := [(3, .int vq1), (0, .ref (ad 0)), (1, .int xq1), (2, .int xq2)]) hx hb dX12_mostFor_6 rfl hl (by decide) rfl (fun ls hl => ?_)
  refine lv_iconst (v := 0) hx hb dX12_mostFor_7 (by decide) ?_
  refine lv_istore (lv' := [(4, .int 0), (3, .int vq1), (0, .ref (ad 0)), (1, .int xq1), (2, .int xq2)]) hx hb dX12_mostFor_8 hl (by decide) rfl (fun ls hl => ?_)
  refine lv_iconst (v := (-1)) hx hb dX12_mostFor_10 (by decide) ?_
  refine lv_istore (lv' := [(5, .int (-1)), (4, .int 0), (3, .int vq1), (0, .ref (ad 0)), (1, .int xq1), (2, .int xq2)]) hx hb dX12_mostFor_11 hl (by decide) rfl (fun ls hl => ?_)
  refine lv_iconst (v := 0) hx hb dX12_mostFor_13 (by decide) ?_
  refine lv_istore (lv' := [(6, .int 0), (5, .int (-1)), (4, .int 0), (3, .int vq1), (0, .ref (ad 0)), (1, .int xq1), (2, .int xq2)]) hx hb dX12_mostFor_14 hl (by decide) rfl (fun ls hl => ?_)
  exact hL16 xq1 xq2 vq1 400 0 (-1) 0 σ _ _ _ hw (lv_sub hl [4, 5, 6, 3, 2, 1, 0] rfl) hf
set_option maxRecDepth 100000 in
set_option maxHeartbeats 4000000 in
theorem c_X12_stringFor {l : Launch} {D : va_G} {cy : Cy} {ad : Nat → Nat} {A : Nat → Prop} (hA : okAd 17 ad A) (xq1 : Int32) (σ : Sg) {r : Int32} {σ9 : Sg} (hf : f_X12_stringFor xq1 σ = some (r, σ9)) : Met l yX12_stringFor (.code yX12_stringFor cX12_stringFor 2 (some .int) :: TT) ({ frames := 11, cells := 0, slots := 0, locals := 255 } : Room) (zPc D cy 17 (celM ad cy) ad A [.ref (ad 0), .int xq1] σ) (zQi D 17 (celM ad cy) ad A r σ9) 0 0 A := by
  refine zofW (by decide) hA (Nat.le_of_ble_eq_true rfl) ?_
  intro p e s m args below meth c ls E hw hr hlk hl
  have E : ZE p s m args c cX12_stringFor 2 "KiteSummonsModel" D cy 17 ad A := E
  have hx := E.hx
  have hb := E.hb
  have hl : lv_has ls 2 [(0, .ref (ad 0)), (1, .int xq1)] := hl
  unfold f_X12_stringFor at hf
  refine lv_aload_n hx hb dX12_stringFor_0 rfl (lv_at hl 0 rfl) ?_
  refine lv_iload_n hx hb dX12_stringFor_1 rfl (lv_at hl 1 rfl) ?_
  refine zcali hw (va_runV (As := [.int xq1]) (rest := []) E.fix (c_X12_isKite (l := l) hA xq1 σ rfl) (zcV E k6_137 k1_14 k6_134 k6_136 kp3_7 mf_X12_isKite rfl rfl ⟨Nat.le_of_ble_eq_true rfl, Nat.le_of_ble_eq_true rfl⟩) (zPreV E hw (Nat.le_of_ble_eq_true rfl) (ceM_0 ad cy _) rfl _) rfl rfl hl.1 rfl (lv_room (Nat.le_of_ble_eq_true rfl)) dX12_stringFor_2 ⟨Nat.zero_le _, Nat.zero_le _⟩) (fun H locs hw => ?_)
  refine lv_if_eq (tgt := 22) hx hb dX12_stringFor_5 (by decide) (fun h => ?_) (fun h => ?_)
  · replace hf := it_f (b2i_0 h) hf
    refine lv_iconst (v := (-1)) hx hb dX12_stringFor_22 (by decide) ?_
    exact zreti E hw hr hlk (rt_a hf) (rt_b hf) dX12_stringFor_23
  · replace hf := it_t (b2i_n h) hf
    refine lv_aload_n hx hb dX12_stringFor_8 rfl (lv_at hl 0 rfl) ?_
    refine lv_iload_n hx hb dX12_stringFor_9 rfl (lv_at hl 1 rfl) ?_
    refine lv_iconst (v := 2) hx hb dX12_stringFor_10 (by decide) ?_
    refine zcali hw (va_runS (As := [.int xq1, .int 2]) (rest := [.ref (ad 0)]) E.fix (c_X12_at (l := l) hA xq1 2 σ rfl) (zcS E k6_129 k1_14 k6_127 k6_128 mf_X12_at rfl rfl ⟨Nat.le_of_ble_eq_true rfl, Nat.le_of_ble_eq_true rfl⟩) (zPre E hw _) rfl rfl hl.1 rfl (lv_room (Nat.le_of_ble_eq_true rfl)) dX12_stringFor_11 ⟨Nat.zero_le _, Nat.zero_le _⟩) (fun H locs hw => ?_)
    refine lv_bipush (v := 9) hx hb dX12_stringFor_14 (by decide) ?_
    obtain ⟨vq1, σ2, hc, hf⟩ := bd2_e hf
    refine zcali hw (va_runV (As := [.int (f_X12_at xq1 2 σ), .int 9]) (rest := []) E.fix (c_X12_mostFor (l := l) hA (f_X12_at xq1 2 σ) 9 σ hc) (zcV E k7_56 k1_14 k7_53 k7_55 kp4_12 mf_X12_mostFor rfl rfl ⟨Nat.le_of_ble_eq_true rfl, Nat.le_of_ble_eq_true rfl⟩) (zPreV E hw (Nat.le_of_ble_eq_true rfl) (ceM_0 ad cy _) rfl _) rfl rfl hl.1 rfl (lv_room (Nat.le_of_ble_eq_true rfl)) dX12_stringFor_16 ⟨Nat.zero_le _, Nat.zero_le _⟩) (fun H locs hw => ?_)
    refine lv_goto (tgt := 23) hx hb dX12_stringFor_19 (by decide) ?_
    exact zreti E hw hr hlk (rt_a hf) (rt_b hf) dX12_stringFor_23
set_option maxRecDepth 100000 in
set_option maxHeartbeats 4000000 in
theorem c_X12_nameFor {l : Launch} {D : va_G} {cy : Cy} {ad : Nat → Nat} {A : Nat → Prop} (hA : okAd 17 ad A) (xq1 : Int32) (σ : Sg) {r : Int32} {σ9 : Sg} (hf : f_X12_nameFor xq1 σ = some (r, σ9)) : Met l yX12_nameFor (.code yX12_nameFor cX12_nameFor 2 (some .int) :: TT) ({ frames := 11, cells := 0, slots := 0, locals := 255 } : Room) (zPc D cy 17 (celM ad cy) ad A [.ref (ad 0), .int xq1] σ) (zQi D 17 (celM ad cy) ad A r σ9) 0 0 A := by
  refine zofW (by decide) hA (Nat.le_of_ble_eq_true rfl) ?_
  intro p e s m args below meth c ls E hw hr hlk hl
  have E : ZE p s m args c cX12_nameFor 2 "KiteSummonsModel" D cy 17 ad A := E
  have hx := E.hx
  have hb := E.hb
  have hl : lv_has ls 2 [(0, .ref (ad 0)), (1, .int xq1)] := hl
  unfold f_X12_nameFor at hf
  refine lv_aload_n hx hb dX12_nameFor_0 rfl (lv_at hl 0 rfl) ?_
  refine lv_iload_n hx hb dX12_nameFor_1 rfl (lv_at hl 1 rfl) ?_
  refine zcali hw (va_runV (As := [.int xq1]) (rest := []) E.fix (c_X12_isKite (l := l) hA xq1 σ rfl) (zcV E k6_137 k1_14 k6_134 k6_136 kp3_7 mf_X12_isKite rfl rfl ⟨Nat.le_of_ble_eq_true rfl, Nat.le_of_ble_eq_true rfl⟩) (zPreV E hw (Nat.le_of_ble_eq_true rfl) (ceM_0 ad cy _) rfl _) rfl rfl hl.1 rfl (lv_room (Nat.le_of_ble_eq_true rfl)) dX12_nameFor_2 ⟨Nat.zero_le _, Nat.zero_le _⟩) (fun H locs hw => ?_)
  refine lv_if_eq (tgt := 21) hx hb dX12_nameFor_5 (by decide) (fun h => ?_) (fun h => ?_)
  · replace hf := it_f (b2i_0 h) hf
    refine lv_iconst (v := (-1)) hx hb dX12_nameFor_21 (by decide) ?_
    exact zreti E hw hr hlk (rt_a hf) (rt_b hf) dX12_nameFor_22
  · replace hf := it_t (b2i_n h) hf
    refine lv_aload_n hx hb dX12_nameFor_8 rfl (lv_at hl 0 rfl) ?_
    refine lv_iload_n hx hb dX12_nameFor_9 rfl (lv_at hl 1 rfl) ?_
    refine lv_iconst (v := 3) hx hb dX12_nameFor_10 (by decide) ?_
    refine zcali hw (va_runS (As := [.int xq1, .int 3]) (rest := [.ref (ad 0)]) E.fix (c_X12_at (l := l) hA xq1 3 σ rfl) (zcS E k6_129 k1_14 k6_127 k6_128 mf_X12_at rfl rfl ⟨Nat.le_of_ble_eq_true rfl, Nat.le_of_ble_eq_true rfl⟩) (zPre E hw _) rfl rfl hl.1 rfl (lv_room (Nat.le_of_ble_eq_true rfl)) dX12_nameFor_11 ⟨Nat.zero_le _, Nat.zero_le _⟩) (fun H locs hw => ?_)
    refine lv_iconst (v := 5) hx hb dX12_nameFor_14 (by decide) ?_
    obtain ⟨vq1, σ2, hc, hf⟩ := bd2_e hf
    refine zcali hw (va_runV (As := [.int (f_X12_at xq1 3 σ), .int 5]) (rest := []) E.fix (c_X12_mostFor (l := l) hA (f_X12_at xq1 3 σ) 5 σ hc) (zcV E k7_56 k1_14 k7_53 k7_55 kp4_12 mf_X12_mostFor rfl rfl ⟨Nat.le_of_ble_eq_true rfl, Nat.le_of_ble_eq_true rfl⟩) (zPreV E hw (Nat.le_of_ble_eq_true rfl) (ceM_0 ad cy _) rfl _) rfl rfl hl.1 rfl (lv_room (Nat.le_of_ble_eq_true rfl)) dX12_nameFor_15 ⟨Nat.zero_le _, Nat.zero_le _⟩) (fun H locs hw => ?_)
    refine lv_goto (tgt := 22) hx hb dX12_nameFor_18 (by decide) ?_
    exact zreti E hw hr hlk (rt_a hf) (rt_b hf) dX12_nameFor_22
set_option maxRecDepth 100000 in
set_option maxHeartbeats 4000000 in
theorem c_X12_over {l : Launch} {D : va_G} {cy : Cy} {ad : Nat → Nat} {A : Nat → Prop} (hA : okAd 17 ad A) (xq1 : Int32) (σ : Sg) {r : Int32} {σ9 : Sg} (hf : f_X12_over xq1 σ = some (r, σ9)) : Met l yX12_over (.code yX12_over cX12_over 4 (some .int) :: TT) ({ frames := 4, cells := 0, slots := 0, locals := 88 } : Room) (zPc D cy 17 (celM ad cy) ad A [.ref (ad 0), .int xq1] σ) (zQi D 17 (celM ad cy) ad A r σ9) 0 0 A := by
  refine zofW (by decide) hA (Nat.le_of_ble_eq_true rfl) ?_
  intro p e s m args below meth c ls E hw hr hlk hl
  have E : ZE p s m args c cX12_over 4 "KiteSummonsModel" D cy 17 ad A := E
  have hx := E.hx
  have hb := E.hb
  have hl : lv_has ls 4 [(0, .ref (ad 0)), (1, .int xq1)] := hl
  have hB35 : ∀ (xq1 : Int32) (kq16 : Int32 → Sg → Option (Int32 × Sg)) (hkq16 : ∀ (xq2 : Int32) (σ : Sg) (H : Heap) (locs : List Loc) (ls : Array Slot), ZS D 17 (celM ad cy) ad A s σ H locs → lv_has ls 4 [(0, .ref (ad 0)), (1, .int xq1), (2, .int xq2)] → kq16 xq2 σ = some (r, σ9) → W p l e ({ frames := 4, cells := 0, slots := 0, locals := 88 } : Room) s m args below meth c H locs 0 0 (MQ below (zQi D 17 (celM ad cy) ad A r σ9) args s 0 0 A) (F0 m 16 ls [])) (kq35 : Int32 → Int32 → Sg → Option (Int32 × Sg)) (hkq35 : ∀ (xq2 : Int32) (xq3 : Int32) (σ : Sg) (H : Heap) (locs : List Loc) (ls : Array Slot), ZS D 17 (celM ad cy) ad A s σ H locs → lv_has ls 4 [(0, .ref (ad 0)), (1, .int xq1), (2, .int xq2), (3, .int xq3)] → kq35 xq2 xq3 σ = some (r, σ9) → W p l e ({ frames := 4, cells := 0, slots := 0, locals := 88 } : Room) s m args below meth c H locs 0 0 (MQ below (zQi D 17 (celM ad cy) ad A r σ9) args s 0 0 A) (F0 m 35 ls [])) (xq2 : Int32) (xq3 : Int32) (σ : Sg) (H : Heap) (locs : List Loc) (ls : Array Slot), ZS D 17 (celM ad cy) ad A s σ H locs → lv_has ls 4 [(0, .ref (ad 0)), (1, .int xq1), (2, .int xq2), (3, .int xq3)] → f_X12_over_b35 kq16 kq35 xq1 xq2 xq3 σ = some (r, σ9) → W p l e ({ frames := 4, cells := 0, slots := 0, locals := 88 } : Room) s m args below meth c H locs 0 0 (MQ below (zQi D 17 (celM ad cy) ad A r σ9) args s 0 0 A) (F0 m 35 ls []) := by
    intro xq1 kq16 hkq16 kq35 hkq35 xq2 xq3 σ H locs ls hw hl hf
    unfold f_X12_over_b35 at hf
    refine lv_iload_n hx hb dX12_over_35 rfl (lv_at hl 3 rfl) ?_
    refine lv_aload_n hx hb dX12_over_36 rfl (lv_at hl 0 rfl) ?_
    refine zget E hw (Nat.le_of_ble_eq_true rfl) (ceM_0 ad cy _) rfl inX12 0 (by decide) k5_223 (fun _ h => h) rfl dX12_over_37 ?_
    refine lv_iconst (v := 0) hx hb dX12_over_40 (by decide) ?_
    refine zaldk E hw (Nat.le_of_ble_eq_true rfl) (ceM_1 ad cy) 0 (by rfl) (Nat.le_of_ble_eq_true rfl) (by decide) dX12_over_41 ?_
    refine lv_icmp_ge (tgt := 82) hx hb dX12_over_42 (by decide) (fun h => ?_) (fun h => ?_)
    · replace hf := it_t h hf
      refine lv_aload_n hx hb dX12_over_82 rfl (lv_at hl 0 rfl) ?_
      refine zget E hw (Nat.le_of_ble_eq_true rfl) (ceM_0 ad cy _) rfl inX12 0 (by decide) k5_223 (fun _ h => h) rfl dX12_over_83 ?_
      refine lv_iconst (v := 3) hx hb dX12_over_86 (by decide) ?_
      refine lv_dup2_11 hx hb dX12_over_87 rfl rfl ?_
      refine zaldk E hw (Nat.le_of_ble_eq_true rfl) (ceM_1 ad cy) 3 (by rfl) (Nat.le_of_ble_eq_true rfl) (by decide) dX12_over_88 ?_
      refine lv_iconst (v := 1) hx hb dX12_over_89 (by decide) ?_
      refine lv_iadd hx hb dX12_over_90 ?_
      refine zastk E hw (Nat.le_of_ble_eq_true rfl) (ceM_1 ad cy) 3 (by rfl) (Nat.le_of_ble_eq_true rfl) (by decide) dX12_over_91 (fun σ5 eσ5 H locs hw => ?_)
      replace hf := lt_i eσ5 hf
      refine lv_goto (tgt := 16) hx hb dX12_over_92 (by decide) ?_
      exact hkq16 xq2 σ5 _ _ _ hw (lv_sub hl [0, 1, 2] rfl) hf
    · replace hf := it_f h hf
      refine lv_aload_n hx hb dX12_over_45 rfl (lv_at hl 0 rfl) ?_
      refine lv_iload_n hx hb dX12_over_46 rfl (lv_at hl 3 rfl) ?_
      refine lv_iconst (v := 4) hx hb dX12_over_47 (by decide) ?_
      obtain ⟨vq6, hc, hf⟩ := bd_e hf
      refine zcali hw (va_runV (As := [.int xq3, .int 4]) (rest := []) E.fix (c_X12_its (l := l) hA xq3 4 σ hc) (zcV E k6_145 k1_14 k6_142 k6_144 kp3_9 mf_X12_its rfl rfl ⟨Nat.le_of_ble_eq_true rfl, Nat.le_of_ble_eq_true rfl⟩) (zPreV E hw (Nat.le_of_ble_eq_true rfl) (ceM_0 ad cy _) rfl _) rfl rfl hl.1 rfl (lv_room (Nat.le_of_ble_eq_true rfl)) dX12_over_48 ⟨Nat.zero_le _, Nat.zero_le _⟩) (fun H locs hw => ?_)
      refine lv_iconst (v := 1) hx hb dX12_over_51 (by decide) ?_
      refine lv_icmp_ne (tgt := 74) hx hb dX12_over_52 (by decide) (fun h => ?_) (fun h => ?_)
      · replace hf := it_t h hf
        refine lv_iload_n hx hb dX12_over_74 rfl (lv_at hl 2 rfl) ?_
        refine lv_istore_n (lv' := [(2, .int xq2), (0, .ref (ad 0)), (1, .int xq1), (3, .int xq3)]) hx hb dX12_over_75 rfl hl (by decide) rfl (fun ls hl => ?_)
        refine lv_iinc (v := (xq3 + 1)) (lv' := [(3, .int (xq3 + 1)), (2, .int xq2), (0, .ref (ad 0)), (1, .int xq1)]) hx hb dX12_over_76 hl (k := 3) rfl (by rfl) (by decide) rfl (fun ls hl => ?_)
        refine lv_goto (tgt := 35) hx hb dX12_over_79 (by decide) ?_
        exact hkq35 xq2 (xq3 + 1) σ _ _ _ hw (lv_sub hl [2, 3, 1, 0] rfl) hf
      · replace hf := it_n h hf
        refine lv_aload_n hx hb dX12_over_55 rfl (lv_at hl 0 rfl) ?_
        refine lv_iload_n hx hb dX12_over_56 rfl (lv_at hl 3 rfl) ?_
        refine lv_iconst (v := 1) hx hb dX12_over_57 (by decide) ?_
        obtain ⟨vq7, hc, hf⟩ := bd_e hf
        refine zcali hw (va_runV (As := [.int xq3, .int 1]) (rest := []) E.fix (c_X12_its (l := l) hA xq3 1 σ hc) (zcV E k6_145 k1_14 k6_142 k6_144 kp3_9 mf_X12_its rfl rfl ⟨Nat.le_of_ble_eq_true rfl, Nat.le_of_ble_eq_true rfl⟩) (zPreV E hw (Nat.le_of_ble_eq_true rfl) (ceM_0 ad cy _) rfl _) rfl rfl hl.1 rfl (lv_room (Nat.le_of_ble_eq_true rfl)) dX12_over_58 ⟨Nat.zero_le _, Nat.zero_le _⟩) (fun H locs hw => ?_)
        refine lv_iload_n hx hb dX12_over_61 rfl (lv_at hl 1 rfl) ?_
        refine lv_icmp_ne (tgt := 74) hx hb dX12_over_62 (by decide) (fun h => ?_) (fun h => ?_)
        · replace hf := it_t h hf
          refine lv_iload_n hx hb dX12_over_74 rfl (lv_at hl 2 rfl) ?_
          refine lv_istore_n (lv' := [(2, .int xq2), (0, .ref (ad 0)), (1, .int xq1), (3, .int xq3)]) hx hb dX12_over_75 rfl hl (by decide) rfl (fun ls hl => ?_)
          refine lv_iinc (v := (xq3 + 1)) (lv' := [(3, .int (xq3 + 1)), (2, .int xq2), (0, .ref (ad 0)), (1, .int xq1)]) hx hb dX12_over_76 hl (k := 3) rfl (by rfl) (by decide) rfl (fun ls hl => ?_)
          refine lv_goto (tgt := 35) hx hb dX12_over_79 (by decide) ?_
          exact hkq35 xq2 (xq3 + 1) σ _ _ _ hw (lv_sub hl [2, 3, 1, 0] rfl) hf
        · replace hf := it_n h hf
          refine lv_aload_n hx hb dX12_over_65 rfl (lv_at hl 0 rfl) ?_
          refine zget E hw (Nat.le_of_ble_eq_true rfl) (ceM_0 ad cy _) rfl inX12 0 (by decide) k5_223 (fun _ h => h) rfl dX12_over_66 ?_
          refine lv_iconst (v := 3) hx hb dX12_over_69 (by decide) ?_
          refine zaldk E hw (Nat.le_of_ble_eq_true rfl) (ceM_1 ad cy) 3 (by rfl) (Nat.le_of_ble_eq_true rfl) (by decide) dX12_over_70 ?_
          refine lv_goto (tgt := 75) hx hb dX12_over_71 (by decide) ?_
          refine lv_topi (fun vq8 evq8 => ?_)
          replace hf := lt_i evq8 hf
          refine lv_istore_n (lv' := [(2, .int vq8), (0, .ref (ad 0)), (1, .int xq1), (3, .int xq3)]) hx hb dX12_over_75 rfl hl (by decide) rfl (fun ls hl => ?_)
          refine lv_iinc (v := (xq3 + 1)) (lv' := [(3, .int (xq3 + 1)), (2, .int vq8), (0, .ref (ad 0)), (1, .int xq1)]) hx hb dX12_over_76 hl (k := 3) rfl (by rfl) (by decide) rfl (fun ls hl => ?_)
          refine lv_goto (tgt := 35) hx hb dX12_over_79 (by decide) ?_
          exact hkq35 vq8 (xq3 + 1) σ _ _ _ hw (lv_sub hl [2, 3, 1, 0] rfl) hf
  have hL35 : ∀ (xq1 : Int32) (kq16 : Int32 → Sg → Option (Int32 × Sg)) (hkq16 : ∀ (xq2 : Int32) (σ : Sg) (H : Heap) (locs : List Loc) (ls : Array Slot), ZS D 17 (celM ad cy) ad A s σ H locs → lv_has ls 4 [(0, .ref (ad 0)), (1, .int xq1), (2, .int xq2)] → kq16 xq2 σ = some (r, σ9) → W p l e ({ frames := 4, cells := 0, slots := 0, locals := 88 } : Room) s m args below meth c H locs 0 0 (MQ below (zQi D 17 (celM ad cy) ad A r σ9) args s 0 0 A) (F0 m 16 ls [])) (n : Nat) (xq2 : Int32) (xq3 : Int32) (σ : Sg) (H : Heap) (locs : List Loc) (ls : Array Slot), ZS D 17 (celM ad cy) ad A s σ H locs → lv_has ls 4 [(0, .ref (ad 0)), (1, .int xq1), (2, .int xq2), (3, .int xq3)] → f_X12_over_l35 kq16 xq1 n xq2 xq3 σ = some (r, σ9) → W p l e ({ frames := 4, cells := 0, slots := 0, locals := 88 } : Room) s m args below meth c H locs 0 0 (MQ below (zQi D 17 (celM ad cy) ad A r σ9) args s 0 0 A) (F0 m 35 ls []) := by
    intro xq1 kq16 hkq16 n
    induction n with
    | zero =>
      intro xq2 xq3 σ H locs ls hw hl hf
      exact nn_e hf
    | succ n ih =>
      intro xq2 xq3 σ H locs ls hw hl hf
      exact hB35 xq1 kq16 hkq16 (f_X12_over_l35 kq16 xq1 n) ih xq2 xq3 σ H locs ls hw hl hf
  have hB16 : ∀ (xq1 : Int32) (kq16 : Int32 → Sg → Option (Int32 × Sg)) (hkq16 : ∀ (xq2 : Int32) (σ : Sg) (H : Heap) (locs : List Loc) (ls : Array Slot), ZS D 17 (celM ad cy) ad A s σ H locs → lv_has ls 4 [(0, .ref (ad 0)), (1, .int xq1), (2, .int xq2)] → kq16 xq2 σ = some (r, σ9) → W p l e ({ frames := 4, cells := 0, slots := 0, locals := 88 } : Room) s m args below meth c H locs 0 0 (MQ below (zQi D 17 (celM ad cy) ad A r σ9) args s 0 0 A) (F0 m 16 ls [])) (xq2 : Int32) (σ : Sg) (H : Heap) (locs : List Loc) (ls : Array Slot), ZS D 17 (celM ad cy) ad A s σ H locs → lv_has ls 4 [(0, .ref (ad 0)), (1, .int xq1), (2, .int xq2)] → f_X12_over_b16 kq16 xq1 xq2 σ = some (r, σ9) → W p l e ({ frames := 4, cells := 0, slots := 0, locals := 88 } : Room) s m args below meth c H locs 0 0 (MQ below (zQi D 17 (celM ad cy) ad A r σ9) args s 0 0 A) (F0 m 16 ls []) := by
    intro xq1 kq16 hkq16 xq2 σ H locs ls hw hl hf
    unfold f_X12_over_b16 at hf
    refine lv_aload_n hx hb dX12_over_16 rfl (lv_at hl 0 rfl) ?_
    refine zcali hw (va_runV (As := []) (rest := []) E.fix (c_X12_isOver (l := l) hA σ rfl) (zcV E k6_230 k1_14 k6_227 k6_229 kp4_1 mf_X12_isOver rfl rfl ⟨Nat.le_of_ble_eq_true rfl, Nat.le_of_ble_eq_true rfl⟩) (zPreV E hw (Nat.le_of_ble_eq_true rfl) (ceM_0 ad cy _) rfl _) rfl rfl hl.1 rfl (lv_room (Nat.le_of_ble_eq_true rfl)) dX12_over_17 ⟨Nat.zero_le _, Nat.zero_le _⟩) (fun H locs hw => ?_)
    refine lv_if_ne (tgt := 95) hx hb dX12_over_20 (by decide) (fun h => ?_) (fun h => ?_)
    · replace hf := it_t (b2i_n h) hf
      refine lv_aload_n hx hb dX12_over_95 rfl (lv_at hl 0 rfl) ?_
      obtain ⟨σ2, hc, hf⟩ := bd_e hf
      refine zcalv hw (va_runV (As := []) (rest := []) E.fix (c_X12_putsBack (l := l) hA σ hc) (zcV E k7_44 k1_14 k7_41 k7_43 kp4_11 mf_X12_putsBack rfl rfl ⟨Nat.le_of_ble_eq_true rfl, Nat.le_of_ble_eq_true rfl⟩) (zPreV E hw (Nat.le_of_ble_eq_true rfl) (ceM_0 ad cy _) rfl _) rfl rfl hl.1 rfl (lv_room (Nat.le_of_ble_eq_true rfl)) dX12_over_96 ⟨Nat.zero_le _, Nat.zero_le _⟩) (fun H locs hw => ?_)
      refine lv_iload_n hx hb dX12_over_99 rfl (lv_at hl 2 rfl) ?_
      exact zreti E hw hr hlk (rt_a hf) (rt_b hf) dX12_over_100
    · replace hf := it_f (b2i_0 h) hf
      refine lv_iload_n hx hb dX12_over_23 rfl (lv_at hl 2 rfl) ?_
      refine lv_bipush (v := (-3)) hx hb dX12_over_24 (by decide) ?_
      refine lv_icmp_ne (tgt := 95) hx hb dX12_over_26 (by decide) (fun h => ?_) (fun h => ?_)
      · replace hf := it_t h hf
        refine lv_aload_n hx hb dX12_over_95 rfl (lv_at hl 0 rfl) ?_
        obtain ⟨σ3, hc, hf⟩ := bd_e hf
        refine zcalv hw (va_runV (As := []) (rest := []) E.fix (c_X12_putsBack (l := l) hA σ hc) (zcV E k7_44 k1_14 k7_41 k7_43 kp4_11 mf_X12_putsBack rfl rfl ⟨Nat.le_of_ble_eq_true rfl, Nat.le_of_ble_eq_true rfl⟩) (zPreV E hw (Nat.le_of_ble_eq_true rfl) (ceM_0 ad cy _) rfl _) rfl rfl hl.1 rfl (lv_room (Nat.le_of_ble_eq_true rfl)) dX12_over_96 ⟨Nat.zero_le _, Nat.zero_le _⟩) (fun H locs hw => ?_)
        refine lv_iload_n hx hb dX12_over_99 rfl (lv_at hl 2 rfl) ?_
        exact zreti E hw hr hlk (rt_a hf) (rt_b hf) dX12_over_100
      · replace hf := it_n h hf
        refine lv_aload_n hx hb dX12_over_29 rfl (lv_at hl 0 rfl) ?_
        obtain ⟨σ4, hc, hf⟩ := bd_e hf
        refine zcalv hw (va_runV (As := []) (rest := []) E.fix (c_X12_blows (l := l) hA σ hc) (zcV E k7_6 k1_14 k7_3 k7_5 kp4_4 mf_X12_blows rfl rfl ⟨Nat.le_of_ble_eq_true rfl, Nat.le_of_ble_eq_true rfl⟩) (zPreV E hw (Nat.le_of_ble_eq_true rfl) (ceM_0 ad cy _) rfl _) rfl rfl hl.1 rfl (lv_room (Nat.le_of_ble_eq_true rfl)) dX12_over_30 ⟨Nat.zero_le _, Nat.zero_le _⟩) (fun H locs hw => ?_)
        refine lv_iconst (v := 0) hx hb dX12_over_33 (by decide) ?_
        refine lv_istore_n (lv' := [(3, .int 0), (0, .ref (ad 0)), (1, .int xq1), (2, .int xq2)]) hx hb dX12_over_34 rfl hl (by decide) rfl (fun ls hl => ?_)
        exact hL35 xq1 kq16 hkq16 400 xq2 0 σ4 _ _ _ hw (lv_sub hl [1, 2, 3, 0] rfl) hf
  have hL16 : ∀ (xq1 : Int32) (n : Nat) (xq2 : Int32) (σ : Sg) (H : Heap) (locs : List Loc) (ls : Array Slot), ZS D 17 (celM ad cy) ad A s σ H locs → lv_has ls 4 [(0, .ref (ad 0)), (1, .int xq1), (2, .int xq2)] → f_X12_over_l16 xq1 n xq2 σ = some (r, σ9) → W p l e ({ frames := 4, cells := 0, slots := 0, locals := 88 } : Room) s m args below meth c H locs 0 0 (MQ below (zQi D 17 (celM ad cy) ad A r σ9) args s 0 0 A) (F0 m 16 ls []) := by
    intro xq1 n
    induction n with
    | zero =>
      intro xq2 σ H locs ls hw hl hf
      exact nn_e hf
    | succ n ih =>
      intro xq2 σ H locs ls hw hl hf
      exact hB16 xq1 (f_X12_over_l16 xq1 n) ih xq2 σ H locs ls hw hl hf
  unfold f_X12_over at hf
  refine lv_iload_n hx hb dX12_over_0 rfl (lv_at hl 1 rfl) ?_
  refine zcali hw (va_runS (As := [.int xq1]) (rest := []) E.fix (c_X12_isCell (l := l) hA xq1 σ rfl) (zcS E k6_120 k1_14 k6_118 k6_119 mf_X12_isCell rfl rfl ⟨Nat.le_of_ble_eq_true rfl, Nat.le_of_ble_eq_true rfl⟩) (zPre E hw _) rfl rfl hl.1 rfl (lv_room (Nat.le_of_ble_eq_true rfl)) dX12_over_1 ⟨Nat.zero_le _, Nat.zero_le _⟩) (fun H locs hw => ?_)
  refine lv_if_ne (tgt := 9) hx hb dX12_over_4 (by decide) (fun h => ?_) (fun h => ?_)
  · replace hf := it_t (b2i_n h) hf
    refine lv_aload_n hx hb dX12_over_9 rfl (lv_at hl 0 rfl) ?_
    obtain ⟨σ1, hc, hf⟩ := bd_e hf
    refine zcalv hw (va_runV (As := []) (rest := []) E.fix (c_X12_puts (l := l) hA σ hc) (zcV E k7_36 k1_14 k7_33 k7_35 kp4_9 mf_X12_puts rfl rfl ⟨Nat.le_of_ble_eq_true rfl, Nat.le_of_ble_eq_true rfl⟩) (zPreV E hw (Nat.le_of_ble_eq_true rfl) (ceM_0 ad cy _) rfl _) rfl rfl hl.1 rfl (lv_room (Nat.le_of_ble_eq_true rfl)) dX12_over_10 ⟨Nat.zero_le _, Nat.zero_le _⟩) (fun H locs hw => ?_)
    refine lv_bipush (v := (-3)) hx hb dX12_over_13 (by decide) ?_
    refine lv_istore_n (lv' := [(2, .int (-3)), (0, .ref (ad 0)), (1, .int xq1)]) hx hb dX12_over_15 rfl hl (by decide) rfl (fun ls hl => ?_)
    exact hL16 xq1 400 (-3) σ1 _ _ _ hw (lv_sub hl [1, 2, 0] rfl) hf
  · replace hf := it_f (b2i_0 h) hf
    refine lv_iconst (v := (-1)) hx hb dX12_over_7 (by decide) ?_
    exact zreti E hw hr hlk (rt_a hf) (rt_b hf) dX12_over_8
set_option maxRecDepth 100000 in
set_option maxHeartbeats 4000000 in
theorem c_X12_areTangled {l : Launch} {D : va_G} {cy : Cy} {ad : Nat → Nat} {A : Nat → Prop} (hA : okAd 17 ad A) (xq1 : Int32) (xq2 : Int32) (σ : Sg) {r : Bool} (hf : f_X12_areTangled xq1 xq2 σ = some r) : Met l yX12_areTangled (.code yX12_areTangled cX12_areTangled 5 (some .boolean) :: TT) ({ frames := 2, cells := 0, slots := 0, locals := 43 } : Room) (zPc D cy 17 (celM ad cy) ad A [.ref (ad 0), .int xq1, .int xq2] σ) (zQi D 17 (celM ad cy) ad A (b2i r) σ) 0 0 A := by
  refine zofW (by decide) hA (Nat.le_of_ble_eq_true rfl) ?_
  intro p e s m args below meth c ls E hw hr hlk hl
  have E : ZE p s m args c cX12_areTangled 5 "KiteSummonsModel" D cy 17 ad A := E
  have hx := E.hx
  have hb := E.hb
  have hl : lv_has ls 5 [(0, .ref (ad 0)), (1, .int xq1), (2, .int xq2)] := hl
  unfold f_X12_areTangled at hf
  refine lv_aload_n hx hb dX12_areTangled_0 rfl (lv_at hl 0 rfl) ?_
  refine lv_iload_n hx hb dX12_areTangled_1 rfl (lv_at hl 1 rfl) ?_
  refine lv_iconst (v := 1) hx hb dX12_areTangled_2 (by decide) ?_
  obtain ⟨vq1, hc, hf⟩ := bd_e hf
  refine zcali hw (va_runV (As := [.int xq1, .int 1]) (rest := []) E.fix (c_X12_its (l := l) hA xq1 1 σ hc) (zcV E k6_145 k1_14 k6_142 k6_144 kp3_9 mf_X12_its rfl rfl ⟨Nat.le_of_ble_eq_true rfl, Nat.le_of_ble_eq_true rfl⟩) (zPreV E hw (Nat.le_of_ble_eq_true rfl) (ceM_0 ad cy _) rfl _) rfl rfl hl.1 rfl (lv_room (Nat.le_of_ble_eq_true rfl)) dX12_areTangled_3 ⟨Nat.zero_le _, Nat.zero_le _⟩) (fun H locs hw => ?_)
  refine lv_istore_n (lv' := [(3, .int vq1), (0, .ref (ad 0)), (1, .int xq1), (2, .int xq2)]) hx hb dX12_areTangled_6 rfl hl (by decide) rfl (fun ls hl => ?_)
  refine lv_aload_n hx hb dX12_areTangled_7 rfl (lv_at hl 1 rfl) ?_
  refine lv_iload_n hx hb dX12_areTangled_8 rfl (lv_at hl 3 rfl) ?_
  refine lv_iconst (v := 1) hx hb dX12_areTangled_9 (by decide) ?_
  obtain ⟨vq2, hc, hf⟩ := bd_e hf
  refine zcali hw (va_runV (As := [.int xq2, .int 1]) (rest := []) E.fix (c_X12_its (l := l) hA xq2 1 σ hc) (zcV E k6_145 k1_14 k6_142 k6_144 kp3_9 mf_X12_its rfl rfl ⟨Nat.le_of_ble_eq_true rfl, Nat.le_of_ble_eq_true rfl⟩) (zPreV E hw (Nat.le_of_ble_eq_true rfl) (ceM_0 ad cy _) rfl _) rfl rfl hl.1 rfl (lv_room (Nat.le_of_ble_eq_true rfl)) dX12_areTangled_10 ⟨Nat.zero_le _, Nat.zero_le _⟩) (fun H locs hw => ?_)
  refine lv_istore (lv' := [(4, .int vq2), (3, .int vq1), (0, .ref (ad 0)), (1, .int xq1), (2, .int xq2)]) hx hb dX12_areTangled_13 hl (by decide) rfl (fun ls hl => ?_)
  refine lv_aload_n hx hb dX12_areTangled_15 rfl (lv_at hl 2 rfl) ?_
  refine lv_iload_n hx hb dX12_areTangled_16 rfl (lv_at hl 3 rfl) ?_
  refine lv_iconst (v := 4) hx hb dX12_areTangled_17 (by decide) ?_
  obtain ⟨vq3, hc, hf⟩ := bd_e hf
  refine zcali hw (va_runV (As := [.int xq1, .int 4]) (rest := []) E.fix (c_X12_its (l := l) hA xq1 4 σ hc) (zcV E k6_145 k1_14 k6_142 k6_144 kp3_9 mf_X12_its rfl rfl ⟨Nat.le_of_ble_eq_true rfl, Nat.le_of_ble_eq_true rfl⟩) (zPreV E hw (Nat.le_of_ble_eq_true rfl) (ceM_0 ad cy _) rfl _) rfl rfl hl.1 rfl (lv_room (Nat.le_of_ble_eq_true rfl)) dX12_areTangled_18 ⟨Nat.zero_le _, Nat.zero_le _⟩) (fun H locs hw => ?_)
  refine lv_iconst (v := 1) hx hb dX12_areTangled_21 (by decide) ?_
  refine lv_icmp_ne (tgt := 71) hx hb dX12_areTangled_22 (by decide) (fun h => ?_) (fun h => ?_)
  · replace hf := it_t h hf
    refine lv_iconst (v := 0) hx hb dX12_areTangled_71 (by decide) ?_
    exact zretz E hw hr hlk (b_e (rt_1 hf) (by rfl)) rfl dX12_areTangled_72
  · replace hf := it_n h hf
    refine lv_aload_n hx hb dX12_areTangled_25 rfl (lv_at hl 2 rfl) ?_
    refine lv_iload_n hx hb dX12_areTangled_26 rfl (lv_at hl 4 rfl) ?_
    refine lv_iconst (v := 4) hx hb dX12_areTangled_27 (by decide) ?_
    obtain ⟨vq4, hc, hf⟩ := bd_e hf
    refine zcali hw (va_runV (As := [.int xq2, .int 4]) (rest := []) E.fix (c_X12_its (l := l) hA xq2 4 σ hc) (zcV E k6_145 k1_14 k6_142 k6_144 kp3_9 mf_X12_its rfl rfl ⟨Nat.le_of_ble_eq_true rfl, Nat.le_of_ble_eq_true rfl⟩) (zPreV E hw (Nat.le_of_ble_eq_true rfl) (ceM_0 ad cy _) rfl _) rfl rfl hl.1 rfl (lv_room (Nat.le_of_ble_eq_true rfl)) dX12_areTangled_28 ⟨Nat.zero_le _, Nat.zero_le _⟩) (fun H locs hw => ?_)
    refine lv_iconst (v := 1) hx hb dX12_areTangled_31 (by decide) ?_
    refine lv_icmp_ne (tgt := 71) hx hb dX12_areTangled_32 (by decide) (fun h => ?_) (fun h => ?_)
    · replace hf := it_t h hf
      refine lv_iconst (v := 0) hx hb dX12_areTangled_71 (by decide) ?_
      exact zretz E hw hr hlk (b_e (rt_1 hf) (by rfl)) rfl dX12_areTangled_72
    · replace hf := it_n h hf
      refine lv_iload_n hx hb dX12_areTangled_35 rfl (lv_at hl 1 rfl) ?_
      refine lv_bipush (v := 8) hx hb dX12_areTangled_36 (by decide) ?_
      refine zirem hx hb dX12_areTangled_38 (by decide) ?_
      refine lv_iload hx hb dX12_areTangled_39 (lv_at hl 0 rfl) ?_
      refine lv_bipush (v := 8) hx hb dX12_areTangled_41 (by decide) ?_
      refine zirem hx hb dX12_areTangled_43 (by decide) ?_
      refine zcali hw (va_runS (As := [.int (rem32 vq1 8), .int (rem32 vq2 8)]) (rest := []) E.fix (c_X12_distance (l := l) hA (rem32 vq1 8) (rem32 vq2 8) σ rfl) (zcS E k6_181 k1_14 k6_179 k6_180 mf_X12_distance rfl rfl ⟨Nat.le_of_ble_eq_true rfl, Nat.le_of_ble_eq_true rfl⟩) (zPre E hw _) rfl rfl hl.1 rfl (lv_room (Nat.le_of_ble_eq_true rfl)) dX12_areTangled_44 ⟨Nat.zero_le _, Nat.zero_le _⟩) (fun H locs hw => ?_)
      refine lv_iconst (v := 1) hx hb dX12_areTangled_47 (by decide) ?_
      refine lv_icmp_gt (tgt := 71) hx hb dX12_areTangled_48 (by decide) (fun h => ?_) (fun h => ?_)
      · replace hf := it_t h hf
        refine lv_iconst (v := 0) hx hb dX12_areTangled_71 (by decide) ?_
        exact zretz E hw hr hlk (b_e (rt_1 hf) (by rfl)) rfl dX12_areTangled_72
      · replace hf := it_f h hf
        refine lv_iload_n hx hb dX12_areTangled_51 rfl (lv_at hl 1 rfl) ?_
        refine lv_bipush (v := 8) hx hb dX12_areTangled_52 (by decide) ?_
        refine lv_idiv hx hb dX12_areTangled_54 (by decide) ?_
        refine lv_iload hx hb dX12_areTangled_55 (lv_at hl 0 rfl) ?_
        refine lv_bipush (v := 8) hx hb dX12_areTangled_57 (by decide) ?_
        refine lv_idiv hx hb dX12_areTangled_59 (by decide) ?_
        refine zcali hw (va_runS (As := [.int (vq1 / 8), .int (vq2 / 8)]) (rest := []) E.fix (c_X12_distance (l := l) hA (vq1 / 8) (vq2 / 8) σ rfl) (zcS E k6_181 k1_14 k6_179 k6_180 mf_X12_distance rfl rfl ⟨Nat.le_of_ble_eq_true rfl, Nat.le_of_ble_eq_true rfl⟩) (zPre E hw _) rfl rfl hl.1 rfl (lv_room (Nat.le_of_ble_eq_true rfl)) dX12_areTangled_60 ⟨Nat.zero_le _, Nat.zero_le _⟩) (fun H locs hw => ?_)
        refine lv_iconst (v := 1) hx hb dX12_areTangled_63 (by decide) ?_
        refine lv_icmp_gt (tgt := 71) hx hb dX12_areTangled_64 (by decide) (fun h => ?_) (fun h => ?_)
        · replace hf := it_t h hf
          refine lv_iconst (v := 0) hx hb dX12_areTangled_71 (by decide) ?_
          exact zretz E hw hr hlk (b_e (rt_1 hf) (by rfl)) rfl dX12_areTangled_72
        · replace hf := it_f h hf
          refine lv_iconst (v := 1) hx hb dX12_areTangled_67 (by decide) ?_
          refine lv_goto (tgt := 72) hx hb dX12_areTangled_68 (by decide) ?_
          exact zretz E hw hr hlk (b_e (rt_1 hf) (by rfl)) rfl dX12_areTangled_72
set_option maxRecDepth 100000 in
set_option maxHeartbeats 4000000 in
theorem c_X12_caseOf {l : Launch} {D : va_G} {cy : Cy} {ad : Nat → Nat} {A : Nat → Prop} (hA : okAd 17 ad A) (xq1 : Int32) (σ : Sg) {r : Int32} (hf : f_X12_caseOf xq1 σ = some r) : Met l yX12_caseOf (.code yX12_caseOf cX12_caseOf 6 (some .int) :: TT) ({ frames := 3, cells := 0, slots := 0, locals := 67 } : Room) (zPc D cy 17 (celM ad cy) ad A [.ref (ad 0), .int xq1] σ) (zQi D 17 (celM ad cy) ad A r σ) 0 0 A := by
  refine zofW (by decide) hA (Nat.le_of_ble_eq_true rfl) ?_
  intro p e s m args below meth c ls E hw hr hlk hl
  have E : ZE p s m args c cX12_caseOf 6 "KiteSummonsModel" D cy 17 ad A := E
  have hx := E.hx
  have hb := E.hb
  have hl : lv_has ls 6 [(0, .ref (ad 0)), (1, .int xq1)] := hl
  have hB35 : ∀ (xq3 : Int32) (xq4 : Int32) (kq11 : Int32 → Int32 → Option Int32) (hkq11 : ∀ (xq2 : Int32) (xq3 : Int32) (H : Heap) (locs : List Loc) (ls : Array Slot), ZS D 17 (celM ad cy) ad A s σ H locs → lv_has ls 6 [(0, .ref (ad 0)), (2, .int xq2), (3, .int xq3)] → kq11 xq2 xq3 = some r → W p l e ({ frames := 3, cells := 0, slots := 0, locals := 67 } : Room) s m args below meth c H locs 0 0 (MQ below (zQi D 17 (celM ad cy) ad A r σ) args s 0 0 A) (F0 m 11 ls [])) (kq21 : Int32 → Int32 → Option Int32) (hkq21 : ∀ (xq2 : Int32) (xq4 : Int32) (H : Heap) (locs : List Loc) (ls : Array Slot), ZS D 17 (celM ad cy) ad A s σ H locs → lv_has ls 6 [(0, .ref (ad 0)), (2, .int xq2), (3, .int xq3), (4, .int xq4)] → kq21 xq2 xq4 = some r → W p l e ({ frames := 3, cells := 0, slots := 0, locals := 67 } : Room) s m args below meth c H locs 0 0 (MQ below (zQi D 17 (celM ad cy) ad A r σ) args s 0 0 A) (F0 m 21 ls [])) (kq35 : Int32 → Int32 → Option Int32) (hkq35 : ∀ (xq2 : Int32) (xq5 : Int32) (H : Heap) (locs : List Loc) (ls : Array Slot), ZS D 17 (celM ad cy) ad A s σ H locs → lv_has ls 6 [(0, .ref (ad 0)), (2, .int xq2), (3, .int xq3), (4, .int xq4), (5, .int xq5)] → kq35 xq2 xq5 = some r → W p l e ({ frames := 3, cells := 0, slots := 0, locals := 67 } : Room) s m args below meth c H locs 0 0 (MQ below (zQi D 17 (celM ad cy) ad A r σ) args s 0 0 A) (F0 m 35 ls [])) (xq2 : Int32) (xq5 : Int32) (H : Heap) (locs : List Loc) (ls : Array Slot), ZS D 17 (celM ad cy) ad A s σ H locs → lv_has ls 6 [(0, .ref (ad 0)), (2, .int xq2), (3, .int xq3), (4, .int xq4), (5, .int xq5)] → f_X12_caseOf_b35 kq11 kq21 kq35 xq3 xq4 σ xq2 xq5 = some r → W p l e ({ frames := 3, cells := 0, slots := 0, locals := 67 } : Room) s m args below meth c H locs 0 0 (MQ below (zQi D 17 (celM ad cy) ad A r σ) args s 0 0 A) (F0 m 35 ls []) := by
    intro xq3 xq4 kq11 hkq11 kq21 hkq21 kq35 hkq35 xq2 xq5 H locs ls hw hl hf
    unfold f_X12_caseOf_b35 at hf
    refine lv_iload hx hb dX12_caseOf_35 (lv_at hl 4 rfl) ?_
    refine lv_aload_n hx hb dX12_caseOf_37 rfl (lv_at hl 0 rfl) ?_
    refine zget E hw (Nat.le_of_ble_eq_true rfl) (ceM_0 ad cy _) rfl inX12 0 (by decide) k5_223 (fun _ h => h) rfl dX12_caseOf_38 ?_
    refine lv_iconst (v := 0) hx hb dX12_caseOf_41 (by decide) ?_
    refine zaldk E hw (Nat.le_of_ble_eq_true rfl) (ceM_1 ad cy) 0 (by rfl) (Nat.le_of_ble_eq_true rfl) (by decide) dX12_caseOf_42 ?_
    refine lv_icmp_ge (tgt := 84) hx hb dX12_caseOf_43 (by decide) (fun h => ?_) (fun h => ?_)
    · replace hf := it_t h hf
      refine lv_iinc (v := (xq4 + 1)) (lv' := [(4, .int (xq4 + 1)), (0, .ref (ad 0)), (2, .int xq2), (3, .int xq3), (5, .int xq5)]) hx hb dX12_caseOf_84 hl (k := 3) rfl (by rfl) (by decide) rfl (fun ls hl => ?_)
      refine lv_goto (tgt := 21) hx hb dX12_caseOf_87 (by decide) ?_
      exact hkq21 xq2 (xq4 + 1) _ _ _ hw (lv_sub hl [1, 2, 3, 0] rfl) hf
    · replace hf := it_f h hf
      refine lv_iload_n hx hb dX12_caseOf_46 rfl (lv_at hl 1 rfl) ?_
      refine lv_iload_n hx hb dX12_caseOf_47 rfl (lv_at hl 1 rfl) ?_
      refine lv_iload hx hb dX12_caseOf_48 (lv_at hl 3 rfl) ?_
      refine zishr hx hb dX12_caseOf_50 ?_
      refine lv_iconst (v := 1) hx hb dX12_caseOf_51 (by decide) ?_
      refine lv_iand hx hb dX12_caseOf_52 ?_
      refine lv_iconst (v := 1) hx hb dX12_caseOf_53 (by decide) ?_
      refine lv_icmp_ne (tgt := 75) hx hb dX12_caseOf_54 (by decide) (fun h => ?_) (fun h => ?_)
      · replace hf := it_t h hf
        refine lv_iconst (v := 0) hx hb dX12_caseOf_75 (by decide) ?_
        refine lv_ior hx hb dX12_caseOf_76 ?_
        refine lv_topi (fun vq3 evq3 => ?_)
        replace hf := lt_i evq3 hf
        refine lv_istore_n (lv' := [(2, .int vq3), (0, .ref (ad 0)), (3, .int xq3), (4, .int xq4), (5, .int xq5)]) hx hb dX12_caseOf_77 rfl hl (by decide) rfl (fun ls hl => ?_)
        refine lv_iinc (v := (xq5 + 1)) (lv' := [(5, .int (xq5 + 1)), (2, .int vq3), (0, .ref (ad 0)), (3, .int xq3), (4, .int xq4)]) hx hb dX12_caseOf_78 hl (k := 4) rfl (by rfl) (by decide) rfl (fun ls hl => ?_)
        refine lv_goto (tgt := 35) hx hb dX12_caseOf_81 (by decide) ?_
        exact hkq35 vq3 (xq5 + 1) _ _ _ hw (lv_sub hl [2, 1, 3, 4, 0] rfl) hf
      · replace hf := it_n h hf
        refine lv_aload_n hx hb dX12_caseOf_57 rfl (lv_at hl 0 rfl) ?_
        refine lv_iload hx hb dX12_caseOf_58 (lv_at hl 3 rfl) ?_
        refine lv_iload hx hb dX12_caseOf_60 (lv_at hl 4 rfl) ?_
        obtain ⟨vq4, hc, hf⟩ := bd_e hf
        refine zcali hw (va_runV (As := [.int xq4, .int xq5]) (rest := [.int xq2]) E.fix (c_X12_areTangled (l := l) hA xq4 xq5 σ hc) (zcV E k7_76 k1_14 k7_73 k7_75 kp4_14 mf_X12_areTangled rfl rfl ⟨Nat.le_of_ble_eq_true rfl, Nat.le_of_ble_eq_true rfl⟩) (zPreV E hw (Nat.le_of_ble_eq_true rfl) (ceM_0 ad cy _) rfl _) rfl rfl hl.1 rfl (lv_room (Nat.le_of_ble_eq_true rfl)) dX12_caseOf_62 ⟨Nat.zero_le _, Nat.zero_le _⟩) (fun H locs hw => ?_)
        refine lv_if_eq (tgt := 75) hx hb dX12_caseOf_65 (by decide) (fun h => ?_) (fun h => ?_)
        · replace hf := it_f (b2i_0 h) hf
          refine lv_iconst (v := 0) hx hb dX12_caseOf_75 (by decide) ?_
          refine lv_ior hx hb dX12_caseOf_76 ?_
          refine lv_topi (fun vq5 evq5 => ?_)
          replace hf := lt_i evq5 hf
          refine lv_istore_n (lv' := [(2, .int vq5), (0, .ref (ad 0)), (3, .int xq3), (4, .int xq4), (5, .int xq5)]) hx hb dX12_caseOf_77 rfl hl (by decide) rfl (fun ls hl => ?_)
          refine lv_iinc (v := (xq5 + 1)) (lv' := [(5, .int (xq5 + 1)), (2, .int vq5), (0, .ref (ad 0)), (3, .int xq3), (4, .int xq4)]) hx hb dX12_caseOf_78 hl (k := 4) rfl (by rfl) (by decide) rfl (fun ls hl => ?_)
          refine lv_goto (tgt := 35) hx hb dX12_caseOf_81 (by decide) ?_
          exact hkq35 vq5 (xq5 + 1) _ _ _ hw (lv_sub hl [2, 1, 3, 4, 0] rfl) hf
        · replace hf := it_t (b2i_n h) hf
          refine lv_iconst (v := 1) hx hb dX12_caseOf_68 (by decide) ?_
          refine lv_iload hx hb dX12_caseOf_69 (lv_at hl 4 rfl) ?_
          refine zishl hx hb dX12_caseOf_71 ?_
          refine lv_goto (tgt := 76) hx hb dX12_caseOf_72 (by decide) ?_
          refine lv_ior hx hb dX12_caseOf_76 ?_
          refine lv_topi (fun vq6 evq6 => ?_)
          replace hf := lt_i evq6 hf
          refine lv_istore_n (lv' := [(2, .int vq6), (0, .ref (ad 0)), (3, .int xq3), (4, .int xq4), (5, .int xq5)]) hx hb dX12_caseOf_77 rfl hl (by decide) rfl (fun ls hl => ?_)
          refine lv_iinc (v := (xq5 + 1)) (lv' := [(5, .int (xq5 + 1)), (2, .int vq6), (0, .ref (ad 0)), (3, .int xq3), (4, .int xq4)]) hx hb dX12_caseOf_78 hl (k := 4) rfl (by rfl) (by decide) rfl (fun ls hl => ?_)
          refine lv_goto (tgt := 35) hx hb dX12_caseOf_81 (by decide) ?_
          exact hkq35 vq6 (xq5 + 1) _ _ _ hw (lv_sub hl [2, 1, 3, 4, 0] rfl) hf
  have hL35 : ∀ (xq3 : Int32) (xq4 : Int32) (kq11 : Int32 → Int32 → Option Int32) (hkq11 : ∀ (xq2 : Int32) (xq3 : Int32) (H : Heap) (locs : List Loc) (ls : Array Slot), ZS D 17 (celM ad cy) ad A s σ H locs → lv_has ls 6 [(0, .ref (ad 0)), (2, .int xq2), (3, .int xq3)] → kq11 xq2 xq3 = some r → W p l e ({ frames := 3, cells := 0, slots := 0, locals := 67 } : Room) s m args below meth c H locs 0 0 (MQ below (zQi D 17 (celM ad cy) ad A r σ) args s 0 0 A) (F0 m 11 ls [])) (kq21 : Int32 → Int32 → Option Int32) (hkq21 : ∀ (xq2 : Int32) (xq4 : Int32) (H : Heap) (locs : List Loc) (ls : Array Slot), ZS D 17 (celM ad cy) ad A s σ H locs → lv_has ls 6 [(0, .ref (ad 0)), (2, .int xq2), (3, .int xq3), (4, .int xq4)] → kq21 xq2 xq4 = some r → W p l e ({ frames := 3, cells := 0, slots := 0, locals := 67 } : Room) s m args below meth c H locs 0 0 (MQ below (zQi D 17 (celM ad cy) ad A r σ) args s 0 0 A) (F0 m 21 ls [])) (n : Nat) (xq2 : Int32) (xq5 : Int32) (H : Heap) (locs : List Loc) (ls : Array Slot), ZS D 17 (celM ad cy) ad A s σ H locs → lv_has ls 6 [(0, .ref (ad 0)), (2, .int xq2), (3, .int xq3), (4, .int xq4), (5, .int xq5)] → f_X12_caseOf_l35 kq11 kq21 xq3 xq4 σ n xq2 xq5 = some r → W p l e ({ frames := 3, cells := 0, slots := 0, locals := 67 } : Room) s m args below meth c H locs 0 0 (MQ below (zQi D 17 (celM ad cy) ad A r σ) args s 0 0 A) (F0 m 35 ls []) := by
    intro xq3 xq4 kq11 hkq11 kq21 hkq21 n
    induction n with
    | zero =>
      intro xq2 xq5 H locs ls hw hl hf
      exact nn_e hf
    | succ n ih =>
      intro xq2 xq5 H locs ls hw hl hf
      exact hB35 xq3 xq4 kq11 hkq11 kq21 hkq21 (f_X12_caseOf_l35 kq11 kq21 xq3 xq4 σ n) ih xq2 xq5 H locs ls hw hl hf
  have hB21 : ∀ (xq3 : Int32) (kq11 : Int32 → Int32 → Option Int32) (hkq11 : ∀ (xq2 : Int32) (xq3 : Int32) (H : Heap) (locs : List Loc) (ls : Array Slot), ZS D 17 (celM ad cy) ad A s σ H locs → lv_has ls 6 [(0, .ref (ad 0)), (2, .int xq2), (3, .int xq3)] → kq11 xq2 xq3 = some r → W p l e ({ frames := 3, cells := 0, slots := 0, locals := 67 } : Room) s m args below meth c H locs 0 0 (MQ below (zQi D 17 (celM ad cy) ad A r σ) args s 0 0 A) (F0 m 11 ls [])) (kq21 : Int32 → Int32 → Option Int32) (hkq21 : ∀ (xq2 : Int32) (xq4 : Int32) (H : Heap) (locs : List Loc) (ls : Array Slot), ZS D 17 (celM ad cy) ad A s σ H locs → lv_has ls 6 [(0, .ref (ad 0)), (2, .int xq2), (3, .int xq3), (4, .int xq4)] → kq21 xq2 xq4 = some r → W p l e ({ frames := 3, cells := 0, slots := 0, locals := 67 } : Room) s m args below meth c H locs 0 0 (MQ below (zQi D 17 (celM ad cy) ad A r σ) args s 0 0 A) (F0 m 21 ls [])) (xq2 : Int32) (xq4 : Int32) (H : Heap) (locs : List Loc) (ls : Array Slot), ZS D 17 (celM ad cy) ad A s σ H locs → lv_has ls 6 [(0, .ref (ad 0)), (2, .int xq2), (3, .int xq3), (4, .int xq4)] → f_X12_caseOf_b21 kq11 kq21 xq3 σ xq2 xq4 = some r → W p l e ({ frames := 3, cells := 0, slots := 0, locals := 67 } : Room) s m args below meth c H locs 0 0 (MQ below (zQi D 17 (celM ad cy) ad A r σ) args s 0 0 A) (F0 m 21 ls []) := by
    intro xq3 kq11 hkq11 kq21 hkq21 xq2 xq4 H locs ls hw hl hf
    unfold f_X12_caseOf_b21 at hf
    refine lv_iload hx hb dX12_caseOf_21 (lv_at hl 3 rfl) ?_
    refine lv_aload_n hx hb dX12_caseOf_23 rfl (lv_at hl 0 rfl) ?_
    refine zget E hw (Nat.le_of_ble_eq_true rfl) (ceM_0 ad cy _) rfl inX12 0 (by decide) k5_223 (fun _ h => h) rfl dX12_caseOf_24 ?_
    refine lv_iconst (v := 0) hx hb dX12_caseOf_27 (by decide) ?_
    refine zaldk E hw (Nat.le_of_ble_eq_true rfl) (ceM_1 ad cy) 0 (by rfl) (Nat.le_of_ble_eq_true rfl) (by decide) dX12_caseOf_28 ?_
    refine lv_icmp_ge (tgt := 90) hx hb dX12_caseOf_29 (by decide) (fun h => ?_) (fun h => ?_)
    · replace hf := it_t h hf
      refine lv_goto (tgt := 11) hx hb dX12_caseOf_90 (by decide) ?_
      exact hkq11 xq2 xq3 _ _ _ hw (lv_sub hl [0, 1, 2] rfl) hf
    · replace hf := it_f h hf
      refine lv_iconst (v := 0) hx hb dX12_caseOf_32 (by decide) ?_
      refine lv_istore (lv' := [(5, .int 0), (0, .ref (ad 0)), (2, .int xq2), (3, .int xq3), (4, .int xq4)]) hx hb dX12_caseOf_33 hl (by decide) rfl (fun ls hl => ?_)
      exact hL35 xq3 xq4 kq11 hkq11 kq21 hkq21 400 xq2 0 _ _ _ hw (lv_sub hl [1, 2, 3, 4, 0] rfl) hf
  have hL21 : ∀ (xq3 : Int32) (kq11 : Int32 → Int32 → Option Int32) (hkq11 : ∀ (xq2 : Int32) (xq3 : Int32) (H : Heap) (locs : List Loc) (ls : Array Slot), ZS D 17 (celM ad cy) ad A s σ H locs → lv_has ls 6 [(0, .ref (ad 0)), (2, .int xq2), (3, .int xq3)] → kq11 xq2 xq3 = some r → W p l e ({ frames := 3, cells := 0, slots := 0, locals := 67 } : Room) s m args below meth c H locs 0 0 (MQ below (zQi D 17 (celM ad cy) ad A r σ) args s 0 0 A) (F0 m 11 ls [])) (n : Nat) (xq2 : Int32) (xq4 : Int32) (H : Heap) (locs : List Loc) (ls : Array Slot), ZS D 17 (celM ad cy) ad A s σ H locs → lv_has ls 6 [(0, .ref (ad 0)), (2, .int xq2), (3, .int xq3), (4, .int xq4)] → f_X12_caseOf_l21 kq11 xq3 σ n xq2 xq4 = some r → W p l e ({ frames := 3, cells := 0, slots := 0, locals := 67 } : Room) s m args below meth c H locs 0 0 (MQ below (zQi D 17 (celM ad cy) ad A r σ) args s 0 0 A) (F0 m 21 ls []) := by
    intro xq3 kq11 hkq11 n
    induction n with
    | zero =>
      intro xq2 xq4 H locs ls hw hl hf
      exact nn_e hf
    | succ n ih =>
      intro xq2 xq4 H locs ls hw hl hf
      exact hB21 xq3 kq11 hkq11 (f_X12_caseOf_l21 kq11 xq3 σ n) ih xq2 xq4 H locs ls hw hl hf
  have hB11 : ∀ (kq11 : Int32 → Int32 → Option Int32) (hkq11 : ∀ (xq2 : Int32) (xq3 : Int32) (H : Heap) (locs : List Loc) (ls : Array Slot), ZS D 17 (celM ad cy) ad A s σ H locs → lv_has ls 6 [(0, .ref (ad 0)), (2, .int xq2), (3, .int xq3)] → kq11 xq2 xq3 = some r → W p l e ({ frames := 3, cells := 0, slots := 0, locals := 67 } : Room) s m args below meth c H locs 0 0 (MQ below (zQi D 17 (celM ad cy) ad A r σ) args s 0 0 A) (F0 m 11 ls [])) (xq2 : Int32) (xq3 : Int32) (H : Heap) (locs : List Loc) (ls : Array Slot), ZS D 17 (celM ad cy) ad A s σ H locs → lv_has ls 6 [(0, .ref (ad 0)), (2, .int xq2), (3, .int xq3)] → f_X12_caseOf_b11 kq11 σ xq2 xq3 = some r → W p l e ({ frames := 3, cells := 0, slots := 0, locals := 67 } : Room) s m args below meth c H locs 0 0 (MQ below (zQi D 17 (celM ad cy) ad A r σ) args s 0 0 A) (F0 m 11 ls []) := by
    intro kq11 hkq11 xq2 xq3 H locs ls hw hl hf
    unfold f_X12_caseOf_b11 at hf
    refine lv_iload_n hx hb dX12_caseOf_11 rfl (lv_at hl 2 rfl) ?_
    refine lv_iload_n hx hb dX12_caseOf_12 rfl (lv_at hl 1 rfl) ?_
    refine lv_icmp_eq (tgt := 93) hx hb dX12_caseOf_13 (by decide) (fun h => ?_) (fun h => ?_)
    · replace hf := it_t h hf
      refine lv_iload_n hx hb dX12_caseOf_93 rfl (lv_at hl 1 rfl) ?_
      exact zreti E hw hr hlk (rt_1 hf) rfl dX12_caseOf_94
    · replace hf := it_f h hf
      refine lv_iload_n hx hb dX12_caseOf_16 rfl (lv_at hl 1 rfl) ?_
      refine lv_istore_n (lv' := [(3, .int xq2), (0, .ref (ad 0)), (2, .int xq2)]) hx hb dX12_caseOf_17 rfl hl (by decide) rfl (fun ls hl => ?_)
      refine lv_iconst (v := 0) hx hb dX12_caseOf_18 (by decide) ?_
      refine lv_istore (lv' := [(4, .int 0), (3, .int xq2), (0, .ref (ad 0)), (2, .int xq2)]) hx hb dX12_caseOf_19 hl (by decide) rfl (fun ls hl => ?_)
      exact hL21 xq2 kq11 hkq11 400 xq2 0 _ _ _ hw (lv_sub hl [2, 3, 1, 0] rfl) hf
  have hL11 : ∀ (n : Nat) (xq2 : Int32) (xq3 : Int32) (H : Heap) (locs : List Loc) (ls : Array Slot), ZS D 17 (celM ad cy) ad A s σ H locs → lv_has ls 6 [(0, .ref (ad 0)), (2, .int xq2), (3, .int xq3)] → f_X12_caseOf_l11 σ n xq2 xq3 = some r → W p l e ({ frames := 3, cells := 0, slots := 0, locals := 67 } : Room) s m args below meth c H locs 0 0 (MQ below (zQi D 17 (celM ad cy) ad A r σ) args s 0 0 A) (F0 m 11 ls []) := by
    intro n
    induction n with
    | zero =>
      intro xq2 xq3 H locs ls hw hl hf
      exact nn_e hf
    | succ n ih =>
      intro xq2 xq3 H locs ls hw hl hf
      exact hB11 (f_X12_caseOf_l11 σ n) ih xq2 xq3 H locs ls hw hl hf
  unfold f_X12_caseOf at hf
  refine lv_aload_n hx hb dX12_caseOf_0 rfl (lv_at hl 0 rfl) ?_
  refine lv_iload_n hx hb dX12_caseOf_1 rfl (lv_at hl 1 rfl) ?_
  refine lv_iconst (v := 4) hx hb dX12_caseOf_2 (by decide) ?_
  obtain ⟨vq1, hc, hf⟩ := bd_e hf
  refine zcali hw (va_runV (As := [.int xq1, .int 4]) (rest := []) E.fix (c_X12_its (l := l) hA xq1 4 σ hc) (zcV E k6_145 k1_14 k6_142 k6_144 kp3_9 mf_X12_its rfl rfl ⟨Nat.le_of_ble_eq_true rfl, Nat.le_of_ble_eq_true rfl⟩) (zPreV E hw (Nat.le_of_ble_eq_true rfl) (ceM_0 ad cy _) rfl _) rfl rfl hl.1 rfl (lv_room (Nat.le_of_ble_eq_true rfl)) dX12_caseOf_3 ⟨Nat.zero_le _, Nat.zero_le _⟩) (fun H locs hw => ?_)
  refine lv_iload_n hx hb dX12_caseOf_6 rfl (lv_at hl 1 rfl) ?_
  refine zishl hx hb dX12_caseOf_7 ?_
  refine lv_topi (fun vq2 evq2 => ?_)
  replace hf := lt_i evq2 hf
  refine lv_istore_n (lv' := [(2, .int vq2), (0, .ref (ad 0)), (1, .int xq1)]) hx hb dX12_caseOf_8 rfl hl (by decide) rfl (fun ls hl => ?_)
  refine lv_iconst (v := 0) hx hb dX12_caseOf_9 (by decide) ?_
  refine lv_istore_n (lv' := [(3, .int 0), (2, .int vq2), (0, .ref (ad 0)), (1, .int xq1)]) hx hb dX12_caseOf_10 rfl hl (by decide) rfl (fun ls hl => ?_)
  exact hL11 400 vq2 0 _ _ _ hw (lv_sub hl [2, 1, 0] rfl) hf
set_option maxRecDepth 100000 in
set_option maxHeartbeats 4000000 in
theorem c_X12_cases {l : Launch} {D : va_G} {cy : Cy} {ad : Nat → Nat} {A : Nat → Prop} (hA : okAd 17 ad A) (xq1 : Int32) (σ : Sg) {r : Int32} (hf : f_X12_cases xq1 σ = some r) : Met l yX12_cases (.code yX12_cases cX12_cases 5 (some .int) :: TT) ({ frames := 4, cells := 0, slots := 0, locals := 92 } : Room) (zPc D cy 17 (celM ad cy) ad A [.ref (ad 0), .int xq1] σ) (zQi D 17 (celM ad cy) ad A r σ) 0 0 A := by
  refine zofW (by decide) hA (Nat.le_of_ble_eq_true rfl) ?_
  intro p e s m args below meth c ls E hw hr hlk hl
  have E : ZE p s m args c cX12_cases 5 "KiteSummonsModel" D cy 17 ad A := E
  have hx := E.hx
  have hb := E.hb
  have hl : lv_has ls 5 [(0, .ref (ad 0)), (1, .int xq1)] := hl
  have hB32 : ∀ (kq32 : Int32 → Int32 → Int32 → Option Int32) (hkq32 : ∀ (xq2 : Int32) (xq3 : Int32) (xq4 : Int32) (H : Heap) (locs : List Loc) (ls : Array Slot), ZS D 17 (celM ad cy) ad A s σ H locs → lv_has ls 5 [(0, .ref (ad 0)), (2, .int xq2), (3, .int xq3), (4, .int xq4)] → kq32 xq2 xq3 xq4 = some r → W p l e ({ frames := 4, cells := 0, slots := 0, locals := 92 } : Room) s m args below meth c H locs 0 0 (MQ below (zQi D 17 (celM ad cy) ad A r σ) args s 0 0 A) (F0 m 32 ls [])) (xq2 : Int32) (xq3 : Int32) (xq4 : Int32) (H : Heap) (locs : List Loc) (ls : Array Slot), ZS D 17 (celM ad cy) ad A s σ H locs → lv_has ls 5 [(0, .ref (ad 0)), (2, .int xq2), (3, .int xq3), (4, .int xq4)] → f_X12_cases_b32 kq32 σ xq2 xq3 xq4 = some r → W p l e ({ frames := 4, cells := 0, slots := 0, locals := 92 } : Room) s m args below meth c H locs 0 0 (MQ below (zQi D 17 (celM ad cy) ad A r σ) args s 0 0 A) (F0 m 32 ls []) := by
    intro kq32 hkq32 xq2 xq3 xq4 H locs ls hw hl hf
    unfold f_X12_cases_b32 at hf
    refine lv_iload hx hb dX12_cases_32 (lv_at hl 3 rfl) ?_
    refine lv_aload_n hx hb dX12_cases_34 rfl (lv_at hl 0 rfl) ?_
    refine zget E hw (Nat.le_of_ble_eq_true rfl) (ceM_0 ad cy _) rfl inX12 0 (by decide) k5_223 (fun _ h => h) rfl dX12_cases_35 ?_
    refine lv_iconst (v := 0) hx hb dX12_cases_38 (by decide) ?_
    refine zaldk E hw (Nat.le_of_ble_eq_true rfl) (ceM_1 ad cy) 0 (by rfl) (Nat.le_of_ble_eq_true rfl) (by decide) dX12_cases_39 ?_
    refine lv_icmp_ge (tgt := 83) hx hb dX12_cases_40 (by decide) (fun h => ?_) (fun h => ?_)
    · replace hf := it_t h hf
      refine lv_iload_n hx hb dX12_cases_83 rfl (lv_at hl 1 rfl) ?_
      exact zreti E hw hr hlk (rt_1 hf) rfl dX12_cases_84
    · replace hf := it_f h hf
      refine lv_iload_n hx hb dX12_cases_43 rfl (lv_at hl 1 rfl) ?_
      refine lv_iload_n hx hb dX12_cases_44 rfl (lv_at hl 2 rfl) ?_
      refine lv_iload hx hb dX12_cases_45 (lv_at hl 3 rfl) ?_
      refine zishr hx hb dX12_cases_47 ?_
      refine lv_iconst (v := 1) hx hb dX12_cases_48 (by decide) ?_
      refine lv_iand hx hb dX12_cases_49 ?_
      refine lv_iadd hx hb dX12_cases_50 ?_
      refine lv_topi (fun vq3 evq3 => ?_)
      replace hf := lt_i evq3 hf
      refine lv_istore_n (lv' := [(2, .int vq3), (0, .ref (ad 0)), (3, .int xq3), (4, .int xq4)]) hx hb dX12_cases_51 rfl hl (by decide) rfl (fun ls hl => ?_)
      refine lv_iload_n hx hb dX12_cases_52 rfl (lv_at hl 2 rfl) ?_
      refine lv_iload_n hx hb dX12_cases_53 rfl (lv_at hl 2 rfl) ?_
      refine lv_iload hx hb dX12_cases_54 (lv_at hl 3 rfl) ?_
      refine zishr hx hb dX12_cases_56 ?_
      refine lv_iconst (v := 1) hx hb dX12_cases_57 (by decide) ?_
      refine lv_iand hx hb dX12_cases_58 ?_
      refine lv_iconst (v := 1) hx hb dX12_cases_59 (by decide) ?_
      refine lv_icmp_ne (tgt := 74) hx hb dX12_cases_60 (by decide) (fun h => ?_) (fun h => ?_)
      · replace hf := it_t h hf
        refine lv_iconst (v := (-1)) hx hb dX12_cases_74 (by decide) ?_
        refine lv_iand hx hb dX12_cases_75 ?_
        refine lv_topi (fun vq4 evq4 => ?_)
        replace hf := lt_i evq4 hf
        refine lv_istore_n (lv' := [(3, .int vq4), (2, .int vq3), (0, .ref (ad 0)), (4, .int xq4)]) hx hb dX12_cases_76 rfl hl (by decide) rfl (fun ls hl => ?_)
        refine lv_iinc (v := (xq4 + 1)) (lv' := [(4, .int (xq4 + 1)), (3, .int vq4), (2, .int vq3), (0, .ref (ad 0))]) hx hb dX12_cases_77 hl (k := 3) rfl (by rfl) (by decide) rfl (fun ls hl => ?_)
        refine lv_goto (tgt := 32) hx hb dX12_cases_80 (by decide) ?_
        exact hkq32 vq3 vq4 (xq4 + 1) _ _ _ hw (lv_sub hl [3, 2, 1, 0] rfl) hf
      · replace hf := it_n h hf
        refine lv_aload_n hx hb dX12_cases_63 rfl (lv_at hl 1 rfl) ?_
        refine lv_iload hx hb dX12_cases_64 (lv_at hl 3 rfl) ?_
        obtain ⟨vq5, hc, hf⟩ := bd_e hf
        refine zcali hw (va_runV (As := [.int xq4]) (rest := [.int xq3]) E.fix (c_X12_caseOf (l := l) hA xq4 σ hc) (zcV E k7_72 k1_14 k7_69 k7_71 kp4_13 mf_X12_caseOf rfl rfl ⟨Nat.le_of_ble_eq_true rfl, Nat.le_of_ble_eq_true rfl⟩) (zPreV E hw (Nat.le_of_ble_eq_true rfl) (ceM_0 ad cy _) rfl _) rfl rfl hl.1 rfl (lv_room (Nat.le_of_ble_eq_true rfl)) dX12_cases_66 ⟨Nat.zero_le _, Nat.zero_le _⟩) (fun H locs hw => ?_)
        refine lv_iconst (v := (-1)) hx hb dX12_cases_69 (by decide) ?_
        refine lv_ixor hx hb dX12_cases_70 ?_
        refine lv_goto (tgt := 75) hx hb dX12_cases_71 (by decide) ?_
        refine lv_iand hx hb dX12_cases_75 ?_
        refine lv_topi (fun vq6 evq6 => ?_)
        replace hf := lt_i evq6 hf
        refine lv_istore_n (lv' := [(3, .int vq6), (2, .int vq3), (0, .ref (ad 0)), (4, .int xq4)]) hx hb dX12_cases_76 rfl hl (by decide) rfl (fun ls hl => ?_)
        refine lv_iinc (v := (xq4 + 1)) (lv' := [(4, .int (xq4 + 1)), (3, .int vq6), (2, .int vq3), (0, .ref (ad 0))]) hx hb dX12_cases_77 hl (k := 3) rfl (by rfl) (by decide) rfl (fun ls hl => ?_)
        refine lv_goto (tgt := 32) hx hb dX12_cases_80 (by decide) ?_
        exact hkq32 vq3 vq6 (xq4 + 1) _ _ _ hw (lv_sub hl [3, 2, 1, 0] rfl) hf
  have hL32 : ∀ (n : Nat) (xq2 : Int32) (xq3 : Int32) (xq4 : Int32) (H : Heap) (locs : List Loc) (ls : Array Slot), ZS D 17 (celM ad cy) ad A s σ H locs → lv_has ls 5 [(0, .ref (ad 0)), (2, .int xq2), (3, .int xq3), (4, .int xq4)] → f_X12_cases_l32 σ n xq2 xq3 xq4 = some r → W p l e ({ frames := 4, cells := 0, slots := 0, locals := 92 } : Room) s m args below meth c H locs 0 0 (MQ below (zQi D 17 (celM ad cy) ad A r σ) args s 0 0 A) (F0 m 32 ls []) := by
    intro n
    induction n with
    | zero =>
      intro xq2 xq3 xq4 H locs ls hw hl hf
      exact nn_e hf
    | succ n ih =>
      intro xq2 xq3 xq4 H locs ls hw hl hf
      exact hB32 (f_X12_cases_l32 σ n) ih xq2 xq3 xq4 H locs ls hw hl hf
  unfold f_X12_cases at hf
  refine lv_aload_n hx hb dX12_cases_0 rfl (lv_at hl 0 rfl) ?_
  refine lv_iload_n hx hb dX12_cases_1 rfl (lv_at hl 1 rfl) ?_
  refine zcali hw (va_runV (As := [.int xq1]) (rest := []) E.fix (c_X12_isKite (l := l) hA xq1 σ rfl) (zcV E k6_137 k1_14 k6_134 k6_136 kp3_7 mf_X12_isKite rfl rfl ⟨Nat.le_of_ble_eq_true rfl, Nat.le_of_ble_eq_true rfl⟩) (zPreV E hw (Nat.le_of_ble_eq_true rfl) (ceM_0 ad cy _) rfl _) rfl rfl hl.1 rfl (lv_room (Nat.le_of_ble_eq_true rfl)) dX12_cases_2 ⟨Nat.zero_le _, Nat.zero_le _⟩) (fun H locs hw => ?_)
  refine lv_if_eq (tgt := 14) hx hb dX12_cases_5 (by decide) (fun h => ?_) (fun h => ?_)
  · replace hf := it_f (b2i_0 h) hf
    refine lv_iload_n hx hb dX12_cases_14 rfl (lv_at hl 1 rfl) ?_
    refine lv_iconst (v := (-1)) hx hb dX12_cases_15 (by decide) ?_
    refine lv_icmp_eq (tgt := 21) hx hb dX12_cases_16 (by decide) (fun h => ?_) (fun h => ?_)
    · replace hf := it_t h hf
      refine lv_iconst (v := 0) hx hb dX12_cases_21 (by decide) ?_
      refine lv_istore_n (lv' := [(2, .int 0), (0, .ref (ad 0)), (1, .int xq1)]) hx hb dX12_cases_22 rfl hl (by decide) rfl (fun ls hl => ?_)
      refine lv_aload_n hx hb dX12_cases_23 rfl (lv_at hl 1 rfl) ?_
      refine lv_iconst (v := 4) hx hb dX12_cases_24 (by decide) ?_
      obtain ⟨vq1, hc, hf⟩ := bd_e hf
      refine zcali hw (va_runV (As := [.int 4]) (rest := []) E.fix (c_X12_those (l := l) hA 4 σ hc) (zcV E k6_234 k1_14 k6_231 k6_233 kp4_2 mf_X12_those rfl rfl ⟨Nat.le_of_ble_eq_true rfl, Nat.le_of_ble_eq_true rfl⟩) (zPreV E hw (Nat.le_of_ble_eq_true rfl) (ceM_0 ad cy _) rfl _) rfl rfl hl.1 rfl (lv_room (Nat.le_of_ble_eq_true rfl)) dX12_cases_25 ⟨Nat.zero_le _, Nat.zero_le _⟩) (fun H locs hw => ?_)
      refine lv_istore_n (lv' := [(3, .int vq1), (2, .int 0), (0, .ref (ad 0)), (1, .int xq1)]) hx hb dX12_cases_28 rfl hl (by decide) rfl (fun ls hl => ?_)
      refine lv_iconst (v := 0) hx hb dX12_cases_29 (by decide) ?_
      refine lv_istore (lv' := [(4, .int 0), (3, .int vq1), (2, .int 0), (0, .ref (ad 0)), (1, .int xq1)]) hx hb dX12_cases_30 hl (by decide) rfl (fun ls hl => ?_)
      exact hL32 400 0 vq1 0 _ _ _ hw (lv_sub hl [3, 2, 1, 0] rfl) hf
    · replace hf := it_f h hf
      refine lv_iconst (v := (-1)) hx hb dX12_cases_19 (by decide) ?_
      exact zreti E hw hr hlk (rt_1 hf) rfl dX12_cases_20
  · replace hf := it_t (b2i_n h) hf
    refine lv_aload_n hx hb dX12_cases_8 rfl (lv_at hl 0 rfl) ?_
    refine lv_iload_n hx hb dX12_cases_9 rfl (lv_at hl 1 rfl) ?_
    obtain ⟨vq2, hc, hf⟩ := bd_e hf
    refine zcali hw (va_runV (As := [.int xq1]) (rest := []) E.fix (c_X12_caseOf (l := l) hA xq1 σ hc) (zcV E k7_72 k1_14 k7_69 k7_71 kp4_13 mf_X12_caseOf rfl rfl ⟨Nat.le_of_ble_eq_true rfl, Nat.le_of_ble_eq_true rfl⟩) (zPreV E hw (Nat.le_of_ble_eq_true rfl) (ceM_0 ad cy _) rfl _) rfl rfl hl.1 rfl (lv_room (Nat.le_of_ble_eq_true rfl)) dX12_cases_10 ⟨Nat.zero_le _, Nat.zero_le _⟩) (fun H locs hw => ?_)
    exact zreti E hw hr hlk (rt_1 hf) rfl dX12_cases_13
set_option maxRecDepth 100000 in
set_option maxHeartbeats 4000000 in
theorem c_X12_steps_s {l : Launch} {D : va_G} {cy : Cy} {ad : Nat → Nat} {A : Nat → Prop} (hA : okAd 17 ad A) (rec : Int32 → Int32 → Sg → Option Int32) (d : Nat) (hrec : ∀ (xq1 : Int32) (xq2 : Int32) (σ : Sg) {r : Int32}, rec xq1 xq2 σ = some r → Met l yX12_steps (.code yX12_steps cX12_steps 6 (some .int) :: TT) ({ frames := 2 + 1 * d, cells := 0, slots := 0, locals := 43 + 25 * d } : Room) (zPc D cy 17 (celM ad cy) ad A [.ref (ad 0), .int xq1, .int xq2] σ) (zQi D 17 (celM ad cy) ad A r σ) 0 0 A) (xq1 : Int32) (xq2 : Int32) (σ : Sg) {r : Int32} (hf : f_X12_steps_s rec xq1 xq2 σ = some r) : Met l yX12_steps (.code yX12_steps cX12_steps 6 (some .int) :: TT) ({ frames := 2 + 1 * (d + 1), cells := 0, slots := 0, locals := 43 + 25 * (d + 1) } : Room) (zPc D cy 17 (celM ad cy) ad A [.ref (ad 0), .int xq1, .int xq2] σ) (zQi D 17 (celM ad cy) ad A r σ) 0 0 A := by
  refine zofW (by decide) hA (Nat.le_of_ble_eq_true rfl) ?_
  intro p e s m args below meth c ls E hw hr hlk hl
  have E : ZE p s m args c cX12_steps 6 "KiteSummonsModel" D cy 17 ad A := E
  have hx := E.hx
  have hb := E.hb
  have hl : lv_has ls 6 [(0, .ref (ad 0)), (1, .int xq1), (2, .int xq2)] := hl
  have hB13 : ∀ (xq1 : Int32) (xq2 : Int32) (kq13 : Int32 → Int32 → Option Int32) (hkq13 : ∀ (xq3 : Int32) (xq4 : Int32) (H : Heap) (locs : List Loc) (ls : Array Slot), ZS D 17 (celM ad cy) ad A s σ H locs → lv_has ls 6 [(0, .ref (ad 0)), (1, .int xq1), (2, .int xq2), (3, .int xq3), (4, .int xq4)] → kq13 xq3 xq4 = some r → W p l e ({ frames := 2 + 1 * (d + 1), cells := 0, slots := 0, locals := 43 + 25 * (d + 1) } : Room) s m args below meth c H locs 0 0 (MQ below (zQi D 17 (celM ad cy) ad A r σ) args s 0 0 A) (F0 m 13 ls [])) (xq3 : Int32) (xq4 : Int32) (H : Heap) (locs : List Loc) (ls : Array Slot), ZS D 17 (celM ad cy) ad A s σ H locs → lv_has ls 6 [(0, .ref (ad 0)), (1, .int xq1), (2, .int xq2), (3, .int xq3), (4, .int xq4)] → f_X12_steps_b13 rec kq13 xq1 xq2 σ xq3 xq4 = some r → W p l e ({ frames := 2 + 1 * (d + 1), cells := 0, slots := 0, locals := 43 + 25 * (d + 1) } : Room) s m args below meth c H locs 0 0 (MQ below (zQi D 17 (celM ad cy) ad A r σ) args s 0 0 A) (F0 m 13 ls []) := by
    intro xq1 xq2 kq13 hkq13 xq3 xq4 H locs ls hw hl hf
    unfold f_X12_steps_b13 at hf
    refine lv_iload hx hb dX12_steps_13 (lv_at hl 4 rfl) ?_
    refine lv_aload_n hx hb dX12_steps_15 rfl (lv_at hl 0 rfl) ?_
    refine zget E hw (Nat.le_of_ble_eq_true rfl) (ceM_0 ad cy _) rfl inX12 0 (by decide) k5_223 (fun _ h => h) rfl dX12_steps_16 ?_
    refine lv_iconst (v := 0) hx hb dX12_steps_19 (by decide) ?_
    refine zaldk E hw (Nat.le_of_ble_eq_true rfl) (ceM_1 ad cy) 0 (by rfl) (Nat.le_of_ble_eq_true rfl) (by decide) dX12_steps_20 ?_
    refine lv_icmp_ge (tgt := 90) hx hb dX12_steps_21 (by decide) (fun h => ?_) (fun h => ?_)
    · replace hf := it_t h hf
      refine lv_iload_n hx hb dX12_steps_90 rfl (lv_at hl 3 rfl) ?_
      exact zreti E hw hr hlk (rt_1 hf) rfl dX12_steps_91
    · replace hf := it_f h hf
      refine lv_iload_n hx hb dX12_steps_24 rfl (lv_at hl 2 rfl) ?_
      refine lv_iload hx hb dX12_steps_25 (lv_at hl 4 rfl) ?_
      refine zishr hx hb dX12_steps_27 ?_
      refine lv_iconst (v := 1) hx hb dX12_steps_28 (by decide) ?_
      refine lv_iand hx hb dX12_steps_29 ?_
      refine lv_iconst (v := 1) hx hb dX12_steps_30 (by decide) ?_
      refine lv_icmp_ne (tgt := 84) hx hb dX12_steps_31 (by decide) (fun h => ?_) (fun h => ?_)
      · replace hf := it_t h hf
        refine lv_iinc (v := (xq4 + 1)) (lv' := [(4, .int (xq4 + 1)), (0, .ref (ad 0)), (1, .int xq1), (2, .int xq2), (3, .int xq3)]) hx hb dX12_steps_84 hl (k := 4) rfl (by rfl) (by decide) rfl (fun ls hl => ?_)
        refine lv_goto (tgt := 13) hx hb dX12_steps_87 (by decide) ?_
        exact hkq13 xq3 (xq4 + 1) _ _ _ hw (lv_sub hl [1, 2, 3, 4, 0] rfl) hf
      · replace hf := it_n h hf
        refine lv_iload_n hx hb dX12_steps_34 rfl (lv_at hl 1 rfl) ?_
        refine lv_aload_n hx hb dX12_steps_35 rfl (lv_at hl 0 rfl) ?_
        refine lv_iload hx hb dX12_steps_36 (lv_at hl 4 rfl) ?_
        refine lv_iconst (v := 1) hx hb dX12_steps_38 (by decide) ?_
        obtain ⟨vq1, hc, hf⟩ := bd_e hf
        refine zcali hw (va_runV (As := [.int xq4, .int 1]) (rest := [.int xq1]) E.fix (c_X12_its (l := l) hA xq4 1 σ hc) (zcV E k6_145 k1_14 k6_142 k6_144 kp3_9 mf_X12_its rfl rfl ⟨by dsimp only; omega, by dsimp only; omega⟩) (zPreV E hw (Nat.le_of_ble_eq_true rfl) (ceM_0 ad cy _) rfl _) rfl rfl hl.1 rfl (lv_room (Nat.le_of_ble_eq_true rfl)) dX12_steps_39 ⟨Nat.zero_le _, Nat.zero_le _⟩) (fun H locs hw => ?_)
        refine zcali hw (va_runS (As := [.int xq1, .int vq1]) (rest := []) E.fix (c_X12_far (l := l) hA xq1 vq1 σ rfl) (zcS E k6_178 k1_14 k6_176 k6_177 mf_X12_far rfl rfl ⟨by dsimp only; omega, by dsimp only; omega⟩) (zPre E hw _) rfl rfl hl.1 rfl (lv_room (Nat.le_of_ble_eq_true rfl)) dX12_steps_42 ⟨Nat.zero_le _, Nat.zero_le _⟩) (fun H locs hw => ?_)
        refine lv_aload_n hx hb dX12_steps_45 rfl (lv_at hl 0 rfl) ?_
        refine lv_aload_n hx hb dX12_steps_46 rfl (lv_at hl 0 rfl) ?_
        refine lv_iload hx hb dX12_steps_47 (lv_at hl 4 rfl) ?_
        refine lv_iconst (v := 1) hx hb dX12_steps_49 (by decide) ?_
        obtain ⟨vq2, hc, hf⟩ := bd_e hf
        refine zcali hw (va_runV (As := [.int xq4, .int 1]) (rest := [.ref (ad 0), .int (f_X12_far xq1 vq1 σ)]) E.fix (c_X12_its (l := l) hA xq4 1 σ hc) (zcV E k6_145 k1_14 k6_142 k6_144 kp3_9 mf_X12_its rfl rfl ⟨by dsimp only; omega, by dsimp only; omega⟩) (zPreV E hw (Nat.le_of_ble_eq_true rfl) (ceM_0 ad cy _) rfl _) rfl rfl hl.1 rfl (lv_room (Nat.le_of_ble_eq_true rfl)) dX12_steps_50 ⟨Nat.zero_le _, Nat.zero_le _⟩) (fun H locs hw => ?_)
        refine lv_iload_n hx hb dX12_steps_53 rfl (lv_at hl 2 rfl) ?_
        refine lv_iconst (v := 1) hx hb dX12_steps_54 (by decide) ?_
        refine lv_iload hx hb dX12_steps_55 (lv_at hl 4 rfl) ?_
        refine zishl hx hb dX12_steps_57 ?_
        refine lv_iconst (v := (-1)) hx hb dX12_steps_58 (by decide) ?_
        refine lv_ixor hx hb dX12_steps_59 ?_
        refine lv_iand hx hb dX12_steps_60 ?_
        obtain ⟨vq3, hc, hf⟩ := bd_e hf
        refine zcali hw (va_runV (As := [.int vq2, .int (xq2 &&& ((shl32 1 xq4) ^^^ (-1)))]) (rest := [.int (f_X12_far xq1 vq1 σ)]) E.fix (hrec vq2 (xq2 &&& ((shl32 1 xq4) ^^^ (-1))) σ hc) (zcV E k7_84 k1_14 k7_81 k7_83 kp4_15 mf_X12_steps rfl rfl ⟨by dsimp only; omega, by dsimp only; omega⟩) (zPreV E hw (Nat.le_of_ble_eq_true rfl) (ceM_0 ad cy _) rfl _) rfl rfl hl.1 rfl (lv_room (Nat.le_of_ble_eq_true rfl)) dX12_steps_61 ⟨Nat.zero_le _, Nat.zero_le _⟩) (fun H locs hw => ?_)
        refine lv_iadd hx hb dX12_steps_64 ?_
        refine lv_topi (fun vq4 evq4 => ?_)
        replace hf := lt_i evq4 hf
        refine lv_istore (lv' := [(5, .int vq4), (0, .ref (ad 0)), (1, .int xq1), (2, .int xq2), (3, .int xq3), (4, .int xq4)]) hx hb dX12_steps_65 hl (by decide) rfl (fun ls hl => ?_)
        refine lv_iload_n hx hb dX12_steps_67 rfl (lv_at hl 4 rfl) ?_
        refine lv_if_lt (tgt := 77) hx hb dX12_steps_68 (by decide) (fun h => ?_) (fun h => ?_)
        · replace hf := it_t h hf
          refine lv_iload hx hb dX12_steps_77 (lv_at hl 0 rfl) ?_
          refine lv_goto (tgt := 83) hx hb dX12_steps_79 (by decide) ?_
          refine lv_istore_n (lv' := [(3, .int vq4), (5, .int vq4), (0, .ref (ad 0)), (1, .int xq1), (2, .int xq2), (4, .int xq4)]) hx hb dX12_steps_83 rfl hl (by decide) rfl (fun ls hl => ?_)
          refine lv_iinc (v := (xq4 + 1)) (lv' := [(4, .int (xq4 + 1)), (3, .int vq4), (5, .int vq4), (0, .ref (ad 0)), (1, .int xq1), (2, .int xq2)]) hx hb dX12_steps_84 hl (k := 5) rfl (by rfl) (by decide) rfl (fun ls hl => ?_)
          refine lv_goto (tgt := 13) hx hb dX12_steps_87 (by decide) ?_
          exact hkq13 vq4 (xq4 + 1) _ _ _ hw (lv_sub hl [3, 4, 5, 1, 0] rfl) hf
        · replace hf := it_f h hf
          refine lv_iload hx hb dX12_steps_71 (lv_at hl 0 rfl) ?_
          refine lv_iload_n hx hb dX12_steps_73 rfl (lv_at hl 4 rfl) ?_
          refine lv_icmp_ge (tgt := 82) hx hb dX12_steps_74 (by decide) (fun h => ?_) (fun h => ?_)
          · replace hf := it_t h hf
            refine lv_iload_n hx hb dX12_steps_82 rfl (lv_at hl 4 rfl) ?_
            refine lv_istore_n (lv' := [(3, .int xq3), (5, .int vq4), (0, .ref (ad 0)), (1, .int xq1), (2, .int xq2), (4, .int xq4)]) hx hb dX12_steps_83 rfl hl (by decide) rfl (fun ls hl => ?_)
            refine lv_iinc (v := (xq4 + 1)) (lv' := [(4, .int (xq4 + 1)), (3, .int xq3), (5, .int vq4), (0, .ref (ad 0)), (1, .int xq1), (2, .int xq2)]) hx hb dX12_steps_84 hl (k := 5) rfl (by rfl) (by decide) rfl (fun ls hl => ?_)
            refine lv_goto (tgt := 13) hx hb dX12_steps_87 (by decide) ?_
            exact hkq13 xq3 (xq4 + 1) _ _ _ hw (lv_sub hl [3, 4, 5, 1, 0] rfl) hf
          · replace hf := it_f h hf
            refine lv_iload hx hb dX12_steps_77 (lv_at hl 0 rfl) ?_
            refine lv_goto (tgt := 83) hx hb dX12_steps_79 (by decide) ?_
            refine lv_istore_n (lv' := [(3, .int vq4), (5, .int vq4), (0, .ref (ad 0)), (1, .int xq1), (2, .int xq2), (4, .int xq4)]) hx hb dX12_steps_83 rfl hl (by decide) rfl (fun ls hl => ?_)
            refine lv_iinc (v := (xq4 + 1)) (lv' := [(4, .int (xq4 + 1)), (3, .int vq4), (5, .int vq4), (0, .ref (ad 0)), (1, .int xq1), (2, .int xq2)]) hx hb dX12_steps_84 hl (k := 5) rfl (by rfl) (by decide) rfl (fun ls hl => ?_)
            refine lv_goto (tgt := 13) hx hb dX12_steps_87 (by decide) ?_
            exact hkq13 vq4 (xq4 + 1) _ _ _ hw (lv_sub hl [3, 4, 5, 1, 0] rfl) hf
  have hL13 : ∀ (xq1 : Int32) (xq2 : Int32) (n : Nat) (xq3 : Int32) (xq4 : Int32) (H : Heap) (locs : List Loc) (ls : Array Slot), ZS D 17 (celM ad cy) ad A s σ H locs → lv_has ls 6 [(0, .ref (ad 0)), (1, .int xq1), (2, .int xq2), (3, .int xq3), (4, .int xq4)] → f_X12_steps_l13 rec xq1 xq2 σ n xq3 xq4 = some r → W p l e ({ frames := 2 + 1 * (d + 1), cells := 0, slots := 0, locals := 43 + 25 * (d + 1) } : Room) s m args below meth c H locs 0 0 (MQ below (zQi D 17 (celM ad cy) ad A r σ) args s 0 0 A) (F0 m 13 ls []) := by
    intro xq1 xq2 n
    induction n with
    | zero =>
      intro xq3 xq4 H locs ls hw hl hf
      exact nn_e hf
    | succ n ih =>
      intro xq3 xq4 H locs ls hw hl hf
      exact hB13 xq1 xq2 (f_X12_steps_l13 rec xq1 xq2 σ n) ih xq3 xq4 H locs ls hw hl hf
  unfold f_X12_steps_s at hf
  refine lv_iload_n hx hb dX12_steps_0 rfl (lv_at hl 2 rfl) ?_
  refine lv_if_ne (tgt := 8) hx hb dX12_steps_1 (by decide) (fun h => ?_) (fun h => ?_)
  · replace hf := it_t h hf
    refine lv_iconst (v := (-1)) hx hb dX12_steps_8 (by decide) ?_
    refine lv_istore_n (lv' := [(3, .int (-1)), (0, .ref (ad 0)), (1, .int xq1), (2, .int xq2)]) hx hb dX12_steps_9 rfl hl (by decide) rfl (fun ls hl => ?_)
    refine lv_iconst (v := 0) hx hb dX12_steps_10 (by decide) ?_
    refine lv_istore (lv' := [(4, .int 0), (3, .int (-1)), (0, .ref (ad 0)), (1, .int xq1), (2, .int xq2)]) hx hb dX12_steps_11 hl (by decide) rfl (fun ls hl => ?_)
    exact hL13 xq1 xq2 400 (-1) 0 _ _ _ hw (lv_sub hl [2, 3, 4, 1, 0] rfl) hf
  · replace hf := it_n h hf
    refine lv_iconst (v := 0) hx hb dX12_steps_4 (by decide) ?_
    refine lv_goto (tgt := 9) hx hb dX12_steps_5 (by decide) ?_
    refine lv_istore_n (lv' := [(3, .int 0), (0, .ref (ad 0)), (1, .int xq1), (2, .int xq2)]) hx hb dX12_steps_9 rfl hl (by decide) rfl (fun ls hl => ?_)
    refine lv_iconst (v := 0) hx hb dX12_steps_10 (by decide) ?_
    refine lv_istore (lv' := [(4, .int 0), (3, .int 0), (0, .ref (ad 0)), (1, .int xq1), (2, .int xq2)]) hx hb dX12_steps_11 hl (by decide) rfl (fun ls hl => ?_)
    exact hL13 xq1 xq2 400 0 0 _ _ _ hw (lv_sub hl [2, 3, 4, 1, 0] rfl) hf
theorem c_X12_steps {l : Launch} {D : va_G} {cy : Cy} {ad : Nat → Nat} {A : Nat → Prop} (hA : okAd 17 ad A) : ∀ (d : Nat) (xq1 : Int32) (xq2 : Int32) (σ : Sg) {r : Int32}, f_X12_steps d xq1 xq2 σ = some r → Met l yX12_steps (.code yX12_steps cX12_steps 6 (some .int) :: TT) ({ frames := 2 + 1 * d, cells := 0, slots := 0, locals := 43 + 25 * d } : Room) (zPc D cy 17 (celM ad cy) ad A [.ref (ad 0), .int xq1, .int xq2] σ) (zQi D 17 (celM ad cy) ad A r σ) 0 0 A := by
  intro d
  induction d with
  | zero =>
    intro xq1 xq2 σ r hf
    exact nn_e hf
  | succ d ih =>
    intro xq1 xq2 σ r hf
    exact c_X12_steps_s hA (f_X12_steps d) d ih xq1 xq2 σ hf
set_option maxRecDepth 100000 in
set_option maxHeartbeats 4000000 in
theorem c_X12_circuit {l : Launch} {D : va_G} {cy : Cy} {ad : Nat → Nat} {A : Nat → Prop} (hA : okAd 17 ad A) (xq1 : Int32) (xq2 : Int32) (σ : Sg) {r : Int32} (hf : f_X12_circuit xq1 xq2 σ = some r) : Met l yX12_circuit (.code yX12_circuit cX12_circuit 6 (some .int) :: TT) ({ frames := 11, cells := 0, slots := 0, locals := 268 } : Room) (zPc D cy 17 (celM ad cy) ad A [.ref (ad 0), .int xq1, .int xq2] σ) (zQi D 17 (celM ad cy) ad A r σ) 0 0 A := by
  refine zofW (by decide) hA (Nat.le_of_ble_eq_true rfl) ?_
  intro p e s m args below meth c ls E hw hr hlk hl
  have E : ZE p s m args c cX12_circuit 6 "KiteSummonsModel" D cy 17 ad A := E
  have hx := E.hx
  have hb := E.hb
  have hl : lv_has ls 6 [(0, .ref (ad 0)), (1, .int xq1), (2, .int xq2)] := hl
  have hB56 : ∀ (xq1 : Int32) (xq3 : Int32) (xq4 : Int32) (kq56 : Int32 → Option Int32) (hkq56 : ∀ (xq5 : Int32) (H : Heap) (locs : List Loc) (ls : Array Slot), ZS D 17 (celM ad cy) ad A s σ H locs → lv_has ls 6 [(0, .ref (ad 0)), (1, .int xq1), (3, .int xq3), (4, .int xq4), (5, .int xq5)] → kq56 xq5 = some r → W p l e ({ frames := 11, cells := 0, slots := 0, locals := 268 } : Room) s m args below meth c H locs 0 0 (MQ below (zQi D 17 (celM ad cy) ad A r σ) args s 0 0 A) (F0 m 56 ls [])) (xq5 : Int32) (H : Heap) (locs : List Loc) (ls : Array Slot), ZS D 17 (celM ad cy) ad A s σ H locs → lv_has ls 6 [(0, .ref (ad 0)), (1, .int xq1), (3, .int xq3), (4, .int xq4), (5, .int xq5)] → f_X12_circuit_b56 kq56 xq1 xq3 xq4 σ xq5 = some r → W p l e ({ frames := 11, cells := 0, slots := 0, locals := 268 } : Room) s m args below meth c H locs 0 0 (MQ below (zQi D 17 (celM ad cy) ad A r σ) args s 0 0 A) (F0 m 56 ls []) := by
    intro xq1 xq3 xq4 kq56 hkq56 xq5 H locs ls hw hl hf
    unfold f_X12_circuit_b56 at hf
    refine lv_iload hx hb dX12_circuit_56 (lv_at hl 4 rfl) ?_
    refine lv_aload_n hx hb dX12_circuit_58 rfl (lv_at hl 0 rfl) ?_
    refine zget E hw (Nat.le_of_ble_eq_true rfl) (ceM_0 ad cy _) rfl inX12 0 (by decide) k5_223 (fun _ h => h) rfl dX12_circuit_59 ?_
    refine lv_iconst (v := 0) hx hb dX12_circuit_62 (by decide) ?_
    refine zaldk E hw (Nat.le_of_ble_eq_true rfl) (ceM_1 ad cy) 0 (by rfl) (Nat.le_of_ble_eq_true rfl) (by decide) dX12_circuit_63 ?_
    refine lv_icmp_ge (tgt := 122) hx hb dX12_circuit_64 (by decide) (fun h => ?_) (fun h => ?_)
    · replace hf := it_t h hf
      refine lv_bipush (v := (-3)) hx hb dX12_circuit_122 (by decide) ?_
      exact zreti E hw hr hlk (rt_1 hf) rfl dX12_circuit_124
    · replace hf := it_f h hf
      refine lv_iload_n hx hb dX12_circuit_67 rfl (lv_at hl 2 rfl) ?_
      refine lv_iload hx hb dX12_circuit_68 (lv_at hl 4 rfl) ?_
      refine zishr hx hb dX12_circuit_70 ?_
      refine lv_iconst (v := 1) hx hb dX12_circuit_71 (by decide) ?_
      refine lv_iand hx hb dX12_circuit_72 ?_
      refine lv_iconst (v := 1) hx hb dX12_circuit_73 (by decide) ?_
      refine lv_icmp_ne (tgt := 116) hx hb dX12_circuit_74 (by decide) (fun h => ?_) (fun h => ?_)
      · replace hf := it_t h hf
        refine lv_iinc (v := (xq5 + 1)) (lv' := [(5, .int (xq5 + 1)), (0, .ref (ad 0)), (1, .int xq1), (3, .int xq3), (4, .int xq4)]) hx hb dX12_circuit_116 hl (k := 4) rfl (by rfl) (by decide) rfl (fun ls hl => ?_)
        refine lv_goto (tgt := 56) hx hb dX12_circuit_119 (by decide) ?_
        exact hkq56 (xq5 + 1) _ _ _ hw (lv_sub hl [1, 2, 3, 4, 0] rfl) hf
      · replace hf := it_n h hf
        refine lv_iload_n hx hb dX12_circuit_77 rfl (lv_at hl 1 rfl) ?_
        refine lv_aload_n hx hb dX12_circuit_78 rfl (lv_at hl 0 rfl) ?_
        refine lv_iload hx hb dX12_circuit_79 (lv_at hl 4 rfl) ?_
        refine lv_iconst (v := 1) hx hb dX12_circuit_81 (by decide) ?_
        obtain ⟨vq4, hc, hf⟩ := bd_e hf
        refine zcali hw (va_runV (As := [.int xq5, .int 1]) (rest := [.int xq1]) E.fix (c_X12_its (l := l) hA xq5 1 σ hc) (zcV E k6_145 k1_14 k6_142 k6_144 kp3_9 mf_X12_its rfl rfl ⟨Nat.le_of_ble_eq_true rfl, Nat.le_of_ble_eq_true rfl⟩) (zPreV E hw (Nat.le_of_ble_eq_true rfl) (ceM_0 ad cy _) rfl _) rfl rfl hl.1 rfl (lv_room (Nat.le_of_ble_eq_true rfl)) dX12_circuit_82 ⟨Nat.zero_le _, Nat.zero_le _⟩) (fun H locs hw => ?_)
        refine zcali hw (va_runS (As := [.int xq1, .int vq4]) (rest := []) E.fix (c_X12_far (l := l) hA xq1 vq4 σ rfl) (zcS E k6_178 k1_14 k6_176 k6_177 mf_X12_far rfl rfl ⟨Nat.le_of_ble_eq_true rfl, Nat.le_of_ble_eq_true rfl⟩) (zPre E hw _) rfl rfl hl.1 rfl (lv_room (Nat.le_of_ble_eq_true rfl)) dX12_circuit_85 ⟨Nat.zero_le _, Nat.zero_le _⟩) (fun H locs hw => ?_)
        refine lv_aload_n hx hb dX12_circuit_88 rfl (lv_at hl 0 rfl) ?_
        refine lv_aload_n hx hb dX12_circuit_89 rfl (lv_at hl 0 rfl) ?_
        refine lv_iload hx hb dX12_circuit_90 (lv_at hl 4 rfl) ?_
        refine lv_iconst (v := 1) hx hb dX12_circuit_92 (by decide) ?_
        obtain ⟨vq5, hc, hf⟩ := bd_e hf
        refine zcali hw (va_runV (As := [.int xq5, .int 1]) (rest := [.ref (ad 0), .int (f_X12_far xq1 vq4 σ)]) E.fix (c_X12_its (l := l) hA xq5 1 σ hc) (zcV E k6_145 k1_14 k6_142 k6_144 kp3_9 mf_X12_its rfl rfl ⟨Nat.le_of_ble_eq_true rfl, Nat.le_of_ble_eq_true rfl⟩) (zPreV E hw (Nat.le_of_ble_eq_true rfl) (ceM_0 ad cy _) rfl _) rfl rfl hl.1 rfl (lv_room (Nat.le_of_ble_eq_true rfl)) dX12_circuit_93 ⟨Nat.zero_le _, Nat.zero_le _⟩) (fun H locs hw => ?_)
        refine lv_iload_n hx hb dX12_circuit_96 rfl (lv_at hl 2 rfl) ?_
        refine lv_iconst (v := 1) hx hb dX12_circuit_97 (by decide) ?_
        refine lv_iload hx hb dX12_circuit_98 (lv_at hl 4 rfl) ?_
        refine zishl hx hb dX12_circuit_100 ?_
        refine lv_iconst (v := (-1)) hx hb dX12_circuit_101 (by decide) ?_
        refine lv_ixor hx hb dX12_circuit_102 ?_
        refine lv_iand hx hb dX12_circuit_103 ?_
        obtain ⟨vq6, hc, hf⟩ := bd_e hf
        refine zcali hw (va_runV (As := [.int vq5, .int (xq3 &&& ((shl32 1 xq5) ^^^ (-1)))]) (rest := [.int (f_X12_far xq1 vq4 σ)]) E.fix (c_X12_steps (l := l) hA 8 vq5 (xq3 &&& ((shl32 1 xq5) ^^^ (-1))) σ hc) (zcV E k7_84 k1_14 k7_81 k7_83 kp4_15 mf_X12_steps rfl rfl ⟨Nat.le_of_ble_eq_true rfl, Nat.le_of_ble_eq_true rfl⟩) (zPreV E hw (Nat.le_of_ble_eq_true rfl) (ceM_0 ad cy _) rfl _) rfl rfl hl.1 rfl (lv_room (Nat.le_of_ble_eq_true rfl)) dX12_circuit_104 ⟨Nat.zero_le _, Nat.zero_le _⟩) (fun H locs hw => ?_)
        refine lv_iadd hx hb dX12_circuit_107 ?_
        refine lv_iload hx hb dX12_circuit_108 (lv_at hl 3 rfl) ?_
        refine lv_icmp_ne (tgt := 116) hx hb dX12_circuit_110 (by decide) (fun h => ?_) (fun h => ?_)
        · replace hf := it_t h hf
          refine lv_iinc (v := (xq5 + 1)) (lv' := [(5, .int (xq5 + 1)), (0, .ref (ad 0)), (1, .int xq1), (3, .int xq3), (4, .int xq4)]) hx hb dX12_circuit_116 hl (k := 4) rfl (by rfl) (by decide) rfl (fun ls hl => ?_)
          refine lv_goto (tgt := 56) hx hb dX12_circuit_119 (by decide) ?_
          exact hkq56 (xq5 + 1) _ _ _ hw (lv_sub hl [1, 2, 3, 4, 0] rfl) hf
        · replace hf := it_n h hf
          refine lv_iload hx hb dX12_circuit_113 (lv_at hl 4 rfl) ?_
          exact zreti E hw hr hlk (rt_1 hf) rfl dX12_circuit_115
  have hL56 : ∀ (xq1 : Int32) (xq3 : Int32) (xq4 : Int32) (n : Nat) (xq5 : Int32) (H : Heap) (locs : List Loc) (ls : Array Slot), ZS D 17 (celM ad cy) ad A s σ H locs → lv_has ls 6 [(0, .ref (ad 0)), (1, .int xq1), (3, .int xq3), (4, .int xq4), (5, .int xq5)] → f_X12_circuit_l56 xq1 xq3 xq4 σ n xq5 = some r → W p l e ({ frames := 11, cells := 0, slots := 0, locals := 268 } : Room) s m args below meth c H locs 0 0 (MQ below (zQi D 17 (celM ad cy) ad A r σ) args s 0 0 A) (F0 m 56 ls []) := by
    intro xq1 xq3 xq4 n
    induction n with
    | zero =>
      intro xq5 H locs ls hw hl hf
      exact nn_e hf
    | succ n ih =>
      intro xq5 H locs ls hw hl hf
      exact hB56 xq1 xq3 xq4 (f_X12_circuit_l56 xq1 xq3 xq4 σ n) ih xq5 H locs ls hw hl hf
  unfold f_X12_circuit at hf
  refine lv_iload_n hx hb dX12_circuit_0 rfl (lv_at hl 1 rfl) ?_
  refine zcali hw (va_runS (As := [.int xq1]) (rest := []) E.fix (c_X12_isCell (l := l) hA xq1 σ rfl) (zcS E k6_120 k1_14 k6_118 k6_119 mf_X12_isCell rfl rfl ⟨Nat.le_of_ble_eq_true rfl, Nat.le_of_ble_eq_true rfl⟩) (zPre E hw _) rfl rfl hl.1 rfl (lv_room (Nat.le_of_ble_eq_true rfl)) dX12_circuit_1 ⟨Nat.zero_le _, Nat.zero_le _⟩) (fun H locs hw => ?_)
  refine lv_if_eq (tgt := 17) hx hb dX12_circuit_4 (by decide) (fun h => ?_) (fun h => ?_)
  · replace hf := it_f (b2i_0 h) hf
    refine lv_iconst (v := (-1)) hx hb dX12_circuit_17 (by decide) ?_
    exact zreti E hw hr hlk (rt_1 hf) rfl dX12_circuit_18
  · replace hf := it_t (b2i_n h) hf
    refine lv_iload_n hx hb dX12_circuit_7 rfl (lv_at hl 2 rfl) ?_
    refine lv_i2l hx hb dX12_circuit_8 rfl ?_
    refine lv_lconst (v := 0) hx hb dX12_circuit_9 (by decide) ?_
    refine lv_lconst (v := 1) hx hb dX12_circuit_10 (by decide) ?_
    refine zcali hw (va_runS (As := [.long xq2.toInt64, .long (0 : Int64), .long (1 : Int64)]) (rest := []) E.fix (c_X12_in (l := l) hA xq2.toInt64 (0 : Int64) (1 : Int64) σ rfl) (zcS E k6_114 k1_14 k6_112 k6_113 mf_X12_in rfl rfl ⟨Nat.le_of_ble_eq_true rfl, Nat.le_of_ble_eq_true rfl⟩) (zPre E hw _) rfl rfl hl.1 rfl (lv_room (Nat.le_of_ble_eq_true rfl)) dX12_circuit_11 ⟨Nat.zero_le _, Nat.zero_le _⟩) (fun H locs hw => ?_)
    refine lv_if_ne (tgt := 19) hx hb dX12_circuit_14 (by decide) (fun h => ?_) (fun h => ?_)
    · replace hf := it_t (b2i_n h) hf
      refine lv_iconst (v := 1) hx hb dX12_circuit_19 (by decide) ?_
      refine lv_aload_n hx hb dX12_circuit_20 rfl (lv_at hl 0 rfl) ?_
      refine zget E hw (Nat.le_of_ble_eq_true rfl) (ceM_0 ad cy _) rfl inX12 0 (by decide) k5_223 (fun _ h => h) rfl dX12_circuit_21 ?_
      refine lv_iconst (v := 0) hx hb dX12_circuit_24 (by decide) ?_
      refine zaldk E hw (Nat.le_of_ble_eq_true rfl) (ceM_1 ad cy) 0 (by rfl) (Nat.le_of_ble_eq_true rfl) (by decide) dX12_circuit_25 ?_
      refine zishl hx hb dX12_circuit_26 ?_
      refine lv_iconst (v := 1) hx hb dX12_circuit_27 (by decide) ?_
      refine lv_isub hx hb dX12_circuit_28 ?_
      refine lv_aload_n hx hb dX12_circuit_29 rfl (lv_at hl 0 rfl) ?_
      refine lv_iconst (v := 4) hx hb dX12_circuit_30 (by decide) ?_
      obtain ⟨vq1, hc, hf⟩ := bd_e hf
      refine zcali hw (va_runV (As := [.int 4]) (rest := [.int ((shl32 1 (σ 1 0)) - 1)]) E.fix (c_X12_those (l := l) hA 4 σ hc) (zcV E k6_234 k1_14 k6_231 k6_233 kp4_2 mf_X12_those rfl rfl ⟨Nat.le_of_ble_eq_true rfl, Nat.le_of_ble_eq_true rfl⟩) (zPreV E hw (Nat.le_of_ble_eq_true rfl) (ceM_0 ad cy _) rfl _) rfl rfl hl.1 rfl (lv_room (Nat.le_of_ble_eq_true rfl)) dX12_circuit_31 ⟨Nat.zero_le _, Nat.zero_le _⟩) (fun H locs hw => ?_)
      refine lv_iconst (v := (-1)) hx hb dX12_circuit_34 (by decide) ?_
      refine lv_ixor hx hb dX12_circuit_35 ?_
      refine lv_iand hx hb dX12_circuit_36 ?_
      refine lv_topi (fun vq2 evq2 => ?_)
      replace hf := lt_i evq2 hf
      refine lv_istore_n (lv' := [(3, .int vq2), (0, .ref (ad 0)), (1, .int xq1), (2, .int xq2)]) hx hb dX12_circuit_37 rfl hl (by decide) rfl (fun ls hl => ?_)
      refine lv_aload_n hx hb dX12_circuit_38 rfl (lv_at hl 1 rfl) ?_
      refine lv_iload_n hx hb dX12_circuit_39 rfl (lv_at hl 2 rfl) ?_
      refine lv_iload_n hx hb dX12_circuit_40 rfl (lv_at hl 0 rfl) ?_
      obtain ⟨vq3, hc, hf⟩ := bd_e hf
      refine zcali hw (va_runV (As := [.int xq1, .int vq2]) (rest := []) E.fix (c_X12_steps (l := l) hA 8 xq1 vq2 σ hc) (zcV E k7_84 k1_14 k7_81 k7_83 kp4_15 mf_X12_steps rfl rfl ⟨Nat.le_of_ble_eq_true rfl, Nat.le_of_ble_eq_true rfl⟩) (zPreV E hw (Nat.le_of_ble_eq_true rfl) (ceM_0 ad cy _) rfl _) rfl rfl hl.1 rfl (lv_room (Nat.le_of_ble_eq_true rfl)) dX12_circuit_41 ⟨Nat.zero_le _, Nat.zero_le _⟩) (fun H locs hw => ?_)
      refine lv_istore (lv' := [(4, .int vq3), (3, .int vq2), (0, .ref (ad 0)), (1, .int xq1), (2, .int xq2)]) hx hb dX12_circuit_44 hl (by decide) rfl (fun ls hl => ?_)
      refine lv_iload_n hx hb dX12_circuit_46 rfl (lv_at hl 4 rfl) ?_
      refine lv_if_ne (tgt := 53) hx hb dX12_circuit_47 (by decide) (fun h => ?_) (fun h => ?_)
      · replace hf := it_t h hf
        refine lv_iconst (v := 0) hx hb dX12_circuit_53 (by decide) ?_
        refine lv_istore (lv' := [(5, .int 0), (4, .int vq3), (3, .int vq2), (0, .ref (ad 0)), (1, .int xq1), (2, .int xq2)]) hx hb dX12_circuit_54 hl (by decide) rfl (fun ls hl => ?_)
        exact hL56 xq1 vq2 vq3 400 0 _ _ _ hw (lv_sub hl [3, 4, 2, 1, 0] rfl) hf
      · replace hf := it_n h hf
        refine lv_iload hx hb dX12_circuit_50 (lv_at hl 0 rfl) ?_
        exact zreti E hw hr hlk (rt_1 hf) rfl dX12_circuit_52
    · replace hf := it_f (b2i_0 h) hf
      refine lv_iconst (v := (-1)) hx hb dX12_circuit_17 (by decide) ?_
      exact zreti E hw hr hlk (rt_1 hf) rfl dX12_circuit_18
set_option maxRecDepth 100000 in
set_option maxHeartbeats 4000000 in
theorem c_X12_isLong {l : Launch} {D : va_G} {cy : Cy} {ad : Nat → Nat} {A : Nat → Prop} (hA : okAd 17 ad A) (xq0 : Int32) (σ : Sg) {r : Bool} (hf : f_X12_isLong xq0 σ = r) : Met l yX12_isLong (.code yX12_isLong cX12_isLong 1 (some .boolean) :: TT) ({ frames := 1, cells := 0, slots := 0, locals := 25 } : Room) (zPc D cy 17 (celM ad cy) ad A [.int xq0] σ) (zQi D 17 (celM ad cy) ad A (b2i r) σ) 0 0 A := by
  refine zofW (by decide) hA (Nat.le_of_ble_eq_true rfl) ?_
  intro p e s m args below meth c ls E hw hr hlk hl
  have E : ZE p s m args c cX12_isLong 1 "KiteSummonsModel" D cy 17 ad A := E
  have hx := E.hx
  have hb := E.hb
  have hl : lv_has ls 1 [(0, .int xq0)] := hl
  unfold f_X12_isLong at hf
  refine lv_iload_n hx hb dX12_isLong_0 rfl (lv_at hl 0 rfl) ?_
  refine lv_i2l hx hb dX12_isLong_1 rfl ?_
  refine lv_lconst (v := 0) hx hb dX12_isLong_2 (by decide) ?_
  refine lv_ldc2 (v := 4) hx hb E.hown (E.ht _ k6_126) dX12_isLong_3 ?_
  refine zcali hw (va_runS (As := [.long xq0.toInt64, .long (0 : Int64), .long (4 : Int64)]) (rest := []) E.fix (c_X12_in (l := l) hA xq0.toInt64 (0 : Int64) (4 : Int64) σ rfl) (zcS E k6_114 k1_14 k6_112 k6_113 mf_X12_in rfl rfl ⟨Nat.le_of_ble_eq_true rfl, Nat.le_of_ble_eq_true rfl⟩) (zPre E hw _) rfl rfl hl.1 rfl (lv_room (Nat.le_of_ble_eq_true rfl)) dX12_isLong_6 ⟨Nat.zero_le _, Nat.zero_le _⟩) (fun H locs hw => ?_)
  exact zretz E hw hr hlk (b_e hf (by rfl)) rfl dX12_isLong_9
