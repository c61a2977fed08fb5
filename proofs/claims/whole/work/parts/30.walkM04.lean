set_option maxRecDepth 100000 in
set_option maxHeartbeats 4000000 in
theorem c_X12_ended {l : Launch} {D : va_G} {cy : Cy} {ad : Nat → Nat} {A : Nat → Prop} (hA : okAd 17 ad A) (xq1 : Int32) (xq2 : Int32) (σ : Sg) {σ9 : Sg} (hf : f_X12_ended xq1 xq2 σ = some σ9) : Met l yX12_ended (.code yX12_ended cX12_ended 5 none :: TT) ({ frames := 3, cells := 0, slots := 0, locals := 66 } : Room) (zPc D cy 17 (celM ad cy) ad A [.ref (ad 0), .int xq1, .int xq2] σ) (zQv D 17 (celM ad cy) ad A σ9) 0 0 A := by
  refine zofW (by decide) hA (Nat.le_of_ble_eq_true rfl) ?_
  intro p e s m args below meth c ls E hw hr hlk hl
  have E : ZE p s m args c cX12_ended 5 "KiteSummonsModel" D cy 17 ad A := E
  have hx := E.hx
  have hb := E.hb
  have hl : lv_has ls 5 [(0, .ref (ad 0)), (1, .int xq1), (2, .int xq2)] := hl
  have hB75 : ∀ (xq1 : Int32) (kq75 : Int32 → Int32 → Sg → Option Sg) (hkq75 : ∀ (xq3 : Int32) (xq4 : Int32) (σ : Sg) (H : Heap) (locs : List Loc) (ls : Array Slot), ZS D 17 (celM ad cy) ad A s σ H locs → lv_has ls 5 [(0, .ref (ad 0)), (1, .int xq1), (3, .int xq3), (4, .int xq4)] → kq75 xq3 xq4 σ = some σ9 → W p l e ({ frames := 3, cells := 0, slots := 0, locals := 66 } : Room) s m args below meth c H locs 0 0 (MQ below (zQv D 17 (celM ad cy) ad A σ9) args s 0 0 A) (F0 m 75 ls [])) (xq3 : Int32) (xq4 : Int32) (σ : Sg) (H : Heap) (locs : List Loc) (ls : Array Slot), ZS D 17 (celM ad cy) ad A s σ H locs → lv_has ls 5 [(0, .ref (ad 0)), (1, .int xq1), (3, .int xq3), (4, .int xq4)] → f_X12_ended_b75 kq75 xq1 xq3 xq4 σ = some σ9 → W p l e ({ frames := 3, cells := 0, slots := 0, locals := 66 } : Room) s m args below meth c H locs 0 0 (MQ below (zQv D 17 (celM ad cy) ad A σ9) args s 0 0 A) (F0 m 75 ls []) := by
    intro xq1 kq75 hkq75 xq3 xq4 σ H locs ls hw hl hf
    unfold f_X12_ended_b75 at hf
    refine lv_iload hx hb dX12_ended_75 (lv_at hl 3 rfl) ?_
    refine lv_iload_n hx hb dX12_ended_77 rfl (lv_at hl 1 rfl) ?_
    refine lv_icmp_ge (tgt := 105) hx hb dX12_ended_78 (by decide) (fun h => ?_) (fun h => ?_)
    · replace hf := it_t h hf
      refine lv_aload_n hx hb dX12_ended_105 rfl (lv_at hl 0 rfl) ?_
      refine lv_iconst (v := 5) hx hb dX12_ended_106 (by decide) ?_
      obtain ⟨vq7, hc, hf⟩ := bd_e hf
      refine zcali hw (va_runV (As := [.int 5]) (rest := []) E.fix (c_X12_those (l := l) hA 5 σ hc) (zcV E k6_234 k1_14 k6_231 k6_233 kp4_2 mf_X12_those rfl rfl ⟨Nat.le_of_ble_eq_true rfl, Nat.le_of_ble_eq_true rfl⟩) (zPreV E hw (Nat.le_of_ble_eq_true rfl) (ceM_0 ad cy _) rfl _) rfl rfl hl.1 rfl (lv_room (Nat.le_of_ble_eq_true rfl)) dX12_ended_107 ⟨Nat.zero_le _, Nat.zero_le _⟩) (fun H locs hw => ?_)
      refine lv_istore (lv' := [(4, .int vq7), (0, .ref (ad 0)), (1, .int xq1), (3, .int xq3)]) hx hb dX12_ended_110 hl (by decide) rfl (fun ls hl => ?_)
      refine lv_aload_n hx hb dX12_ended_112 rfl (lv_at hl 1 rfl) ?_
      refine lv_dup hx hb dX12_ended_113 rfl ?_
      refine zget E hw (Nat.le_of_ble_eq_true rfl) (ceM_0 ad cy _) rfl inX12 11 (by decide) k5_234 (fun _ h => h) rfl dX12_ended_114 ?_
      refine lv_iload hx hb dX12_ended_117 (lv_at hl 0 rfl) ?_
      refine lv_ior hx hb dX12_ended_119 ?_
      refine zputs E hw (Nat.le_of_ble_eq_true rfl) (ceM_0 ad cy _) rfl inX12 tyX12 tyX12_ok nmX12 11 (by decide) k5_234 (fun _ h => h) rfl rfl rfl (Nat.le_of_ble_eq_true rfl) (j := 11) (Eq.trans (ceM_0 ad cy _) (by rfl)) dX12_ended_120 (fun σ8 eσ8 H locs hw => ?_)
      replace hf := lt_i eσ8 hf
      refine lv_aload_n hx hb dX12_ended_123 rfl (lv_at hl 1 rfl) ?_
      refine lv_aload_n hx hb dX12_ended_124 rfl (lv_at hl 1 rfl) ?_
      refine zget E hw (Nat.le_of_ble_eq_true rfl) (ceM_0 ad cy _) rfl inX12 12 (by decide) k5_235 (fun _ h => h) rfl dX12_ended_125 ?_
      refine lv_iload hx hb dX12_ended_128 (lv_at hl 0 rfl) ?_
      refine lv_iconst (v := (-1)) hx hb dX12_ended_130 (by decide) ?_
      refine lv_ixor hx hb dX12_ended_131 ?_
      refine lv_iand hx hb dX12_ended_132 ?_
      refine lv_if_ne (tgt := 148) hx hb dX12_ended_133 (by decide) (fun h => ?_) (fun h => ?_)
      · replace hf := it_t h hf
        refine lv_aload_n hx hb dX12_ended_148 rfl (lv_at hl 1 rfl) ?_
        refine zget E hw (Nat.le_of_ble_eq_true rfl) (ceM_0 ad cy _) rfl inX12 10 (by decide) k5_233 (fun _ h => h) rfl dX12_ended_149 ?_
        refine zputs E hw (Nat.le_of_ble_eq_true rfl) (ceM_0 ad cy _) rfl inX12 tyX12 tyX12_ok nmX12 10 (by decide) k5_233 (fun _ h => h) rfl rfl rfl (Nat.le_of_ble_eq_true rfl) (j := 10) (Eq.trans (ceM_0 ad cy _) (by rfl)) dX12_ended_152 (fun σ9 eσ9 H locs hw => ?_)
        replace hf := lt_i eσ9 hf
        exact zretv E hw hr hlk (rt_1 hf) dX12_ended_155
      · replace hf := it_n h hf
        refine lv_iload_n hx hb dX12_ended_136 rfl (lv_at hl 3 rfl) ?_
        refine lv_aload_n hx hb dX12_ended_137 rfl (lv_at hl 1 rfl) ?_
        refine zget E hw (Nat.le_of_ble_eq_true rfl) (ceM_0 ad cy _) rfl inX12 10 (by decide) k5_233 (fun _ h => h) rfl dX12_ended_138 ?_
        refine lv_icmp_ge (tgt := 148) hx hb dX12_ended_141 (by decide) (fun h => ?_) (fun h => ?_)
        · replace hf := it_t h hf
          refine lv_aload_n hx hb dX12_ended_148 rfl (lv_at hl 1 rfl) ?_
          refine zget E hw (Nat.le_of_ble_eq_true rfl) (ceM_0 ad cy _) rfl inX12 10 (by decide) k5_233 (fun _ h => h) rfl dX12_ended_149 ?_
          refine zputs E hw (Nat.le_of_ble_eq_true rfl) (ceM_0 ad cy _) rfl inX12 tyX12 tyX12_ok nmX12 10 (by decide) k5_233 (fun _ h => h) rfl rfl rfl (Nat.le_of_ble_eq_true rfl) (j := 10) (Eq.trans (ceM_0 ad cy _) (by rfl)) dX12_ended_152 (fun σ10 eσ10 H locs hw => ?_)
          replace hf := lt_i eσ10 hf
          exact zretv E hw hr hlk (rt_1 hf) dX12_ended_155
        · replace hf := it_f h hf
          refine lv_iload_n hx hb dX12_ended_144 rfl (lv_at hl 3 rfl) ?_
          refine lv_goto (tgt := 152) hx hb dX12_ended_145 (by decide) ?_
          refine zputs E hw (Nat.le_of_ble_eq_true rfl) (ceM_0 ad cy _) rfl inX12 tyX12 tyX12_ok nmX12 10 (by decide) k5_233 (fun _ h => h) rfl rfl rfl (Nat.le_of_ble_eq_true rfl) (j := 10) (Eq.trans (ceM_0 ad cy _) (by rfl)) dX12_ended_152 (fun σ11 eσ11 H locs hw => ?_)
          replace hf := lt_i eσ11 hf
          exact zretv E hw hr hlk (rt_1 hf) dX12_ended_155
    · replace hf := it_f h hf
      refine lv_iload_n hx hb dX12_ended_81 rfl (lv_at hl 2 rfl) ?_
      refine lv_aload_n hx hb dX12_ended_82 rfl (lv_at hl 0 rfl) ?_
      refine zget E hw (Nat.le_of_ble_eq_true rfl) (ceM_0 ad cy _) rfl inX12 6 (by decide) k5_229 (fun _ h => h) rfl dX12_ended_83 ?_
      refine lv_iload hx hb dX12_ended_86 (lv_at hl 3 rfl) ?_
      obtain ⟨vq12, hvq12, hf⟩ := bd_e hf
      refine zaldr E hw (Nat.le_of_ble_eq_true rfl) (ceM_6 ad cy) hvq12 dX12_ended_88 ?_
      refine lv_if_le (tgt := 96) hx hb dX12_ended_89 (by decide) (fun h => ?_) (fun h => ?_)
      · replace hf := it_t h hf
        refine lv_iconst (v := 0) hx hb dX12_ended_96 (by decide) ?_
        refine lv_iadd hx hb dX12_ended_97 ?_
        refine lv_topi (fun vq13 evq13 => ?_)
        replace hf := lt_i evq13 hf
        refine lv_istore_n (lv' := [(3, .int vq13), (0, .ref (ad 0)), (1, .int xq1), (4, .int xq4)]) hx hb dX12_ended_98 rfl hl (by decide) rfl (fun ls hl => ?_)
        refine lv_iinc (v := (xq4 + 1)) (lv' := [(4, .int (xq4 + 1)), (3, .int vq13), (0, .ref (ad 0)), (1, .int xq1)]) hx hb dX12_ended_99 hl (k := 3) rfl (by rfl) (by decide) rfl (fun ls hl => ?_)
        refine lv_goto (tgt := 75) hx hb dX12_ended_102 (by decide) ?_
        exact hkq75 vq13 (xq4 + 1) σ _ _ _ hw (lv_sub hl [2, 3, 1, 0] rfl) hf
      · replace hf := it_f h hf
        refine lv_iconst (v := 1) hx hb dX12_ended_92 (by decide) ?_
        refine lv_goto (tgt := 97) hx hb dX12_ended_93 (by decide) ?_
        refine lv_iadd hx hb dX12_ended_97 ?_
        refine lv_topi (fun vq14 evq14 => ?_)
        replace hf := lt_i evq14 hf
        refine lv_istore_n (lv' := [(3, .int vq14), (0, .ref (ad 0)), (1, .int xq1), (4, .int xq4)]) hx hb dX12_ended_98 rfl hl (by decide) rfl (fun ls hl => ?_)
        refine lv_iinc (v := (xq4 + 1)) (lv' := [(4, .int (xq4 + 1)), (3, .int vq14), (0, .ref (ad 0)), (1, .int xq1)]) hx hb dX12_ended_99 hl (k := 3) rfl (by rfl) (by decide) rfl (fun ls hl => ?_)
        refine lv_goto (tgt := 75) hx hb dX12_ended_102 (by decide) ?_
        exact hkq75 vq14 (xq4 + 1) σ _ _ _ hw (lv_sub hl [2, 3, 1, 0] rfl) hf
  have hL75 : ∀ (xq1 : Int32) (n : Nat) (xq3 : Int32) (xq4 : Int32) (σ : Sg) (H : Heap) (locs : List Loc) (ls : Array Slot), ZS D 17 (celM ad cy) ad A s σ H locs → lv_has ls 5 [(0, .ref (ad 0)), (1, .int xq1), (3, .int xq3), (4, .int xq4)] → f_X12_ended_l75 xq1 n xq3 xq4 σ = some σ9 → W p l e ({ frames := 3, cells := 0, slots := 0, locals := 66 } : Room) s m args below meth c H locs 0 0 (MQ below (zQv D 17 (celM ad cy) ad A σ9) args s 0 0 A) (F0 m 75 ls []) := by
    intro xq1 n
    induction n with
    | zero =>
      intro xq3 xq4 σ H locs ls hw hl hf
      exact nn_e hf
    | succ n ih =>
      intro xq3 xq4 σ H locs ls hw hl hf
      exact hB75 xq1 (f_X12_ended_l75 xq1 n) ih xq3 xq4 σ H locs ls hw hl hf
  have hB66 : ∀ (xq1 : Int32) (tq1 : Int32) (tq2 : Int32) (σ : Sg) (H : Heap) (locs : List Loc) (ls : Array Slot), ZS D 17 (celM ad cy) ad A s σ H locs → lv_has ls 5 [(0, .ref (ad 0)), (1, .int xq1)] → f_X12_ended_b66 xq1 tq1 tq2 σ = some σ9 → W p l e ({ frames := 3, cells := 0, slots := 0, locals := 66 } : Room) s m args below meth c H locs 0 0 (MQ below (zQv D 17 (celM ad cy) ad A σ9) args s 0 0 A) (F0 m 66 ls [.int tq2, .int tq1, .ref (ad 0)]) := by
    intro xq1 tq1 tq2 σ H locs ls hw hl hf
    unfold f_X12_ended_b66 at hf
    refine lv_iadd hx hb dX12_ended_66 ?_
    refine zputs E hw (Nat.le_of_ble_eq_true rfl) (ceM_0 ad cy _) rfl inX12 tyX12 tyX12_ok nmX12 9 (by decide) k5_232 (fun _ h => h) rfl rfl rfl (Nat.le_of_ble_eq_true rfl) (j := 9) (Eq.trans (ceM_0 ad cy _) (by rfl)) dX12_ended_67 (fun σ6 eσ6 H locs hw => ?_)
    replace hf := lt_i eσ6 hf
    refine lv_iconst (v := 0) hx hb dX12_ended_70 (by decide) ?_
    refine lv_istore_n (lv' := [(3, .int 0), (0, .ref (ad 0)), (1, .int xq1)]) hx hb dX12_ended_71 rfl hl (by decide) rfl (fun ls hl => ?_)
    refine lv_iconst (v := 0) hx hb dX12_ended_72 (by decide) ?_
    refine lv_istore (lv' := [(4, .int 0), (3, .int 0), (0, .ref (ad 0)), (1, .int xq1)]) hx hb dX12_ended_73 hl (by decide) rfl (fun ls hl => ?_)
    exact hL75 xq1 400 0 0 σ6 _ _ _ hw (lv_sub hl [2, 3, 1, 0] rfl) hf
  have hB48 : ∀ (xq1 : Int32) (xq2 : Int32) (σ : Sg) (H : Heap) (locs : List Loc) (ls : Array Slot), ZS D 17 (celM ad cy) ad A s σ H locs → lv_has ls 5 [(0, .ref (ad 0)), (1, .int xq1), (2, .int xq2)] → f_X12_ended_b48 xq1 xq2 σ = some σ9 → W p l e ({ frames := 3, cells := 0, slots := 0, locals := 66 } : Room) s m args below meth c H locs 0 0 (MQ below (zQv D 17 (celM ad cy) ad A σ9) args s 0 0 A) (F0 m 48 ls []) := by
    intro xq1 xq2 σ H locs ls hw hl hf
    unfold f_X12_ended_b48 at hf
    refine lv_aload_n hx hb dX12_ended_48 rfl (lv_at hl 0 rfl) ?_
    refine lv_dup hx hb dX12_ended_49 rfl ?_
    refine zget E hw (Nat.le_of_ble_eq_true rfl) (ceM_0 ad cy _) rfl inX12 9 (by decide) k5_232 (fun _ h => h) rfl dX12_ended_50 ?_
    refine lv_iload_n hx hb dX12_ended_53 rfl (lv_at hl 2 rfl) ?_
    refine lv_aload_n hx hb dX12_ended_54 rfl (lv_at hl 0 rfl) ?_
    refine zget E hw (Nat.le_of_ble_eq_true rfl) (ceM_0 ad cy _) rfl inX12 8 (by decide) k5_231 (fun _ h => h) rfl dX12_ended_55 ?_
    refine lv_icmp_ne (tgt := 65) hx hb dX12_ended_58 (by decide) (fun h => ?_) (fun h => ?_)
    · replace hf := it_t h hf
      refine lv_iconst (v := 0) hx hb dX12_ended_65 (by decide) ?_
      exact hB66 xq1 (σ 0 9) 0 σ _ _ _ hw (lv_sub hl [0, 1] rfl) hf
    · replace hf := it_n h hf
      refine lv_iconst (v := 1) hx hb dX12_ended_61 (by decide) ?_
      refine lv_goto (tgt := 66) hx hb dX12_ended_62 (by decide) ?_
      exact hB66 xq1 (σ 0 9) 1 σ _ _ _ hw (lv_sub hl [0, 1] rfl) hf
  have hB25 : ∀ (xq1 : Int32) (xq2 : Int32) (kq25 : Int32 → Sg → Option Sg) (hkq25 : ∀ (xq3 : Int32) (σ : Sg) (H : Heap) (locs : List Loc) (ls : Array Slot), ZS D 17 (celM ad cy) ad A s σ H locs → lv_has ls 5 [(0, .ref (ad 0)), (1, .int xq1), (2, .int xq2), (3, .int xq3)] → kq25 xq3 σ = some σ9 → W p l e ({ frames := 3, cells := 0, slots := 0, locals := 66 } : Room) s m args below meth c H locs 0 0 (MQ below (zQv D 17 (celM ad cy) ad A σ9) args s 0 0 A) (F0 m 25 ls [])) (xq3 : Int32) (σ : Sg) (H : Heap) (locs : List Loc) (ls : Array Slot), ZS D 17 (celM ad cy) ad A s σ H locs → lv_has ls 5 [(0, .ref (ad 0)), (1, .int xq1), (2, .int xq2), (3, .int xq3)] → f_X12_ended_b25 kq25 xq1 xq2 xq3 σ = some σ9 → W p l e ({ frames := 3, cells := 0, slots := 0, locals := 66 } : Room) s m args below meth c H locs 0 0 (MQ below (zQv D 17 (celM ad cy) ad A σ9) args s 0 0 A) (F0 m 25 ls []) := by
    intro xq1 xq2 kq25 hkq25 xq3 σ H locs ls hw hl hf
    unfold f_X12_ended_b25 at hf
    refine lv_iload_n hx hb dX12_ended_25 rfl (lv_at hl 3 rfl) ?_
    refine lv_iload_n hx hb dX12_ended_26 rfl (lv_at hl 1 rfl) ?_
    refine lv_icmp_ge (tgt := 48) hx hb dX12_ended_27 (by decide) (fun h => ?_) (fun h => ?_)
    · replace hf := it_t h hf
      exact hB48 xq1 xq2 σ _ _ _ hw (lv_sub hl [0, 1, 2] rfl) hf
    · replace hf := it_f h hf
      refine lv_aload_n hx hb dX12_ended_30 rfl (lv_at hl 0 rfl) ?_
      refine zget E hw (Nat.le_of_ble_eq_true rfl) (ceM_0 ad cy _) rfl inX12 7 (by decide) k5_230 (fun _ h => h) rfl dX12_ended_31 ?_
      refine lv_iload_n hx hb dX12_ended_34 rfl (lv_at hl 3 rfl) ?_
      refine lv_aload_n hx hb dX12_ended_35 rfl (lv_at hl 0 rfl) ?_
      refine zget E hw (Nat.le_of_ble_eq_true rfl) (ceM_0 ad cy _) rfl inX12 6 (by decide) k5_229 (fun _ h => h) rfl dX12_ended_36 ?_
      refine lv_iload_n hx hb dX12_ended_39 rfl (lv_at hl 3 rfl) ?_
      obtain ⟨vq4, hvq4, hf⟩ := bd_e hf
      refine zaldr E hw (Nat.le_of_ble_eq_true rfl) (ceM_6 ad cy) hvq4 dX12_ended_40 ?_
      obtain ⟨σ5, hσ5, hf⟩ := bd_e hf
      refine zastr E hw (Nat.le_of_ble_eq_true rfl) (ceM_7 ad cy) hσ5 dX12_ended_41 (fun H locs hw => ?_)
      refine lv_iinc (v := (xq3 + 1)) (lv' := [(3, .int (xq3 + 1)), (0, .ref (ad 0)), (1, .int xq1), (2, .int xq2)]) hx hb dX12_ended_42 hl (k := 3) rfl (by rfl) (by decide) rfl (fun ls hl => ?_)
      refine lv_goto (tgt := 25) hx hb dX12_ended_45 (by decide) ?_
      exact hkq25 (xq3 + 1) σ5 _ _ _ hw (lv_sub hl [1, 2, 3, 0] rfl) hf
  have hL25 : ∀ (xq1 : Int32) (xq2 : Int32) (n : Nat) (xq3 : Int32) (σ : Sg) (H : Heap) (locs : List Loc) (ls : Array Slot), ZS D 17 (celM ad cy) ad A s σ H locs → lv_has ls 5 [(0, .ref (ad 0)), (1, .int xq1), (2, .int xq2), (3, .int xq3)] → f_X12_ended_l25 xq1 xq2 n xq3 σ = some σ9 → W p l e ({ frames := 3, cells := 0, slots := 0, locals := 66 } : Room) s m args below meth c H locs 0 0 (MQ below (zQv D 17 (celM ad cy) ad A σ9) args s 0 0 A) (F0 m 25 ls []) := by
    intro xq1 xq2 n
    induction n with
    | zero =>
      intro xq3 σ H locs ls hw hl hf
      exact nn_e hf
    | succ n ih =>
      intro xq3 σ H locs ls hw hl hf
      exact hB25 xq1 xq2 (f_X12_ended_l25 xq1 xq2 n) ih xq3 σ H locs ls hw hl hf
  unfold f_X12_ended at hf
  refine lv_iload_n hx hb dX12_ended_0 rfl (lv_at hl 2 rfl) ?_
  refine lv_aload_n hx hb dX12_ended_1 rfl (lv_at hl 0 rfl) ?_
  refine zget E hw (Nat.le_of_ble_eq_true rfl) (ceM_0 ad cy _) rfl inX12 8 (by decide) k5_231 (fun _ h => h) rfl dX12_ended_2 ?_
  refine lv_icmp_le (tgt := 48) hx hb dX12_ended_5 (by decide) (fun h => ?_) (fun h => ?_)
  · replace hf := it_t h hf
    exact hB48 xq1 xq2 σ _ _ _ hw (lv_sub hl [0, 1, 2] rfl) hf
  · replace hf := it_f h hf
    refine lv_aload_n hx hb dX12_ended_8 rfl (lv_at hl 0 rfl) ?_
    refine lv_iload_n hx hb dX12_ended_9 rfl (lv_at hl 2 rfl) ?_
    refine zputs E hw (Nat.le_of_ble_eq_true rfl) (ceM_0 ad cy _) rfl inX12 tyX12 tyX12_ok nmX12 8 (by decide) k5_231 (fun _ h => h) rfl rfl rfl (Nat.le_of_ble_eq_true rfl) (j := 8) (Eq.trans (ceM_0 ad cy _) (by rfl)) dX12_ended_10 (fun σ1 eσ1 H locs hw => ?_)
    replace hf := lt_i eσ1 hf
    refine lv_aload_n hx hb dX12_ended_13 rfl (lv_at hl 0 rfl) ?_
    refine lv_iconst (v := 0) hx hb dX12_ended_14 (by decide) ?_
    refine zputs E hw (Nat.le_of_ble_eq_true rfl) (ceM_0 ad cy _) rfl inX12 tyX12 tyX12_ok nmX12 9 (by decide) k5_232 (fun _ h => h) rfl rfl rfl (Nat.le_of_ble_eq_true rfl) (j := 9) (Eq.trans (ceM_0 ad cy _) (by rfl)) dX12_ended_15 (fun σ2 eσ2 H locs hw => ?_)
    replace hf := lt_i eσ2 hf
    refine lv_aload_n hx hb dX12_ended_18 rfl (lv_at hl 0 rfl) ?_
    refine lv_iload_n hx hb dX12_ended_19 rfl (lv_at hl 1 rfl) ?_
    refine zputs E hw (Nat.le_of_ble_eq_true rfl) (ceM_0 ad cy _) rfl inX12 tyX12 tyX12_ok nmX12 13 (by decide) k5_236 (fun _ h => h) rfl rfl rfl (Nat.le_of_ble_eq_true rfl) (j := 13) (Eq.trans (ceM_0 ad cy _) (by rfl)) dX12_ended_20 (fun σ3 eσ3 H locs hw => ?_)
    replace hf := lt_i eσ3 hf
    refine lv_iconst (v := 0) hx hb dX12_ended_23 (by decide) ?_
    refine lv_istore_n (lv' := [(3, .int 0), (0, .ref (ad 0)), (1, .int xq1), (2, .int xq2)]) hx hb dX12_ended_24 rfl hl (by decide) rfl (fun ls hl => ?_)
    exact hL25 xq1 xq2 400 0 σ3 _ _ _ hw (lv_sub hl [1, 2, 3, 0] rfl) hf
set_option maxRecDepth 100000 in
set_option maxHeartbeats 4000000 in
theorem c_X12_saves {l : Launch} {D : va_G} {cy : Cy} {ad : Nat → Nat} {A : Nat → Prop} (hA : okAd 17 ad A) (xq1 : Int32) (σ : Sg) {σ9 : Sg} (hf : f_X12_saves xq1 σ = some σ9) : Met l yX12_saves (.code yX12_saves cX12_saves 3 none :: TT) ({ frames := 2, cells := 0, slots := 0, locals := 43 } : Room) (zPc D cy 17 (celM ad cy) ad A [.ref (ad 0), .int xq1] σ) (zQv D 17 (celM ad cy) ad A σ9) 0 0 A := by
  refine zofW (by decide) hA (Nat.le_of_ble_eq_true rfl) ?_
  intro p e s m args below meth c ls E hw hr hlk hl
  have E : ZE p s m args c cX12_saves 3 "KiteSummonsModel" D cy 17 ad A := E
  have hx := E.hx
  have hb := E.hb
  have hl : lv_has ls 3 [(0, .ref (ad 0)), (1, .int xq1)] := hl
  have hB2 : ∀ (xq1 : Int32) (kq2 : Int32 → Sg → Option Sg) (hkq2 : ∀ (xq2 : Int32) (σ : Sg) (H : Heap) (locs : List Loc) (ls : Array Slot), ZS D 17 (celM ad cy) ad A s σ H locs → lv_has ls 3 [(0, .ref (ad 0)), (1, .int xq1), (2, .int xq2)] → kq2 xq2 σ = some σ9 → W p l e ({ frames := 2, cells := 0, slots := 0, locals := 43 } : Room) s m args below meth c H locs 0 0 (MQ below (zQv D 17 (celM ad cy) ad A σ9) args s 0 0 A) (F0 m 2 ls [])) (xq2 : Int32) (σ : Sg) (H : Heap) (locs : List Loc) (ls : Array Slot), ZS D 17 (celM ad cy) ad A s σ H locs → lv_has ls 3 [(0, .ref (ad 0)), (1, .int xq1), (2, .int xq2)] → f_X12_saves_b2 kq2 xq1 xq2 σ = some σ9 → W p l e ({ frames := 2, cells := 0, slots := 0, locals := 43 } : Room) s m args below meth c H locs 0 0 (MQ below (zQv D 17 (celM ad cy) ad A σ9) args s 0 0 A) (F0 m 2 ls []) := by
    intro xq1 kq2 hkq2 xq2 σ H locs ls hw hl hf
    unfold f_X12_saves_b2 at hf
    refine lv_iload_n hx hb dX12_saves_2 rfl (lv_at hl 2 rfl) ?_
    refine lv_bipush (v := 6) hx hb dX12_saves_3 (by decide) ?_
    refine lv_icmp_ge (tgt := 91) hx hb dX12_saves_5 (by decide) (fun h => ?_) (fun h => ?_)
    · replace hf := it_t h hf
      refine lv_aload_n hx hb dX12_saves_91 rfl (lv_at hl 0 rfl) ?_
      refine zget E hw (Nat.le_of_ble_eq_true rfl) (ceM_0 ad cy _) rfl inX12 5 (by decide) k5_228 (fun _ h => h) rfl dX12_saves_92 ?_
      refine lv_bipush (v := 26) hx hb dX12_saves_95 (by decide) ?_
      refine lv_iload_n hx hb dX12_saves_97 rfl (lv_at hl 1 rfl) ?_
      refine lv_imul hx hb dX12_saves_98 ?_
      refine lv_bipush (v := 24) hx hb dX12_saves_99 (by decide) ?_
      refine lv_iadd hx hb dX12_saves_101 ?_
      refine lv_aload_n hx hb dX12_saves_102 rfl (lv_at hl 0 rfl) ?_
      refine zget E hw (Nat.le_of_ble_eq_true rfl) (ceM_0 ad cy _) rfl inX12 0 (by decide) k5_223 (fun _ h => h) rfl dX12_saves_103 ?_
      refine lv_iconst (v := 3) hx hb dX12_saves_106 (by decide) ?_
      refine zaldk E hw (Nat.le_of_ble_eq_true rfl) (ceM_1 ad cy) 3 (by rfl) (Nat.le_of_ble_eq_true rfl) (by decide) dX12_saves_107 ?_
      obtain ⟨σ1, hσ1, hf⟩ := bd_e hf
      refine zastr E hw (Nat.le_of_ble_eq_true rfl) (ceM_5 ad cy) hσ1 dX12_saves_108 (fun H locs hw => ?_)
      refine lv_aload_n hx hb dX12_saves_109 rfl (lv_at hl 0 rfl) ?_
      refine zget E hw (Nat.le_of_ble_eq_true rfl) (ceM_0 ad cy _) rfl inX12 5 (by decide) k5_228 (fun _ h => h) rfl dX12_saves_110 ?_
      refine lv_bipush (v := 26) hx hb dX12_saves_113 (by decide) ?_
      refine lv_iload_n hx hb dX12_saves_115 rfl (lv_at hl 1 rfl) ?_
      refine lv_imul hx hb dX12_saves_116 ?_
      refine lv_bipush (v := 25) hx hb dX12_saves_117 (by decide) ?_
      refine lv_iadd hx hb dX12_saves_119 ?_
      refine lv_aload_n hx hb dX12_saves_120 rfl (lv_at hl 0 rfl) ?_
      refine zget E hw (Nat.le_of_ble_eq_true rfl) (ceM_0 ad cy _) rfl inX12 0 (by decide) k5_223 (fun _ h => h) rfl dX12_saves_121 ?_
      refine lv_iconst (v := 4) hx hb dX12_saves_124 (by decide) ?_
      refine zaldk E hw (Nat.le_of_ble_eq_true rfl) (ceM_1 ad cy) 4 (by rfl) (Nat.le_of_ble_eq_true rfl) (by decide) dX12_saves_125 ?_
      obtain ⟨σ2, hσ2, hf⟩ := bd_e hf
      refine zastr E hw (Nat.le_of_ble_eq_true rfl) (ceM_5 ad cy) hσ2 dX12_saves_126 (fun H locs hw => ?_)
      exact zretv E hw hr hlk (rt_1 hf) dX12_saves_127
    · replace hf := it_f h hf
      refine lv_aload_n hx hb dX12_saves_8 rfl (lv_at hl 0 rfl) ?_
      refine zget E hw (Nat.le_of_ble_eq_true rfl) (ceM_0 ad cy _) rfl inX12 5 (by decide) k5_228 (fun _ h => h) rfl dX12_saves_9 ?_
      refine lv_bipush (v := 26) hx hb dX12_saves_12 (by decide) ?_
      refine lv_iload_n hx hb dX12_saves_14 rfl (lv_at hl 1 rfl) ?_
      refine lv_imul hx hb dX12_saves_15 ?_
      refine lv_iload_n hx hb dX12_saves_16 rfl (lv_at hl 2 rfl) ?_
      refine lv_iadd hx hb dX12_saves_17 ?_
      refine lv_aload_n hx hb dX12_saves_18 rfl (lv_at hl 0 rfl) ?_
      refine lv_iload_n hx hb dX12_saves_19 rfl (lv_at hl 2 rfl) ?_
      refine lv_iconst (v := 1) hx hb dX12_saves_20 (by decide) ?_
      obtain ⟨vq3, hc, hf⟩ := bd_e hf
      refine zcali hw (va_runV (As := [.int xq2, .int 1]) (rest := [.int ((26 * xq1) + xq2), .ref (ad 5)]) E.fix (c_X12_its (l := l) hA xq2 1 σ hc) (zcV E k6_145 k1_14 k6_142 k6_144 kp3_9 mf_X12_its rfl rfl ⟨Nat.le_of_ble_eq_true rfl, Nat.le_of_ble_eq_true rfl⟩) (zPreV E hw (Nat.le_of_ble_eq_true rfl) (ceM_0 ad cy _) rfl _) rfl rfl hl.1 rfl (lv_room (Nat.le_of_ble_eq_true rfl)) dX12_saves_21 ⟨Nat.zero_le _, Nat.zero_le _⟩) (fun H locs hw => ?_)
      obtain ⟨σ4, hσ4, hf⟩ := bd_e hf
      refine zastr E hw (Nat.le_of_ble_eq_true rfl) (ceM_5 ad cy) hσ4 dX12_saves_24 (fun H locs hw => ?_)
      refine lv_aload_n hx hb dX12_saves_25 rfl (lv_at hl 0 rfl) ?_
      refine zget E hw (Nat.le_of_ble_eq_true rfl) (ceM_0 ad cy _) rfl inX12 5 (by decide) k5_228 (fun _ h => h) rfl dX12_saves_26 ?_
      refine lv_bipush (v := 26) hx hb dX12_saves_29 (by decide) ?_
      refine lv_iload_n hx hb dX12_saves_31 rfl (lv_at hl 1 rfl) ?_
      refine lv_imul hx hb dX12_saves_32 ?_
      refine lv_bipush (v := 6) hx hb dX12_saves_33 (by decide) ?_
      refine lv_iadd hx hb dX12_saves_35 ?_
      refine lv_iload_n hx hb dX12_saves_36 rfl (lv_at hl 2 rfl) ?_
      refine lv_iadd hx hb dX12_saves_37 ?_
      refine lv_aload_n hx hb dX12_saves_38 rfl (lv_at hl 0 rfl) ?_
      refine lv_iload_n hx hb dX12_saves_39 rfl (lv_at hl 2 rfl) ?_
      refine lv_iconst (v := 2) hx hb dX12_saves_40 (by decide) ?_
      obtain ⟨vq5, hc, hf⟩ := bd_e hf
      refine zcali hw (va_runV (As := [.int xq2, .int 2]) (rest := [.int (((26 * xq1) + 6) + xq2), .ref (ad 5)]) E.fix (c_X12_its (l := l) hA xq2 2 σ4 hc) (zcV E k6_145 k1_14 k6_142 k6_144 kp3_9 mf_X12_its rfl rfl ⟨Nat.le_of_ble_eq_true rfl, Nat.le_of_ble_eq_true rfl⟩) (zPreV E hw (Nat.le_of_ble_eq_true rfl) (ceM_0 ad cy _) rfl _) rfl rfl hl.1 rfl (lv_room (Nat.le_of_ble_eq_true rfl)) dX12_saves_41 ⟨Nat.zero_le _, Nat.zero_le _⟩) (fun H locs hw => ?_)
      obtain ⟨σ6, hσ6, hf⟩ := bd_e hf
      refine zastr E hw (Nat.le_of_ble_eq_true rfl) (ceM_5 ad cy) hσ6 dX12_saves_44 (fun H locs hw => ?_)
      refine lv_aload_n hx hb dX12_saves_45 rfl (lv_at hl 0 rfl) ?_
      refine zget E hw (Nat.le_of_ble_eq_true rfl) (ceM_0 ad cy _) rfl inX12 5 (by decide) k5_228 (fun _ h => h) rfl dX12_saves_46 ?_
      refine lv_bipush (v := 26) hx hb dX12_saves_49 (by decide) ?_
      refine lv_iload_n hx hb dX12_saves_51 rfl (lv_at hl 1 rfl) ?_
      refine lv_imul hx hb dX12_saves_52 ?_
      refine lv_bipush (v := 12) hx hb dX12_saves_53 (by decide) ?_
      refine lv_iadd hx hb dX12_saves_55 ?_
      refine lv_iload_n hx hb dX12_saves_56 rfl (lv_at hl 2 rfl) ?_
      refine lv_iadd hx hb dX12_saves_57 ?_
      refine lv_aload_n hx hb dX12_saves_58 rfl (lv_at hl 0 rfl) ?_
      refine lv_iload_n hx hb dX12_saves_59 rfl (lv_at hl 2 rfl) ?_
      refine lv_iconst (v := 4) hx hb dX12_saves_60 (by decide) ?_
      obtain ⟨vq7, hc, hf⟩ := bd_e hf
      refine zcali hw (va_runV (As := [.int xq2, .int 4]) (rest := [.int (((26 * xq1) + 12) + xq2), .ref (ad 5)]) E.fix (c_X12_its (l := l) hA xq2 4 σ6 hc) (zcV E k6_145 k1_14 k6_142 k6_144 kp3_9 mf_X12_its rfl rfl ⟨Nat.le_of_ble_eq_true rfl, Nat.le_of_ble_eq_true rfl⟩) (zPreV E hw (Nat.le_of_ble_eq_true rfl) (ceM_0 ad cy _) rfl _) rfl rfl hl.1 rfl (lv_room (Nat.le_of_ble_eq_true rfl)) dX12_saves_61 ⟨Nat.zero_le _, Nat.zero_le _⟩) (fun H locs hw => ?_)
      obtain ⟨σ8, hσ8, hf⟩ := bd_e hf
      refine zastr E hw (Nat.le_of_ble_eq_true rfl) (ceM_5 ad cy) hσ8 dX12_saves_64 (fun H locs hw => ?_)
      refine lv_aload_n hx hb dX12_saves_65 rfl (lv_at hl 0 rfl) ?_
      refine zget E hw (Nat.le_of_ble_eq_true rfl) (ceM_0 ad cy _) rfl inX12 5 (by decide) k5_228 (fun _ h => h) rfl dX12_saves_66 ?_
      refine lv_bipush (v := 26) hx hb dX12_saves_69 (by decide) ?_
      refine lv_iload_n hx hb dX12_saves_71 rfl (lv_at hl 1 rfl) ?_
      refine lv_imul hx hb dX12_saves_72 ?_
      refine lv_bipush (v := 18) hx hb dX12_saves_73 (by decide) ?_
      refine lv_iadd hx hb dX12_saves_75 ?_
      refine lv_iload_n hx hb dX12_saves_76 rfl (lv_at hl 2 rfl) ?_
      refine lv_iadd hx hb dX12_saves_77 ?_
      refine lv_aload_n hx hb dX12_saves_78 rfl (lv_at hl 0 rfl) ?_
      refine lv_iload_n hx hb dX12_saves_79 rfl (lv_at hl 2 rfl) ?_
      refine lv_iconst (v := 5) hx hb dX12_saves_80 (by decide) ?_
      obtain ⟨vq9, hc, hf⟩ := bd_e hf
      refine zcali hw (va_runV (As := [.int xq2, .int 5]) (rest := [.int (((26 * xq1) + 18) + xq2), .ref (ad 5)]) E.fix (c_X12_its (l := l) hA xq2 5 σ8 hc) (zcV E k6_145 k1_14 k6_142 k6_144 kp3_9 mf_X12_its rfl rfl ⟨Nat.le_of_ble_eq_true rfl, Nat.le_of_ble_eq_true rfl⟩) (zPreV E hw (Nat.le_of_ble_eq_true rfl) (ceM_0 ad cy _) rfl _) rfl rfl hl.1 rfl (lv_room (Nat.le_of_ble_eq_true rfl)) dX12_saves_81 ⟨Nat.zero_le _, Nat.zero_le _⟩) (fun H locs hw => ?_)
      obtain ⟨σ10, hσ10, hf⟩ := bd_e hf
      refine zastr E hw (Nat.le_of_ble_eq_true rfl) (ceM_5 ad cy) hσ10 dX12_saves_84 (fun H locs hw => ?_)
      refine lv_iinc (v := (xq2 + 1)) (lv' := [(2, .int (xq2 + 1)), (0, .ref (ad 0)), (1, .int xq1)]) hx hb dX12_saves_85 hl (k := 2) rfl (by rfl) (by decide) rfl (fun ls hl => ?_)
      refine lv_goto (tgt := 2) hx hb dX12_saves_88 (by decide) ?_
      exact hkq2 (xq2 + 1) σ10 _ _ _ hw (lv_sub hl [1, 2, 0] rfl) hf
  have hL2 : ∀ (xq1 : Int32) (n : Nat) (xq2 : Int32) (σ : Sg) (H : Heap) (locs : List Loc) (ls : Array Slot), ZS D 17 (celM ad cy) ad A s σ H locs → lv_has ls 3 [(0, .ref (ad 0)), (1, .int xq1), (2, .int xq2)] → f_X12_saves_l2 xq1 n xq2 σ = some σ9 → W p l e ({ frames := 2, cells := 0, slots := 0, locals := 43 } : Room) s m args below meth c H locs 0 0 (MQ below (zQv D 17 (celM ad cy) ad A σ9) args s 0 0 A) (F0 m 2 ls []) := by
    intro xq1 n
    induction n with
    | zero =>
      intro xq2 σ H locs ls hw hl hf
      exact nn_e hf
    | succ n ih =>
      intro xq2 σ H locs ls hw hl hf
      exact hB2 xq1 (f_X12_saves_l2 xq1 n) ih xq2 σ H locs ls hw hl hf
  unfold f_X12_saves at hf
  refine lv_iconst (v := 0) hx hb dX12_saves_0 (by decide) ?_
  refine lv_istore_n (lv' := [(2, .int 0), (0, .ref (ad 0)), (1, .int xq1)]) hx hb dX12_saves_1 rfl hl (by decide) rfl (fun ls hl => ?_)
  exact hL2 xq1 400 0 σ _ _ _ hw (lv_sub hl [1, 2, 0] rfl) hf
set_option maxRecDepth 100000 in
set_option maxHeartbeats 4000000 in
theorem c_X12_takesBack {l : Launch} {D : va_G} {cy : Cy} {ad : Nat → Nat} {A : Nat → Prop} (hA : okAd 17 ad A) (xq1 : Int32) (σ : Sg) {σ9 : Sg} (hf : f_X12_takesBack xq1 σ = some σ9) : Met l yX12_takesBack (.code yX12_takesBack cX12_takesBack 3 none :: TT) ({ frames := 1, cells := 0, slots := 0, locals := 21 } : Room) (zPc D cy 17 (celM ad cy) ad A [.ref (ad 0), .int xq1] σ) (zQv D 17 (celM ad cy) ad A σ9) 0 0 A := by
  refine zofW (by decide) hA (Nat.le_of_ble_eq_true rfl) ?_
  intro p e s m args below meth c ls E hw hr hlk hl
  have E : ZE p s m args c cX12_takesBack 3 "KiteSummonsModel" D cy 17 ad A := E
  have hx := E.hx
  have hb := E.hb
  have hl : lv_has ls 3 [(0, .ref (ad 0)), (1, .int xq1)] := hl
  have hB2 : ∀ (xq1 : Int32) (kq2 : Int32 → Sg → Option Sg) (hkq2 : ∀ (xq2 : Int32) (σ : Sg) (H : Heap) (locs : List Loc) (ls : Array Slot), ZS D 17 (celM ad cy) ad A s σ H locs → lv_has ls 3 [(0, .ref (ad 0)), (1, .int xq1), (2, .int xq2)] → kq2 xq2 σ = some σ9 → W p l e ({ frames := 1, cells := 0, slots := 0, locals := 21 } : Room) s m args below meth c H locs 0 0 (MQ below (zQv D 17 (celM ad cy) ad A σ9) args s 0 0 A) (F0 m 2 ls [])) (xq2 : Int32) (σ : Sg) (H : Heap) (locs : List Loc) (ls : Array Slot), ZS D 17 (celM ad cy) ad A s σ H locs → lv_has ls 3 [(0, .ref (ad 0)), (1, .int xq1), (2, .int xq2)] → f_X12_takesBack_b2 kq2 xq1 xq2 σ = some σ9 → W p l e ({ frames := 1, cells := 0, slots := 0, locals := 21 } : Room) s m args below meth c H locs 0 0 (MQ below (zQv D 17 (celM ad cy) ad A σ9) args s 0 0 A) (F0 m 2 ls []) := by
    intro xq1 kq2 hkq2 xq2 σ H locs ls hw hl hf
    unfold f_X12_takesBack_b2 at hf
    refine lv_iload_n hx hb dX12_takesBack_2 rfl (lv_at hl 2 rfl) ?_
    refine lv_bipush (v := 6) hx hb dX12_takesBack_3 (by decide) ?_
    refine lv_icmp_ge (tgt := 107) hx hb dX12_takesBack_5 (by decide) (fun h => ?_) (fun h => ?_)
    · replace hf := it_t h hf
      refine lv_aload_n hx hb dX12_takesBack_107 rfl (lv_at hl 0 rfl) ?_
      refine zget E hw (Nat.le_of_ble_eq_true rfl) (ceM_0 ad cy _) rfl inX12 0 (by decide) k5_223 (fun _ h => h) rfl dX12_takesBack_108 ?_
      refine lv_iconst (v := 3) hx hb dX12_takesBack_111 (by decide) ?_
      refine lv_aload_n hx hb dX12_takesBack_112 rfl (lv_at hl 0 rfl) ?_
      refine zget E hw (Nat.le_of_ble_eq_true rfl) (ceM_0 ad cy _) rfl inX12 5 (by decide) k5_228 (fun _ h => h) rfl dX12_takesBack_113 ?_
      refine lv_bipush (v := 26) hx hb dX12_takesBack_116 (by decide) ?_
      refine lv_iload_n hx hb dX12_takesBack_118 rfl (lv_at hl 1 rfl) ?_
      refine lv_imul hx hb dX12_takesBack_119 ?_
      refine lv_bipush (v := 24) hx hb dX12_takesBack_120 (by decide) ?_
      refine lv_iadd hx hb dX12_takesBack_122 ?_
      obtain ⟨vq1, hvq1, hf⟩ := bd_e hf
      refine zaldr E hw (Nat.le_of_ble_eq_true rfl) (ceM_5 ad cy) hvq1 dX12_takesBack_123 ?_
      refine zastk E hw (Nat.le_of_ble_eq_true rfl) (ceM_1 ad cy) 3 (by rfl) (Nat.le_of_ble_eq_true rfl) (by decide) dX12_takesBack_124 (fun σ2 eσ2 H locs hw => ?_)
      replace hf := lt_i eσ2 hf
      refine lv_aload_n hx hb dX12_takesBack_125 rfl (lv_at hl 0 rfl) ?_
      refine zget E hw (Nat.le_of_ble_eq_true rfl) (ceM_0 ad cy _) rfl inX12 0 (by decide) k5_223 (fun _ h => h) rfl dX12_takesBack_126 ?_
      refine lv_iconst (v := 4) hx hb dX12_takesBack_129 (by decide) ?_
      refine lv_aload_n hx hb dX12_takesBack_130 rfl (lv_at hl 0 rfl) ?_
      refine zget E hw (Nat.le_of_ble_eq_true rfl) (ceM_0 ad cy _) rfl inX12 5 (by decide) k5_228 (fun _ h => h) rfl dX12_takesBack_131 ?_
      refine lv_bipush (v := 26) hx hb dX12_takesBack_134 (by decide) ?_
      refine lv_iload_n hx hb dX12_takesBack_136 rfl (lv_at hl 1 rfl) ?_
      refine lv_imul hx hb dX12_takesBack_137 ?_
      refine lv_bipush (v := 25) hx hb dX12_takesBack_138 (by decide) ?_
      refine lv_iadd hx hb dX12_takesBack_140 ?_
      obtain ⟨vq3, hvq3, hf⟩ := bd_e hf
      refine zaldr E hw (Nat.le_of_ble_eq_true rfl) (ceM_5 ad cy) hvq3 dX12_takesBack_141 ?_
      refine zastk E hw (Nat.le_of_ble_eq_true rfl) (ceM_1 ad cy) 4 (by rfl) (Nat.le_of_ble_eq_true rfl) (by decide) dX12_takesBack_142 (fun σ4 eσ4 H locs hw => ?_)
      replace hf := lt_i eσ4 hf
      exact zretv E hw hr hlk (rt_1 hf) dX12_takesBack_143
    · replace hf := it_f h hf
      refine lv_aload_n hx hb dX12_takesBack_8 rfl (lv_at hl 0 rfl) ?_
      refine zget E hw (Nat.le_of_ble_eq_true rfl) (ceM_0 ad cy _) rfl inX12 0 (by decide) k5_223 (fun _ h => h) rfl dX12_takesBack_9 ?_
      refine lv_iload_n hx hb dX12_takesBack_12 rfl (lv_at hl 2 rfl) ?_
      refine lv_iconst (v := 1) hx hb dX12_takesBack_13 (by decide) ?_
      refine zcali hw (va_runS (As := [.int xq2, .int 1]) (rest := [.ref (ad 1)]) E.fix (c_X12_at (l := l) hA xq2 1 σ rfl) (zcS E k6_129 k1_14 k6_127 k6_128 mf_X12_at rfl rfl ⟨Nat.le_of_ble_eq_true rfl, Nat.le_of_ble_eq_true rfl⟩) (zPre E hw _) rfl rfl hl.1 rfl (lv_room (Nat.le_of_ble_eq_true rfl)) dX12_takesBack_14 ⟨Nat.zero_le _, Nat.zero_le _⟩) (fun H locs hw => ?_)
      refine lv_aload_n hx hb dX12_takesBack_17 rfl (lv_at hl 0 rfl) ?_
      refine zget E hw (Nat.le_of_ble_eq_true rfl) (ceM_0 ad cy _) rfl inX12 5 (by decide) k5_228 (fun _ h => h) rfl dX12_takesBack_18 ?_
      refine lv_bipush (v := 26) hx hb dX12_takesBack_21 (by decide) ?_
      refine lv_iload_n hx hb dX12_takesBack_23 rfl (lv_at hl 1 rfl) ?_
      refine lv_imul hx hb dX12_takesBack_24 ?_
      refine lv_iload_n hx hb dX12_takesBack_25 rfl (lv_at hl 2 rfl) ?_
      refine lv_iadd hx hb dX12_takesBack_26 ?_
      obtain ⟨vq5, hvq5, hf⟩ := bd_e hf
      refine zaldr E hw (Nat.le_of_ble_eq_true rfl) (ceM_5 ad cy) hvq5 dX12_takesBack_27 ?_
      obtain ⟨σ6, hσ6, hf⟩ := bd_e hf
      refine zastr E hw (Nat.le_of_ble_eq_true rfl) (ceM_1 ad cy) hσ6 dX12_takesBack_28 (fun H locs hw => ?_)
      refine lv_aload_n hx hb dX12_takesBack_29 rfl (lv_at hl 0 rfl) ?_
      refine zget E hw (Nat.le_of_ble_eq_true rfl) (ceM_0 ad cy _) rfl inX12 0 (by decide) k5_223 (fun _ h => h) rfl dX12_takesBack_30 ?_
      refine lv_iload_n hx hb dX12_takesBack_33 rfl (lv_at hl 2 rfl) ?_
      refine lv_iconst (v := 2) hx hb dX12_takesBack_34 (by decide) ?_
      refine zcali hw (va_runS (As := [.int xq2, .int 2]) (rest := [.ref (ad 1)]) E.fix (c_X12_at (l := l) hA xq2 2 σ6 rfl) (zcS E k6_129 k1_14 k6_127 k6_128 mf_X12_at rfl rfl ⟨Nat.le_of_ble_eq_true rfl, Nat.le_of_ble_eq_true rfl⟩) (zPre E hw _) rfl rfl hl.1 rfl (lv_room (Nat.le_of_ble_eq_true rfl)) dX12_takesBack_35 ⟨Nat.zero_le _, Nat.zero_le _⟩) (fun H locs hw => ?_)
      refine lv_aload_n hx hb dX12_takesBack_38 rfl (lv_at hl 0 rfl) ?_
      refine zget E hw (Nat.le_of_ble_eq_true rfl) (ceM_0 ad cy _) rfl inX12 5 (by decide) k5_228 (fun _ h => h) rfl dX12_takesBack_39 ?_
      refine lv_bipush (v := 26) hx hb dX12_takesBack_42 (by decide) ?_
      refine lv_iload_n hx hb dX12_takesBack_44 rfl (lv_at hl 1 rfl) ?_
      refine lv_imul hx hb dX12_takesBack_45 ?_
      refine lv_bipush (v := 6) hx hb dX12_takesBack_46 (by decide) ?_
      refine lv_iadd hx hb dX12_takesBack_48 ?_
      refine lv_iload_n hx hb dX12_takesBack_49 rfl (lv_at hl 2 rfl) ?_
      refine lv_iadd hx hb dX12_takesBack_50 ?_
      obtain ⟨vq7, hvq7, hf⟩ := bd_e hf
      refine zaldr E hw (Nat.le_of_ble_eq_true rfl) (ceM_5 ad cy) hvq7 dX12_takesBack_51 ?_
      obtain ⟨σ8, hσ8, hf⟩ := bd_e hf
      refine zastr E hw (Nat.le_of_ble_eq_true rfl) (ceM_1 ad cy) hσ8 dX12_takesBack_52 (fun H locs hw => ?_)
      refine lv_aload_n hx hb dX12_takesBack_53 rfl (lv_at hl 0 rfl) ?_
      refine zget E hw (Nat.le_of_ble_eq_true rfl) (ceM_0 ad cy _) rfl inX12 0 (by decide) k5_223 (fun _ h => h) rfl dX12_takesBack_54 ?_
      refine lv_iload_n hx hb dX12_takesBack_57 rfl (lv_at hl 2 rfl) ?_
      refine lv_iconst (v := 4) hx hb dX12_takesBack_58 (by decide) ?_
      refine zcali hw (va_runS (As := [.int xq2, .int 4]) (rest := [.ref (ad 1)]) E.fix (c_X12_at (l := l) hA xq2 4 σ8 rfl) (zcS E k6_129 k1_14 k6_127 k6_128 mf_X12_at rfl rfl ⟨Nat.le_of_ble_eq_true rfl, Nat.le_of_ble_eq_true rfl⟩) (zPre E hw _) rfl rfl hl.1 rfl (lv_room (Nat.le_of_ble_eq_true rfl)) dX12_takesBack_59 ⟨Nat.zero_le _, Nat.zero_le _⟩) (fun H locs hw => ?_)
      refine lv_aload_n hx hb dX12_takesBack_62 rfl (lv_at hl 0 rfl) ?_
      refine zget E hw (Nat.le_of_ble_eq_true rfl) (ceM_0 ad cy _) rfl inX12 5 (by decide) k5_228 (fun _ h => h) rfl dX12_takesBack_63 ?_
      refine lv_bipush (v := 26) hx hb dX12_takesBack_66 (by decide) ?_
      refine lv_iload_n hx hb dX12_takesBack_68 rfl (lv_at hl 1 rfl) ?_
      refine lv_imul hx hb dX12_takesBack_69 ?_
      refine lv_bipush (v := 12) hx hb dX12_takesBack_70 (by decide) ?_
      refine lv_iadd hx hb dX12_takesBack_72 ?_
      refine lv_iload_n hx hb dX12_takesBack_73 rfl (lv_at hl 2 rfl) ?_
      refine lv_iadd hx hb dX12_takesBack_74 ?_
      obtain ⟨vq9, hvq9, hf⟩ := bd_e hf
      refine zaldr E hw (Nat.le_of_ble_eq_true rfl) (ceM_5 ad cy) hvq9 dX12_takesBack_75 ?_
      obtain ⟨σ10, hσ10, hf⟩ := bd_e hf
      refine zastr E hw (Nat.le_of_ble_eq_true rfl) (ceM_1 ad cy) hσ10 dX12_takesBack_76 (fun H locs hw => ?_)
      refine lv_aload_n hx hb dX12_takesBack_77 rfl (lv_at hl 0 rfl) ?_
      refine zget E hw (Nat.le_of_ble_eq_true rfl) (ceM_0 ad cy _) rfl inX12 0 (by decide) k5_223 (fun _ h => h) rfl dX12_takesBack_78 ?_
      refine lv_iload_n hx hb dX12_takesBack_81 rfl (lv_at hl 2 rfl) ?_
      refine lv_iconst (v := 5) hx hb dX12_takesBack_82 (by decide) ?_
      refine zcali hw (va_runS (As := [.int xq2, .int 5]) (rest := [.ref (ad 1)]) E.fix (c_X12_at (l := l) hA xq2 5 σ10 rfl) (zcS E k6_129 k1_14 k6_127 k6_128 mf_X12_at rfl rfl ⟨Nat.le_of_ble_eq_true rfl, Nat.le_of_ble_eq_true rfl⟩) (zPre E hw _) rfl rfl hl.1 rfl (lv_room (Nat.le_of_ble_eq_true rfl)) dX12_takesBack_83 ⟨Nat.zero_le _, Nat.zero_le _⟩) (fun H locs hw => ?_)
      refine lv_aload_n hx hb dX12_takesBack_86 rfl (lv_at hl 0 rfl) ?_
      refine zget E hw (Nat.le_of_ble_eq_true rfl) (ceM_0 ad cy _) rfl inX12 5 (by decide) k5_228 (fun _ h => h) rfl dX12_takesBack_87 ?_
      refine lv_bipush (v := 26) hx hb dX12_takesBack_90 (by decide) ?_
      refine lv_iload_n hx hb dX12_takesBack_92 rfl (lv_at hl 1 rfl) ?_
      refine lv_imul hx hb dX12_takesBack_93 ?_
      refine lv_bipush (v := 18) hx hb dX12_takesBack_94 (by decide) ?_
      refine lv_iadd hx hb dX12_takesBack_96 ?_
      refine lv_iload_n hx hb dX12_takesBack_97 rfl (lv_at hl 2 rfl) ?_
      refine lv_iadd hx hb dX12_takesBack_98 ?_
      obtain ⟨vq11, hvq11, hf⟩ := bd_e hf
      refine zaldr E hw (Nat.le_of_ble_eq_true rfl) (ceM_5 ad cy) hvq11 dX12_takesBack_99 ?_
      obtain ⟨σ12, hσ12, hf⟩ := bd_e hf
      refine zastr E hw (Nat.le_of_ble_eq_true rfl) (ceM_1 ad cy) hσ12 dX12_takesBack_100 (fun H locs hw => ?_)
      refine lv_iinc (v := (xq2 + 1)) (lv' := [(2, .int (xq2 + 1)), (0, .ref (ad 0)), (1, .int xq1)]) hx hb dX12_takesBack_101 hl (k := 2) rfl (by rfl) (by decide) rfl (fun ls hl => ?_)
      refine lv_goto (tgt := 2) hx hb dX12_takesBack_104 (by decide) ?_
      exact hkq2 (xq2 + 1) σ12 _ _ _ hw (lv_sub hl [1, 2, 0] rfl) hf
  have hL2 : ∀ (xq1 : Int32) (n : Nat) (xq2 : Int32) (σ : Sg) (H : Heap) (locs : List Loc) (ls : Array Slot), ZS D 17 (celM ad cy) ad A s σ H locs → lv_has ls 3 [(0, .ref (ad 0)), (1, .int xq1), (2, .int xq2)] → f_X12_takesBack_l2 xq1 n xq2 σ = some σ9 → W p l e ({ frames := 1, cells := 0, slots := 0, locals := 21 } : Room) s m args below meth c H locs 0 0 (MQ below (zQv D 17 (celM ad cy) ad A σ9) args s 0 0 A) (F0 m 2 ls []) := by
    intro xq1 n
    induction n with
    | zero =>
      intro xq2 σ H locs ls hw hl hf
      exact nn_e hf
    | succ n ih =>
      intro xq2 σ H locs ls hw hl hf
      exact hB2 xq1 (f_X12_takesBack_l2 xq1 n) ih xq2 σ H locs ls hw hl hf
  unfold f_X12_takesBack at hf
  refine lv_iconst (v := 0) hx hb dX12_takesBack_0 (by decide) ?_
  refine lv_istore_n (lv' := [(2, .int 0), (0, .ref (ad 0)), (1, .int xq1)]) hx hb dX12_takesBack_1 rfl hl (by decide) rfl (fun ls hl => ?_)
  exact hL2 xq1 400 0 σ _ _ _ hw (lv_sub hl [1, 2, 0] rfl) hf
set_option maxRecDepth 100000 in
set_option maxHeartbeats 4000000 in
theorem c_X12_plans_s {l : Launch} {D : va_G} {cy : Cy} {ad : Nat → Nat} {A : Nat → Prop} (hA : okAd 17 ad A) (rec : Int32 → Int32 → Int32 → Sg → Option Sg) (d : Nat) (hrec : ∀ (xq1 : Int32) (xq2 : Int32) (xq3 : Int32) (σ : Sg) {σ9 : Sg}, rec xq1 xq2 xq3 σ = some σ9 → Met l yX12_plans (.code yX12_plans cX12_plans 5 none :: TT) ({ frames := 8 + 1 * d, cells := 0, slots := 0, locals := 183 + 24 * d } : Room) (zPc D cy 17 (celM ad cy) ad A [.ref (ad 0), .int xq1, .int xq2, .int xq3] σ) (zQv D 17 (celM ad cy) ad A σ9) 0 0 A) (xq1 : Int32) (xq2 : Int32) (xq3 : Int32) (σ : Sg) {σ9 : Sg} (hf : f_X12_plans_s rec xq1 xq2 xq3 σ = some σ9) : Met l yX12_plans (.code yX12_plans cX12_plans 5 none :: TT) ({ frames := 8 + 1 * (d + 1), cells := 0, slots := 0, locals := 183 + 24 * (d + 1) } : Room) (zPc D cy 17 (celM ad cy) ad A [.ref (ad 0), .int xq1, .int xq2, .int xq3] σ) (zQv D 17 (celM ad cy) ad A σ9) 0 0 A := by
  refine zofW (by decide) hA (Nat.le_of_ble_eq_true rfl) ?_
  intro p e s m args below meth c ls E hw hr hlk hl
  have E : ZE p s m args c cX12_plans 5 "KiteSummonsModel" D cy 17 ad A := E
  have hx := E.hx
  have hb := E.hb
  have hl : lv_has ls 5 [(0, .ref (ad 0)), (1, .int xq1), (2, .int xq2), (3, .int xq3)] := hl
  have hB22 : ∀ (xq1 : Int32) (xq2 : Int32) (xq3 : Int32) (kq22 : Int32 → Sg → Option Sg) (hkq22 : ∀ (xq4 : Int32) (σ : Sg) (H : Heap) (locs : List Loc) (ls : Array Slot), ZS D 17 (celM ad cy) ad A s σ H locs → lv_has ls 5 [(0, .ref (ad 0)), (1, .int xq1), (2, .int xq2), (3, .int xq3), (4, .int xq4)] → kq22 xq4 σ = some σ9 → W p l e ({ frames := 8 + 1 * (d + 1), cells := 0, slots := 0, locals := 183 + 24 * (d + 1) } : Room) s m args below meth c H locs 0 0 (MQ below (zQv D 17 (celM ad cy) ad A σ9) args s 0 0 A) (F0 m 22 ls [])) (xq4 : Int32) (σ : Sg) (H : Heap) (locs : List Loc) (ls : Array Slot), ZS D 17 (celM ad cy) ad A s σ H locs → lv_has ls 5 [(0, .ref (ad 0)), (1, .int xq1), (2, .int xq2), (3, .int xq3), (4, .int xq4)] → f_X12_plans_b22 rec kq22 xq1 xq2 xq3 xq4 σ = some σ9 → W p l e ({ frames := 8 + 1 * (d + 1), cells := 0, slots := 0, locals := 183 + 24 * (d + 1) } : Room) s m args below meth c H locs 0 0 (MQ below (zQv D 17 (celM ad cy) ad A σ9) args s 0 0 A) (F0 m 22 ls []) := by
    intro xq1 xq2 xq3 kq22 hkq22 xq4 σ H locs ls hw hl hf
    unfold f_X12_plans_b22 at hf
    refine lv_iload hx hb dX12_plans_22 (lv_at hl 4 rfl) ?_
    refine lv_aload_n hx hb dX12_plans_24 rfl (lv_at hl 0 rfl) ?_
    refine zget E hw (Nat.le_of_ble_eq_true rfl) (ceM_0 ad cy _) rfl inX12 0 (by decide) k5_223 (fun _ h => h) rfl dX12_plans_25 ?_
    refine lv_iconst (v := 0) hx hb dX12_plans_28 (by decide) ?_
    refine zaldk E hw (Nat.le_of_ble_eq_true rfl) (ceM_1 ad cy) 0 (by rfl) (Nat.le_of_ble_eq_true rfl) (by decide) dX12_plans_29 ?_
    refine lv_icmp_gt (tgt := 73) hx hb dX12_plans_30 (by decide) (fun h => ?_) (fun h => ?_)
    · replace hf := it_t h hf
      exact zretv E hw hr hlk (rt_1 hf) dX12_plans_73
    · replace hf := it_f h hf
      refine lv_aload_n hx hb dX12_plans_33 rfl (lv_at hl 0 rfl) ?_
      refine lv_iload_n hx hb dX12_plans_34 rfl (lv_at hl 1 rfl) ?_
      obtain ⟨σ3, hc, hf⟩ := bd_e hf
      refine zcalv hw (va_runV (As := [.int xq1]) (rest := []) E.fix (c_X12_saves (l := l) hA xq1 σ hc) (zcV E k7_107 k1_14 k7_104 k7_106 kp5_3 mf_X12_saves rfl rfl ⟨by dsimp only; omega, by dsimp only; omega⟩) (zPreV E hw (Nat.le_of_ble_eq_true rfl) (ceM_0 ad cy _) rfl _) rfl rfl hl.1 rfl (lv_room (Nat.le_of_ble_eq_true rfl)) dX12_plans_35 ⟨Nat.zero_le _, Nat.zero_le _⟩) (fun H locs hw => ?_)
      refine lv_aload_n hx hb dX12_plans_38 rfl (lv_at hl 0 rfl) ?_
      refine zget E hw (Nat.le_of_ble_eq_true rfl) (ceM_0 ad cy _) rfl inX12 6 (by decide) k5_229 (fun _ h => h) rfl dX12_plans_39 ?_
      refine lv_iload_n hx hb dX12_plans_42 rfl (lv_at hl 1 rfl) ?_
      refine lv_iload hx hb dX12_plans_43 (lv_at hl 4 rfl) ?_
      obtain ⟨σ4, hσ4, hf⟩ := bd_e hf
      refine zastr E hw (Nat.le_of_ble_eq_true rfl) (ceM_6 ad cy) hσ4 dX12_plans_45 (fun H locs hw => ?_)
      refine lv_aload_n hx hb dX12_plans_46 rfl (lv_at hl 0 rfl) ?_
      refine lv_iload_n hx hb dX12_plans_47 rfl (lv_at hl 1 rfl) ?_
      refine lv_iconst (v := 1) hx hb dX12_plans_48 (by decide) ?_
      refine lv_iadd hx hb dX12_plans_49 ?_
      refine lv_iload_n hx hb dX12_plans_50 rfl (lv_at hl 2 rfl) ?_
      refine lv_iload_n hx hb dX12_plans_51 rfl (lv_at hl 3 rfl) ?_
      refine lv_aload_n hx hb dX12_plans_52 rfl (lv_at hl 0 rfl) ?_
      refine lv_iload hx hb dX12_plans_53 (lv_at hl 4 rfl) ?_
      obtain ⟨vq5, σ6, hc, hf⟩ := bd2_e hf
      refine zcali hw (va_runV (As := [.int xq4]) (rest := [.int xq3, .int xq2, .int (xq1 + 1), .ref (ad 0)]) E.fix (c_X12_goes (l := l) hA xq4 σ4 hc) (zcV E k7_2 k1_14 k6_239 k7_1 kp4_3 mf_X12_goes rfl rfl ⟨by dsimp only; omega, by dsimp only; omega⟩) (zPreV E hw (Nat.le_of_ble_eq_true rfl) (ceM_0 ad cy _) rfl _) rfl rfl hl.1 rfl (lv_room (Nat.le_of_ble_eq_true rfl)) dX12_plans_55 ⟨Nat.zero_le _, Nat.zero_le _⟩) (fun H locs hw => ?_)
      refine lv_iadd hx hb dX12_plans_58 ?_
      obtain ⟨σ7, hc, hf⟩ := bd_e hf
      refine zcalv hw (va_runV (As := [.int (xq1 + 1), .int xq2, .int (xq3 + vq5)]) (rest := []) E.fix (hrec (xq1 + 1) xq2 (xq3 + vq5) σ6 hc) (zcV E k7_99 k1_14 k7_96 k7_98 kp5_1 mf_X12_plans rfl rfl ⟨by dsimp only; omega, by dsimp only; omega⟩) (zPreV E hw (Nat.le_of_ble_eq_true rfl) (ceM_0 ad cy _) rfl _) rfl rfl hl.1 rfl (lv_room (Nat.le_of_ble_eq_true rfl)) dX12_plans_59 ⟨Nat.zero_le _, Nat.zero_le _⟩) (fun H locs hw => ?_)
      refine lv_aload_n hx hb dX12_plans_62 rfl (lv_at hl 0 rfl) ?_
      refine lv_iload_n hx hb dX12_plans_63 rfl (lv_at hl 1 rfl) ?_
      obtain ⟨σ8, hc, hf⟩ := bd_e hf
      refine zcalv hw (va_runV (As := [.int xq1]) (rest := []) E.fix (c_X12_takesBack (l := l) hA xq1 σ7 hc) (zcV E k7_111 k1_14 k7_108 k7_110 kp5_4 mf_X12_takesBack rfl rfl ⟨by dsimp only; omega, by dsimp only; omega⟩) (zPreV E hw (Nat.le_of_ble_eq_true rfl) (ceM_0 ad cy _) rfl _) rfl rfl hl.1 rfl (lv_room (Nat.le_of_ble_eq_true rfl)) dX12_plans_64 ⟨Nat.zero_le _, Nat.zero_le _⟩) (fun H locs hw => ?_)
      refine lv_iinc (v := (xq4 + 1)) (lv' := [(4, .int (xq4 + 1)), (0, .ref (ad 0)), (1, .int xq1), (2, .int xq2), (3, .int xq3)]) hx hb dX12_plans_67 hl (k := 4) rfl (by rfl) (by decide) rfl (fun ls hl => ?_)
      refine lv_goto (tgt := 22) hx hb dX12_plans_70 (by decide) ?_
      exact hkq22 (xq4 + 1) σ8 _ _ _ hw (lv_sub hl [1, 2, 3, 4, 0] rfl) hf
  have hL22 : ∀ (xq1 : Int32) (xq2 : Int32) (xq3 : Int32) (n : Nat) (xq4 : Int32) (σ : Sg) (H : Heap) (locs : List Loc) (ls : Array Slot), ZS D 17 (celM ad cy) ad A s σ H locs → lv_has ls 5 [(0, .ref (ad 0)), (1, .int xq1), (2, .int xq2), (3, .int xq3), (4, .int xq4)] → f_X12_plans_l22 rec xq1 xq2 xq3 n xq4 σ = some σ9 → W p l e ({ frames := 8 + 1 * (d + 1), cells := 0, slots := 0, locals := 183 + 24 * (d + 1) } : Room) s m args below meth c H locs 0 0 (MQ below (zQv D 17 (celM ad cy) ad A σ9) args s 0 0 A) (F0 m 22 ls []) := by
    intro xq1 xq2 xq3 n
    induction n with
    | zero =>
      intro xq4 σ H locs ls hw hl hf
      exact nn_e hf
    | succ n ih =>
      intro xq4 σ H locs ls hw hl hf
      exact hB22 xq1 xq2 xq3 (f_X12_plans_l22 rec xq1 xq2 xq3 n) ih xq4 σ H locs ls hw hl hf
  unfold f_X12_plans_s at hf
  refine lv_iload_n hx hb dX12_plans_0 rfl (lv_at hl 1 rfl) ?_
  refine lv_iload_n hx hb dX12_plans_1 rfl (lv_at hl 2 rfl) ?_
  refine lv_icmp_eq (tgt := 12) hx hb dX12_plans_2 (by decide) (fun h => ?_) (fun h => ?_)
  · replace hf := it_t h hf
    refine lv_aload_n hx hb dX12_plans_12 rfl (lv_at hl 0 rfl) ?_
    refine lv_iload_n hx hb dX12_plans_13 rfl (lv_at hl 1 rfl) ?_
    refine lv_iload_n hx hb dX12_plans_14 rfl (lv_at hl 3 rfl) ?_
    obtain ⟨σ1, hc, hf⟩ := bd_e hf
    refine zcalv hw (va_runV (As := [.int xq1, .int xq3]) (rest := []) E.fix (c_X12_ended (l := l) hA xq1 xq3 σ hc) (zcV E k7_103 k1_14 k7_100 k7_102 kp5_2 mf_X12_ended rfl rfl ⟨by dsimp only; omega, by dsimp only; omega⟩) (zPreV E hw (Nat.le_of_ble_eq_true rfl) (ceM_0 ad cy _) rfl _) rfl rfl hl.1 rfl (lv_room (Nat.le_of_ble_eq_true rfl)) dX12_plans_15 ⟨Nat.zero_le _, Nat.zero_le _⟩) (fun H locs hw => ?_)
    exact zretv E hw hr hlk (rt_1 hf) dX12_plans_18
  · replace hf := it_f h hf
    refine lv_aload_n hx hb dX12_plans_5 rfl (lv_at hl 0 rfl) ?_
    refine zcali hw (va_runV (As := []) (rest := []) E.fix (c_X12_isOver (l := l) hA σ rfl) (zcV E k6_230 k1_14 k6_227 k6_229 kp4_1 mf_X12_isOver rfl rfl ⟨by dsimp only; omega, by dsimp only; omega⟩) (zPreV E hw (Nat.le_of_ble_eq_true rfl) (ceM_0 ad cy _) rfl _) rfl rfl hl.1 rfl (lv_room (Nat.le_of_ble_eq_true rfl)) dX12_plans_6 ⟨Nat.zero_le _, Nat.zero_le _⟩) (fun H locs hw => ?_)
    refine lv_if_eq (tgt := 19) hx hb dX12_plans_9 (by decide) (fun h => ?_) (fun h => ?_)
    · replace hf := it_f (b2i_0 h) hf
      refine lv_iconst (v := 0) hx hb dX12_plans_19 (by decide) ?_
      refine lv_istore (lv' := [(4, .int 0), (0, .ref (ad 0)), (1, .int xq1), (2, .int xq2), (3, .int xq3)]) hx hb dX12_plans_20 hl (by decide) rfl (fun ls hl => ?_)
      exact hL22 xq1 xq2 xq3 400 0 σ _ _ _ hw (lv_sub hl [1, 2, 3, 4, 0] rfl) hf
    · replace hf := it_t (b2i_n h) hf
      refine lv_aload_n hx hb dX12_plans_12 rfl (lv_at hl 0 rfl) ?_
      refine lv_iload_n hx hb dX12_plans_13 rfl (lv_at hl 1 rfl) ?_
      refine lv_iload_n hx hb dX12_plans_14 rfl (lv_at hl 3 rfl) ?_
      obtain ⟨σ2, hc, hf⟩ := bd_e hf
      refine zcalv hw (va_runV (As := [.int xq1, .int xq3]) (rest := []) E.fix (c_X12_ended (l := l) hA xq1 xq3 σ hc) (zcV E k7_103 k1_14 k7_100 k7_102 kp5_2 mf_X12_ended rfl rfl ⟨by dsimp only; omega, by dsimp only; omega⟩) (zPreV E hw (Nat.le_of_ble_eq_true rfl) (ceM_0 ad cy _) rfl _) rfl rfl hl.1 rfl (lv_room (Nat.le_of_ble_eq_true rfl)) dX12_plans_15 ⟨Nat.zero_le _, Nat.zero_le _⟩) (fun H locs hw => ?_)
      exact zretv E hw hr hlk (rt_1 hf) dX12_plans_18
theorem c_X12_plans {l : Launch} {D : va_G} {cy : Cy} {ad : Nat → Nat} {A : Nat → Prop} (hA : okAd 17 ad A) : ∀ (d : Nat) (xq1 : Int32) (xq2 : Int32) (xq3 : Int32) (σ : Sg) {σ9 : Sg}, f_X12_plans d xq1 xq2 xq3 σ = some σ9 → Met l yX12_plans (.code yX12_plans cX12_plans 5 none :: TT) ({ frames := 8 + 1 * d, cells := 0, slots := 0, locals := 183 + 24 * d } : Room) (zPc D cy 17 (celM ad cy) ad A [.ref (ad 0), .int xq1, .int xq2, .int xq3] σ) (zQv D 17 (celM ad cy) ad A σ9) 0 0 A := by
  intro d
  induction d with
  | zero =>
    intro xq1 xq2 xq3 σ σ9 hf
    exact nn_e hf
  | succ d ih =>
    intro xq1 xq2 xq3 σ σ9 hf
    exact c_X12_plans_s hA (f_X12_plans d) d ih xq1 xq2 xq3 σ hf
set_option maxRecDepth 100000 in
set_option maxHeartbeats 4000000 in
theorem c_X12_plansOf {l : Launch} {D : va_G} {cy : Cy} {ad : Nat → Nat} {A : Nat → Prop} (hA : okAd 17 ad A) (xq1 : Int32) (xq2 : Int32) (σ : Sg) {r : Int32} {σ9 : Sg} (hf : f_X12_plansOf xq1 xq2 σ = some (r, σ9)) : Met l yX12_plansOf (.code yX12_plansOf cX12_plansOf 3 (some .int) :: TT) ({ frames := 15, cells := 0, slots := 0, locals := 351 } : Room) (zPc D cy 17 (celM ad cy) ad A [.ref (ad 0), .int xq1, .int xq2] σ) (zQi D 17 (celM ad cy) ad A r σ9) 0 0 A := by
  refine zofW (by decide) hA (Nat.le_of_ble_eq_true rfl) ?_
  intro p e s m args below meth c ls E hw hr hlk hl
  have E : ZE p s m args c cX12_plansOf 3 "KiteSummonsModel" D cy 17 ad A := E
  have hx := E.hx
  have hb := E.hb
  have hl : lv_has ls 3 [(0, .ref (ad 0)), (1, .int xq1), (2, .int xq2)] := hl
  unfold f_X12_plansOf at hf
  refine lv_aload_n hx hb dX12_plansOf_0 rfl (lv_at hl 0 rfl) ?_
  refine lv_iconst (v := (-1)) hx hb dX12_plansOf_1 (by decide) ?_
  refine zputs E hw (Nat.le_of_ble_eq_true rfl) (ceM_0 ad cy _) rfl inX12 tyX12 tyX12_ok nmX12 8 (by decide) k5_231 (fun _ h => h) rfl rfl rfl (Nat.le_of_ble_eq_true rfl) (j := 8) (Eq.trans (ceM_0 ad cy _) (by rfl)) dX12_plansOf_2 (fun σ1 eσ1 H locs hw => ?_)
  replace hf := lt_i eσ1 hf
  refine lv_aload_n hx hb dX12_plansOf_5 rfl (lv_at hl 0 rfl) ?_
  refine lv_iconst (v := 0) hx hb dX12_plansOf_6 (by decide) ?_
  refine zputs E hw (Nat.le_of_ble_eq_true rfl) (ceM_0 ad cy _) rfl inX12 tyX12 tyX12_ok nmX12 9 (by decide) k5_232 (fun _ h => h) rfl rfl rfl (Nat.le_of_ble_eq_true rfl) (j := 9) (Eq.trans (ceM_0 ad cy _) (by rfl)) dX12_plansOf_7 (fun σ2 eσ2 H locs hw => ?_)
  replace hf := lt_i eσ2 hf
  refine lv_aload_n hx hb dX12_plansOf_10 rfl (lv_at hl 0 rfl) ?_
  refine lv_iconst (v := 5) hx hb dX12_plansOf_11 (by decide) ?_
  refine zputs E hw (Nat.le_of_ble_eq_true rfl) (ceM_0 ad cy _) rfl inX12 tyX12 tyX12_ok nmX12 10 (by decide) k5_233 (fun _ h => h) rfl rfl rfl (Nat.le_of_ble_eq_true rfl) (j := 10) (Eq.trans (ceM_0 ad cy _) (by rfl)) dX12_plansOf_12 (fun σ3 eσ3 H locs hw => ?_)
  replace hf := lt_i eσ3 hf
  refine lv_aload_n hx hb dX12_plansOf_15 rfl (lv_at hl 0 rfl) ?_
  refine lv_iconst (v := 0) hx hb dX12_plansOf_16 (by decide) ?_
  refine zputs E hw (Nat.le_of_ble_eq_true rfl) (ceM_0 ad cy _) rfl inX12 tyX12 tyX12_ok nmX12 11 (by decide) k5_234 (fun _ h => h) rfl rfl rfl (Nat.le_of_ble_eq_true rfl) (j := 11) (Eq.trans (ceM_0 ad cy _) (by rfl)) dX12_plansOf_17 (fun σ4 eσ4 H locs hw => ?_)
  replace hf := lt_i eσ4 hf
  refine lv_aload_n hx hb dX12_plansOf_20 rfl (lv_at hl 0 rfl) ?_
  refine lv_iload_n hx hb dX12_plansOf_21 rfl (lv_at hl 2 rfl) ?_
  refine zputs E hw (Nat.le_of_ble_eq_true rfl) (ceM_0 ad cy _) rfl inX12 tyX12 tyX12_ok nmX12 12 (by decide) k5_235 (fun _ h => h) rfl rfl rfl (Nat.le_of_ble_eq_true rfl) (j := 12) (Eq.trans (ceM_0 ad cy _) (by rfl)) dX12_plansOf_22 (fun σ5 eσ5 H locs hw => ?_)
  replace hf := lt_i eσ5 hf
  refine lv_aload_n hx hb dX12_plansOf_25 rfl (lv_at hl 0 rfl) ?_
  refine lv_iconst (v := 0) hx hb dX12_plansOf_26 (by decide) ?_
  refine lv_iload_n hx hb dX12_plansOf_27 rfl (lv_at hl 1 rfl) ?_
  refine lv_iconst (v := 0) hx hb dX12_plansOf_28 (by decide) ?_
  obtain ⟨σ6, hc, hf⟩ := bd_e hf
  refine zcalv hw (va_runV (As := [.int 0, .int xq1, .int 0]) (rest := []) E.fix (c_X12_plans (l := l) hA 6 0 xq1 0 σ5 hc) (zcV E k7_99 k1_14 k7_96 k7_98 kp5_1 mf_X12_plans rfl rfl ⟨Nat.le_of_ble_eq_true rfl, Nat.le_of_ble_eq_true rfl⟩) (zPreV E hw (Nat.le_of_ble_eq_true rfl) (ceM_0 ad cy _) rfl _) rfl rfl hl.1 rfl (lv_room (Nat.le_of_ble_eq_true rfl)) dX12_plansOf_29 ⟨Nat.zero_le _, Nat.zero_le _⟩) (fun H locs hw => ?_)
  refine lv_aload_n hx hb dX12_plansOf_32 rfl (lv_at hl 0 rfl) ?_
  refine zget E hw (Nat.le_of_ble_eq_true rfl) (ceM_0 ad cy _) rfl inX12 13 (by decide) k5_236 (fun _ h => h) rfl dX12_plansOf_33 ?_
  exact zreti E hw hr hlk (rt_a hf) (rt_b hf) dX12_plansOf_36
set_option maxRecDepth 100000 in
set_option maxHeartbeats 4000000 in
theorem c_X12_best {l : Launch} {D : va_G} {cy : Cy} {ad : Nat → Nat} {A : Nat → Prop} (hA : okAd 17 ad A) (xq1 : Int32) (σ : Sg) {r : Int32} {σ9 : Sg} (hf : f_X12_best xq1 σ = some (r, σ9)) : Met l yX12_best (.code yX12_best cX12_best 3 (some .int) :: TT) ({ frames := 16, cells := 0, slots := 0, locals := 373 } : Room) (zPc D cy 17 (celM ad cy) ad A [.ref (ad 0), .int xq1] σ) (zQi D 17 (celM ad cy) ad A r σ9) 0 0 A := by
  refine zofW (by decide) hA (Nat.le_of_ble_eq_true rfl) ?_
  intro p e s m args below meth c ls E hw hr hlk hl
  have E : ZE p s m args c cX12_best 3 "KiteSummonsModel" D cy 17 ad A := E
  have hx := E.hx
  have hb := E.hb
  have hl : lv_has ls 3 [(0, .ref (ad 0)), (1, .int xq1)] := hl
  unfold f_X12_best at hf
  refine lv_iload_n hx hb dX12_best_0 rfl (lv_at hl 1 rfl) ?_
  refine zcali hw (va_runS (As := [.int xq1]) (rest := []) E.fix (c_X12_isLong (l := l) hA xq1 σ rfl) (zcS E k7_91 k1_14 k7_89 k7_90 mf_X12_isLong rfl rfl ⟨Nat.le_of_ble_eq_true rfl, Nat.le_of_ble_eq_true rfl⟩) (zPre E hw _) rfl rfl hl.1 rfl (lv_room (Nat.le_of_ble_eq_true rfl)) dX12_best_1 ⟨Nat.zero_le _, Nat.zero_le _⟩) (fun H locs hw => ?_)
  refine lv_if_ne (tgt := 9) hx hb dX12_best_4 (by decide) (fun h => ?_) (fun h => ?_)
  · replace hf := it_t (b2i_n h) hf
    refine lv_aload_n hx hb dX12_best_9 rfl (lv_at hl 0 rfl) ?_
    refine lv_iload_n hx hb dX12_best_10 rfl (lv_at hl 1 rfl) ?_
    refine lv_iconst (v := 0) hx hb dX12_best_11 (by decide) ?_
    obtain ⟨vq1, σ2, hc, hf⟩ := bd2_e hf
    refine zcali hw (va_runV (As := [.int xq1, .int 0]) (rest := []) E.fix (c_X12_plansOf (l := l) hA xq1 0 σ hc) (zcV E k7_95 k1_14 k7_92 k7_94 kp5_0 mf_X12_plansOf rfl rfl ⟨Nat.le_of_ble_eq_true rfl, Nat.le_of_ble_eq_true rfl⟩) (zPreV E hw (Nat.le_of_ble_eq_true rfl) (ceM_0 ad cy _) rfl _) rfl rfl hl.1 rfl (lv_room (Nat.le_of_ble_eq_true rfl)) dX12_best_12 ⟨Nat.zero_le _, Nat.zero_le _⟩) (fun H locs hw => ?_)
    refine lv_istore_n (lv' := [(2, .int vq1), (0, .ref (ad 0)), (1, .int xq1)]) hx hb dX12_best_15 rfl hl (by decide) rfl (fun ls hl => ?_)
    refine lv_aload_n hx hb dX12_best_16 rfl (lv_at hl 1 rfl) ?_
    refine zget E hw (Nat.le_of_ble_eq_true rfl) (ceM_0 ad cy _) rfl inX12 8 (by decide) k5_231 (fun _ h => h) rfl dX12_best_17 ?_
    exact zreti E hw hr hlk (rt_a hf) (rt_b hf) dX12_best_20
  · replace hf := it_f (b2i_0 h) hf
    refine lv_iconst (v := (-1)) hx hb dX12_best_7 (by decide) ?_
    exact zreti E hw hr hlk (rt_a hf) (rt_b hf) dX12_best_8
set_option maxRecDepth 100000 in
set_option maxHeartbeats 4000000 in
theorem c_X12_ith {l : Launch} {D : va_G} {cy : Cy} {ad : Nat → Nat} {A : Nat → Prop} (hA : okAd 17 ad A) (xq1 : Int32) (xq2 : Int32) (σ : Sg) {r : Int32} {σ9 : Sg} (hf : f_X12_ith xq1 xq2 σ = some (r, σ9)) : Met l yX12_ith (.code yX12_ith cX12_ith 3 (some .int) :: TT) ({ frames := 16, cells := 0, slots := 0, locals := 373 } : Room) (zPc D cy 17 (celM ad cy) ad A [.ref (ad 0), .int xq1, .int xq2] σ) (zQi D 17 (celM ad cy) ad A r σ9) 0 0 A := by
  refine zofW (by decide) hA (Nat.le_of_ble_eq_true rfl) ?_
  intro p e s m args below meth c ls E hw hr hlk hl
  have E : ZE p s m args c cX12_ith 3 "KiteSummonsModel" D cy 17 ad A := E
  have hx := E.hx
  have hb := E.hb
  have hl : lv_has ls 3 [(0, .ref (ad 0)), (1, .int xq1), (2, .int xq2)] := hl
  unfold f_X12_ith at hf
  refine lv_iload_n hx hb dX12_ith_0 rfl (lv_at hl 1 rfl) ?_
  refine zcali hw (va_runS (As := [.int xq1]) (rest := []) E.fix (c_X12_isLong (l := l) hA xq1 σ rfl) (zcS E k7_91 k1_14 k7_89 k7_90 mf_X12_isLong rfl rfl ⟨Nat.le_of_ble_eq_true rfl, Nat.le_of_ble_eq_true rfl⟩) (zPre E hw _) rfl rfl hl.1 rfl (lv_room (Nat.le_of_ble_eq_true rfl)) dX12_ith_1 ⟨Nat.zero_le _, Nat.zero_le _⟩) (fun H locs hw => ?_)
  refine lv_if_eq (tgt := 19) hx hb dX12_ith_4 (by decide) (fun h => ?_) (fun h => ?_)
  · replace hf := it_f (b2i_0 h) hf
    refine lv_iconst (v := (-1)) hx hb dX12_ith_19 (by decide) ?_
    exact zreti E hw hr hlk (rt_a hf) (rt_b hf) dX12_ith_20
  · replace hf := it_t (b2i_n h) hf
    refine lv_iload_n hx hb dX12_ith_7 rfl (lv_at hl 2 rfl) ?_
    refine lv_i2l hx hb dX12_ith_8 rfl ?_
    refine lv_lconst (v := 0) hx hb dX12_ith_9 (by decide) ?_
    refine lv_ldc2 (v := 3) hx hb E.hown (E.ht _ k7_116) dX12_ith_10 ?_
    refine zcali hw (va_runS (As := [.long xq2.toInt64, .long (0 : Int64), .long (3 : Int64)]) (rest := []) E.fix (c_X12_in (l := l) hA xq2.toInt64 (0 : Int64) (3 : Int64) σ rfl) (zcS E k6_114 k1_14 k6_112 k6_113 mf_X12_in rfl rfl ⟨Nat.le_of_ble_eq_true rfl, Nat.le_of_ble_eq_true rfl⟩) (zPre E hw _) rfl rfl hl.1 rfl (lv_room (Nat.le_of_ble_eq_true rfl)) dX12_ith_13 ⟨Nat.zero_le _, Nat.zero_le _⟩) (fun H locs hw => ?_)
    refine lv_if_ne (tgt := 21) hx hb dX12_ith_16 (by decide) (fun h => ?_) (fun h => ?_)
    · replace hf := it_t (b2i_n h) hf
      refine lv_iload_n hx hb dX12_ith_21 rfl (lv_at hl 2 rfl) ?_
      refine lv_aload_n hx hb dX12_ith_22 rfl (lv_at hl 0 rfl) ?_
      refine lv_iload_n hx hb dX12_ith_23 rfl (lv_at hl 1 rfl) ?_
      refine lv_iconst (v := 0) hx hb dX12_ith_24 (by decide) ?_
      obtain ⟨vq1, σ2, hc, hf⟩ := bd2_e hf
      refine zcali hw (va_runV (As := [.int xq1, .int 0]) (rest := [.int xq2]) E.fix (c_X12_plansOf (l := l) hA xq1 0 σ hc) (zcV E k7_95 k1_14 k7_92 k7_94 kp5_0 mf_X12_plansOf rfl rfl ⟨Nat.le_of_ble_eq_true rfl, Nat.le_of_ble_eq_true rfl⟩) (zPreV E hw (Nat.le_of_ble_eq_true rfl) (ceM_0 ad cy _) rfl _) rfl rfl hl.1 rfl (lv_room (Nat.le_of_ble_eq_true rfl)) dX12_ith_25 ⟨Nat.zero_le _, Nat.zero_le _⟩) (fun H locs hw => ?_)
      refine lv_icmp_ge (tgt := 40) hx hb dX12_ith_28 (by decide) (fun h => ?_) (fun h => ?_)
      · replace hf := it_t h hf
        refine lv_bipush (v := (-3)) hx hb dX12_ith_40 (by decide) ?_
        exact zreti E hw hr hlk (rt_a hf) (rt_b hf) dX12_ith_42
      · replace hf := it_f h hf
        refine lv_aload_n hx hb dX12_ith_31 rfl (lv_at hl 0 rfl) ?_
        refine zget E hw (Nat.le_of_ble_eq_true rfl) (ceM_0 ad cy _) rfl inX12 7 (by decide) k5_230 (fun _ h => h) rfl dX12_ith_32 ?_
        refine lv_iload_n hx hb dX12_ith_35 rfl (lv_at hl 2 rfl) ?_
        obtain ⟨vq3, hvq3, hf⟩ := bd_e hf
        refine zaldr E hw (Nat.le_of_ble_eq_true rfl) (ceM_7 ad cy) hvq3 dX12_ith_36 ?_
        refine lv_goto (tgt := 42) hx hb dX12_ith_37 (by decide) ?_
        exact zreti E hw hr hlk (rt_a hf) (rt_b hf) dX12_ith_42
    · replace hf := it_f (b2i_0 h) hf
      refine lv_iconst (v := (-1)) hx hb dX12_ith_19 (by decide) ?_
      exact zreti E hw hr hlk (rt_a hf) (rt_b hf) dX12_ith_20
set_option maxRecDepth 100000 in
set_option maxHeartbeats 4000000 in
theorem c_X12_ways {l : Launch} {D : va_G} {cy : Cy} {ad : Nat → Nat} {A : Nat → Prop} (hA : okAd 17 ad A) (xq1 : Int32) (σ : Sg) {r : Int32} {σ9 : Sg} (hf : f_X12_ways xq1 σ = some (r, σ9)) : Met l yX12_ways (.code yX12_ways cX12_ways 3 (some .int) :: TT) ({ frames := 16, cells := 0, slots := 0, locals := 373 } : Room) (zPc D cy 17 (celM ad cy) ad A [.ref (ad 0), .int xq1] σ) (zQi D 17 (celM ad cy) ad A r σ9) 0 0 A := by
  refine zofW (by decide) hA (Nat.le_of_ble_eq_true rfl) ?_
  intro p e s m args below meth c ls E hw hr hlk hl
  have E : ZE p s m args c cX12_ways 3 "KiteSummonsModel" D cy 17 ad A := E
  have hx := E.hx
  have hb := E.hb
  have hl : lv_has ls 3 [(0, .ref (ad 0)), (1, .int xq1)] := hl
  unfold f_X12_ways at hf
  refine lv_iload_n hx hb dX12_ways_0 rfl (lv_at hl 1 rfl) ?_
  refine zcali hw (va_runS (As := [.int xq1]) (rest := []) E.fix (c_X12_isLong (l := l) hA xq1 σ rfl) (zcS E k7_91 k1_14 k7_89 k7_90 mf_X12_isLong rfl rfl ⟨Nat.le_of_ble_eq_true rfl, Nat.le_of_ble_eq_true rfl⟩) (zPre E hw _) rfl rfl hl.1 rfl (lv_room (Nat.le_of_ble_eq_true rfl)) dX12_ways_1 ⟨Nat.zero_le _, Nat.zero_le _⟩) (fun H locs hw => ?_)
  refine lv_if_ne (tgt := 9) hx hb dX12_ways_4 (by decide) (fun h => ?_) (fun h => ?_)
  · replace hf := it_t (b2i_n h) hf
    refine lv_aload_n hx hb dX12_ways_9 rfl (lv_at hl 0 rfl) ?_
    refine lv_iload_n hx hb dX12_ways_10 rfl (lv_at hl 1 rfl) ?_
    refine lv_iconst (v := 0) hx hb dX12_ways_11 (by decide) ?_
    obtain ⟨vq1, σ2, hc, hf⟩ := bd2_e hf
    refine zcali hw (va_runV (As := [.int xq1, .int 0]) (rest := []) E.fix (c_X12_plansOf (l := l) hA xq1 0 σ hc) (zcV E k7_95 k1_14 k7_92 k7_94 kp5_0 mf_X12_plansOf rfl rfl ⟨Nat.le_of_ble_eq_true rfl, Nat.le_of_ble_eq_true rfl⟩) (zPreV E hw (Nat.le_of_ble_eq_true rfl) (ceM_0 ad cy _) rfl _) rfl rfl hl.1 rfl (lv_room (Nat.le_of_ble_eq_true rfl)) dX12_ways_12 ⟨Nat.zero_le _, Nat.zero_le _⟩) (fun H locs hw => ?_)
    refine lv_istore_n (lv' := [(2, .int vq1), (0, .ref (ad 0)), (1, .int xq1)]) hx hb dX12_ways_15 rfl hl (by decide) rfl (fun ls hl => ?_)
    refine lv_aload_n hx hb dX12_ways_16 rfl (lv_at hl 1 rfl) ?_
    refine zget E hw (Nat.le_of_ble_eq_true rfl) (ceM_0 ad cy _) rfl inX12 9 (by decide) k5_232 (fun _ h => h) rfl dX12_ways_17 ?_
    exact zreti E hw hr hlk (rt_a hf) (rt_b hf) dX12_ways_20
  · replace hf := it_f (b2i_0 h) hf
    refine lv_iconst (v := (-1)) hx hb dX12_ways_7 (by decide) ?_
    exact zreti E hw hr hlk (rt_a hf) (rt_b hf) dX12_ways_8
set_option maxRecDepth 100000 in
set_option maxHeartbeats 4000000 in
theorem c_X12_areKites {l : Launch} {D : va_G} {cy : Cy} {ad : Nat → Nat} {A : Nat → Prop} (hA : okAd 17 ad A) (xq1 : Int32) (σ : Sg) {r : Bool} (hf : f_X12_areKites xq1 σ = r) : Met l yX12_areKites (.code yX12_areKites cX12_areKites 2 (some .boolean) :: TT) ({ frames := 1, cells := 0, slots := 0, locals := 25 } : Room) (zPc D cy 17 (celM ad cy) ad A [.ref (ad 0), .int xq1] σ) (zQi D 17 (celM ad cy) ad A (b2i r) σ) 0 0 A := by
  refine zofW (by decide) hA (Nat.le_of_ble_eq_true rfl) ?_
  intro p e s m args below meth c ls E hw hr hlk hl
  have E : ZE p s m args c cX12_areKites 2 "KiteSummonsModel" D cy 17 ad A := E
  have hx := E.hx
  have hb := E.hb
  have hl : lv_has ls 2 [(0, .ref (ad 0)), (1, .int xq1)] := hl
  unfold f_X12_areKites at hf
  refine lv_iload_n hx hb dX12_areKites_0 rfl (lv_at hl 1 rfl) ?_
  refine lv_i2l hx hb dX12_areKites_1 rfl ?_
  refine lv_lconst (v := 0) hx hb dX12_areKites_2 (by decide) ?_
  refine lv_iconst (v := 1) hx hb dX12_areKites_3 (by decide) ?_
  refine lv_aload_n hx hb dX12_areKites_4 rfl (lv_at hl 0 rfl) ?_
  refine zget E hw (Nat.le_of_ble_eq_true rfl) (ceM_0 ad cy _) rfl inX12 0 (by decide) k5_223 (fun _ h => h) rfl dX12_areKites_5 ?_
  refine lv_iconst (v := 0) hx hb dX12_areKites_8 (by decide) ?_
  refine zaldk E hw (Nat.le_of_ble_eq_true rfl) (ceM_1 ad cy) 0 (by rfl) (Nat.le_of_ble_eq_true rfl) (by decide) dX12_areKites_9 ?_
  refine zishl hx hb dX12_areKites_10 ?_
  refine lv_iconst (v := 1) hx hb dX12_areKites_11 (by decide) ?_
  refine lv_isub hx hb dX12_areKites_12 ?_
  refine lv_i2l hx hb dX12_areKites_13 rfl ?_
  refine zcali hw (va_runS (As := [.long xq1.toInt64, .long (0 : Int64), .long (((shl32 1 (σ 1 0)) - 1).toInt64)]) (rest := []) E.fix (c_X12_in (l := l) hA xq1.toInt64 (0 : Int64) (((shl32 1 (σ 1 0)) - 1).toInt64) σ rfl) (zcS E k6_114 k1_14 k6_112 k6_113 mf_X12_in rfl rfl ⟨Nat.le_of_ble_eq_true rfl, Nat.le_of_ble_eq_true rfl⟩) (zPre E hw _) rfl rfl hl.1 rfl (lv_room (Nat.le_of_ble_eq_true rfl)) dX12_areKites_14 ⟨Nat.zero_le _, Nat.zero_le _⟩) (fun H locs hw => ?_)
  exact zretz E hw hr hlk (b_e hf (by rfl)) rfl dX12_areKites_17
set_option maxRecDepth 100000 in
set_option maxHeartbeats 4000000 in
theorem c_X12_writ {l : Launch} {D : va_G} {cy : Cy} {ad : Nat → Nat} {A : Nat → Prop} (hA : okAd 17 ad A) (xq1 : Int32) (xq2 : Int32) (σ : Sg) {r : Int32} {σ9 : Sg} (hf : f_X12_writ xq1 xq2 σ = some (r, σ9)) : Met l yX12_writ (.code yX12_writ cX12_writ 4 (some .int) :: TT) ({ frames := 16, cells := 0, slots := 0, locals := 373 } : Room) (zPc D cy 17 (celM ad cy) ad A [.ref (ad 0), .int xq1, .int xq2] σ) (zQi D 17 (celM ad cy) ad A r σ9) 0 0 A := by
  refine zofW (by decide) hA (Nat.le_of_ble_eq_true rfl) ?_
  intro p e s m args below meth c ls E hw hr hlk hl
  have E : ZE p s m args c cX12_writ 4 "KiteSummonsModel" D cy 17 ad A := E
  have hx := E.hx
  have hb := E.hb
  have hl : lv_has ls 4 [(0, .ref (ad 0)), (1, .int xq1), (2, .int xq2)] := hl
  unfold f_X12_writ at hf
  refine lv_iload_n hx hb dX12_writ_0 rfl (lv_at hl 1 rfl) ?_
  refine zcali hw (va_runS (As := [.int xq1]) (rest := []) E.fix (c_X12_isLong (l := l) hA xq1 σ rfl) (zcS E k7_91 k1_14 k7_89 k7_90 mf_X12_isLong rfl rfl ⟨Nat.le_of_ble_eq_true rfl, Nat.le_of_ble_eq_true rfl⟩) (zPre E hw _) rfl rfl hl.1 rfl (lv_room (Nat.le_of_ble_eq_true rfl)) dX12_writ_1 ⟨Nat.zero_le _, Nat.zero_le _⟩) (fun H locs hw => ?_)
  refine lv_if_eq (tgt := 15) hx hb dX12_writ_4 (by decide) (fun h => ?_) (fun h => ?_)
  · replace hf := it_f (b2i_0 h) hf
    refine lv_iconst (v := (-1)) hx hb dX12_writ_15 (by decide) ?_
    exact zreti E hw hr hlk (rt_a hf) (rt_b hf) dX12_writ_16
  · replace hf := it_t (b2i_n h) hf
    refine lv_aload_n hx hb dX12_writ_7 rfl (lv_at hl 0 rfl) ?_
    refine lv_iload_n hx hb dX12_writ_8 rfl (lv_at hl 2 rfl) ?_
    refine zcali hw (va_runV (As := [.int xq2]) (rest := []) E.fix (c_X12_areKites (l := l) hA xq2 σ rfl) (zcV E k7_128 k1_14 k7_125 k7_127 kp5_5 mf_X12_areKites rfl rfl ⟨Nat.le_of_ble_eq_true rfl, Nat.le_of_ble_eq_true rfl⟩) (zPreV E hw (Nat.le_of_ble_eq_true rfl) (ceM_0 ad cy _) rfl _) rfl rfl hl.1 rfl (lv_room (Nat.le_of_ble_eq_true rfl)) dX12_writ_9 ⟨Nat.zero_le _, Nat.zero_le _⟩) (fun H locs hw => ?_)
    refine lv_if_ne (tgt := 17) hx hb dX12_writ_12 (by decide) (fun h => ?_) (fun h => ?_)
    · replace hf := it_t (b2i_n h) hf
      refine lv_aload_n hx hb dX12_writ_17 rfl (lv_at hl 0 rfl) ?_
      refine lv_iload_n hx hb dX12_writ_18 rfl (lv_at hl 1 rfl) ?_
      refine lv_iload_n hx hb dX12_writ_19 rfl (lv_at hl 2 rfl) ?_
      obtain ⟨vq1, σ2, hc, hf⟩ := bd2_e hf
      refine zcali hw (va_runV (As := [.int xq1, .int xq2]) (rest := []) E.fix (c_X12_plansOf (l := l) hA xq1 xq2 σ hc) (zcV E k7_95 k1_14 k7_92 k7_94 kp5_0 mf_X12_plansOf rfl rfl ⟨Nat.le_of_ble_eq_true rfl, Nat.le_of_ble_eq_true rfl⟩) (zPreV E hw (Nat.le_of_ble_eq_true rfl) (ceM_0 ad cy _) rfl _) rfl rfl hl.1 rfl (lv_room (Nat.le_of_ble_eq_true rfl)) dX12_writ_20 ⟨Nat.zero_le _, Nat.zero_le _⟩) (fun H locs hw => ?_)
      refine lv_istore_n (lv' := [(3, .int vq1), (0, .ref (ad 0)), (1, .int xq1), (2, .int xq2)]) hx hb dX12_writ_23 rfl hl (by decide) rfl (fun ls hl => ?_)
      refine lv_aload_n hx hb dX12_writ_24 rfl (lv_at hl 1 rfl) ?_
      refine zget E hw (Nat.le_of_ble_eq_true rfl) (ceM_0 ad cy _) rfl inX12 10 (by decide) k5_233 (fun _ h => h) rfl dX12_writ_25 ?_
      refine lv_iconst (v := 4) hx hb dX12_writ_28 (by decide) ?_
      refine lv_icmp_le (tgt := 37) hx hb dX12_writ_29 (by decide) (fun h => ?_) (fun h => ?_)
      · replace hf := it_t h hf
        refine lv_aload_n hx hb dX12_writ_37 rfl (lv_at hl 1 rfl) ?_
        refine zget E hw (Nat.le_of_ble_eq_true rfl) (ceM_0 ad cy _) rfl inX12 10 (by decide) k5_233 (fun _ h => h) rfl dX12_writ_38 ?_
        exact zreti E hw hr hlk (rt_a hf) (rt_b hf) dX12_writ_41
      · replace hf := it_f h hf
        refine lv_bipush (v := (-3)) hx hb dX12_writ_32 (by decide) ?_
        refine lv_goto (tgt := 41) hx hb dX12_writ_34 (by decide) ?_
        exact zreti E hw hr hlk (rt_a hf) (rt_b hf) dX12_writ_41
    · replace hf := it_f (b2i_0 h) hf
      refine lv_iconst (v := (-1)) hx hb dX12_writ_15 (by decide) ?_
      exact zreti E hw hr hlk (rt_a hf) (rt_b hf) dX12_writ_16
set_option maxRecDepth 100000 in
set_option maxHeartbeats 4000000 in
theorem c_X12_bars {l : Launch} {D : va_G} {cy : Cy} {ad : Nat → Nat} {A : Nat → Prop} (hA : okAd 17 ad A) (xq1 : Int32) (xq2 : Int32) (σ : Sg) {r : Int32} {σ9 : Sg} (hf : f_X12_bars xq1 xq2 σ = some (r, σ9)) : Met l yX12_bars (.code yX12_bars cX12_bars 5 (some .int) :: TT) ({ frames := 16, cells := 0, slots := 0, locals := 373 } : Room) (zPc D cy 17 (celM ad cy) ad A [.ref (ad 0), .int xq1, .int xq2] σ) (zQi D 17 (celM ad cy) ad A r σ9) 0 0 A := by
  refine zofW (by decide) hA (Nat.le_of_ble_eq_true rfl) ?_
  intro p e s m args below meth c ls E hw hr hlk hl
  have E : ZE p s m args c cX12_bars 5 "KiteSummonsModel" D cy 17 ad A := E
  have hx := E.hx
  have hb := E.hb
  have hl : lv_has ls 5 [(0, .ref (ad 0)), (1, .int xq1), (2, .int xq2)] := hl
  have hB27 : ∀ (xq2 : Int32) (kq27 : Int32 → Sg → Option (Int32 × Sg)) (hkq27 : ∀ (xq4 : Int32) (σ : Sg) (H : Heap) (locs : List Loc) (ls : Array Slot), ZS D 17 (celM ad cy) ad A s σ H locs → lv_has ls 5 [(0, .ref (ad 0)), (2, .int xq2), (4, .int xq4)] → kq27 xq4 σ = some (r, σ9) → W p l e ({ frames := 16, cells := 0, slots := 0, locals := 373 } : Room) s m args below meth c H locs 0 0 (MQ below (zQi D 17 (celM ad cy) ad A r σ9) args s 0 0 A) (F0 m 27 ls [])) (xq4 : Int32) (σ : Sg) (H : Heap) (locs : List Loc) (ls : Array Slot), ZS D 17 (celM ad cy) ad A s σ H locs → lv_has ls 5 [(0, .ref (ad 0)), (2, .int xq2), (4, .int xq4)] → f_X12_bars_b27 kq27 xq2 xq4 σ = some (r, σ9) → W p l e ({ frames := 16, cells := 0, slots := 0, locals := 373 } : Room) s m args below meth c H locs 0 0 (MQ below (zQi D 17 (celM ad cy) ad A r σ9) args s 0 0 A) (F0 m 27 ls []) := by
    intro xq2 kq27 hkq27 xq4 σ H locs ls hw hl hf
    unfold f_X12_bars_b27 at hf
    refine lv_iload hx hb dX12_bars_27 (lv_at hl 2 rfl) ?_
    refine lv_aload_n hx hb dX12_bars_29 rfl (lv_at hl 0 rfl) ?_
    refine zget E hw (Nat.le_of_ble_eq_true rfl) (ceM_0 ad cy _) rfl inX12 0 (by decide) k5_223 (fun _ h => h) rfl dX12_bars_30 ?_
    refine lv_iconst (v := 0) hx hb dX12_bars_33 (by decide) ?_
    refine zaldk E hw (Nat.le_of_ble_eq_true rfl) (ceM_1 ad cy) 0 (by rfl) (Nat.le_of_ble_eq_true rfl) (by decide) dX12_bars_34 ?_
    refine lv_icmp_ge (tgt := 64) hx hb dX12_bars_35 (by decide) (fun h => ?_) (fun h => ?_)
    · replace hf := it_t h hf
      refine lv_bipush (v := (-3)) hx hb dX12_bars_64 (by decide) ?_
      exact zreti E hw hr hlk (rt_a hf) (rt_b hf) dX12_bars_66
    · replace hf := it_f h hf
      refine lv_iload_n hx hb dX12_bars_38 rfl (lv_at hl 1 rfl) ?_
      refine lv_aload_n hx hb dX12_bars_39 rfl (lv_at hl 0 rfl) ?_
      refine zget E hw (Nat.le_of_ble_eq_true rfl) (ceM_0 ad cy _) rfl inX12 11 (by decide) k5_234 (fun _ h => h) rfl dX12_bars_40 ?_
      refine lv_iconst (v := (-1)) hx hb dX12_bars_43 (by decide) ?_
      refine lv_ixor hx hb dX12_bars_44 ?_
      refine lv_iand hx hb dX12_bars_45 ?_
      refine lv_iload hx hb dX12_bars_46 (lv_at hl 2 rfl) ?_
      refine zishr hx hb dX12_bars_48 ?_
      refine lv_iconst (v := 1) hx hb dX12_bars_49 (by decide) ?_
      refine lv_iand hx hb dX12_bars_50 ?_
      refine lv_iconst (v := 1) hx hb dX12_bars_51 (by decide) ?_
      refine lv_icmp_ne (tgt := 58) hx hb dX12_bars_52 (by decide) (fun h => ?_) (fun h => ?_)
      · replace hf := it_t h hf
        refine lv_iinc (v := (xq4 + 1)) (lv' := [(4, .int (xq4 + 1)), (0, .ref (ad 0)), (2, .int xq2)]) hx hb dX12_bars_58 hl (k := 2) rfl (by rfl) (by decide) rfl (fun ls hl => ?_)
        refine lv_goto (tgt := 27) hx hb dX12_bars_61 (by decide) ?_
        exact hkq27 (xq4 + 1) σ _ _ _ hw (lv_sub hl [1, 2, 0] rfl) hf
      · replace hf := it_n h hf
        refine lv_iload hx hb dX12_bars_55 (lv_at hl 2 rfl) ?_
        exact zreti E hw hr hlk (rt_a hf) (rt_b hf) dX12_bars_57
  have hL27 : ∀ (xq2 : Int32) (n : Nat) (xq4 : Int32) (σ : Sg) (H : Heap) (locs : List Loc) (ls : Array Slot), ZS D 17 (celM ad cy) ad A s σ H locs → lv_has ls 5 [(0, .ref (ad 0)), (2, .int xq2), (4, .int xq4)] → f_X12_bars_l27 xq2 n xq4 σ = some (r, σ9) → W p l e ({ frames := 16, cells := 0, slots := 0, locals := 373 } : Room) s m args below meth c H locs 0 0 (MQ below (zQi D 17 (celM ad cy) ad A r σ9) args s 0 0 A) (F0 m 27 ls []) := by
    intro xq2 n
    induction n with
    | zero =>
      intro xq4 σ H locs ls hw hl hf
      exact nn_e hf
    | succ n ih =>
      intro xq4 σ H locs ls hw hl hf
      exact hB27 xq2 (f_X12_bars_l27 xq2 n) ih xq4 σ H locs ls hw hl hf
  unfold f_X12_bars at hf
  refine lv_iload_n hx hb dX12_bars_0 rfl (lv_at hl 1 rfl) ?_
  refine zcali hw (va_runS (As := [.int xq1]) (rest := []) E.fix (c_X12_isLong (l := l) hA xq1 σ rfl) (zcS E k7_91 k1_14 k7_89 k7_90 mf_X12_isLong rfl rfl ⟨Nat.le_of_ble_eq_true rfl, Nat.le_of_ble_eq_true rfl⟩) (zPre E hw _) rfl rfl hl.1 rfl (lv_room (Nat.le_of_ble_eq_true rfl)) dX12_bars_1 ⟨Nat.zero_le _, Nat.zero_le _⟩) (fun H locs hw => ?_)
  refine lv_if_eq (tgt := 15) hx hb dX12_bars_4 (by decide) (fun h => ?_) (fun h => ?_)
  · replace hf := it_f (b2i_0 h) hf
    refine lv_iconst (v := (-1)) hx hb dX12_bars_15 (by decide) ?_
    exact zreti E hw hr hlk (rt_a hf) (rt_b hf) dX12_bars_16
  · replace hf := it_t (b2i_n h) hf
    refine lv_aload_n hx hb dX12_bars_7 rfl (lv_at hl 0 rfl) ?_
    refine lv_iload_n hx hb dX12_bars_8 rfl (lv_at hl 2 rfl) ?_
    refine zcali hw (va_runV (As := [.int xq2]) (rest := []) E.fix (c_X12_areKites (l := l) hA xq2 σ rfl) (zcV E k7_128 k1_14 k7_125 k7_127 kp5_5 mf_X12_areKites rfl rfl ⟨Nat.le_of_ble_eq_true rfl, Nat.le_of_ble_eq_true rfl⟩) (zPreV E hw (Nat.le_of_ble_eq_true rfl) (ceM_0 ad cy _) rfl _) rfl rfl hl.1 rfl (lv_room (Nat.le_of_ble_eq_true rfl)) dX12_bars_9 ⟨Nat.zero_le _, Nat.zero_le _⟩) (fun H locs hw => ?_)
    refine lv_if_ne (tgt := 17) hx hb dX12_bars_12 (by decide) (fun h => ?_) (fun h => ?_)
    · replace hf := it_t (b2i_n h) hf
      refine lv_aload_n hx hb dX12_bars_17 rfl (lv_at hl 0 rfl) ?_
      refine lv_iload_n hx hb dX12_bars_18 rfl (lv_at hl 1 rfl) ?_
      refine lv_iload_n hx hb dX12_bars_19 rfl (lv_at hl 2 rfl) ?_
      obtain ⟨vq1, σ2, hc, hf⟩ := bd2_e hf
      refine zcali hw (va_runV (As := [.int xq1, .int xq2]) (rest := []) E.fix (c_X12_plansOf (l := l) hA xq1 xq2 σ hc) (zcV E k7_95 k1_14 k7_92 k7_94 kp5_0 mf_X12_plansOf rfl rfl ⟨Nat.le_of_ble_eq_true rfl, Nat.le_of_ble_eq_true rfl⟩) (zPreV E hw (Nat.le_of_ble_eq_true rfl) (ceM_0 ad cy _) rfl _) rfl rfl hl.1 rfl (lv_room (Nat.le_of_ble_eq_true rfl)) dX12_bars_20 ⟨Nat.zero_le _, Nat.zero_le _⟩) (fun H locs hw => ?_)
      refine lv_istore_n (lv' := [(3, .int vq1), (0, .ref (ad 0)), (1, .int xq1), (2, .int xq2)]) hx hb dX12_bars_23 rfl hl (by decide) rfl (fun ls hl => ?_)
      refine lv_iconst (v := 0) hx hb dX12_bars_24 (by decide) ?_
      refine lv_istore (lv' := [(4, .int 0), (3, .int vq1), (0, .ref (ad 0)), (1, .int xq1), (2, .int xq2)]) hx hb dX12_bars_25 hl (by decide) rfl (fun ls hl => ?_)
      exact hL27 xq2 400 0 σ2 _ _ _ hw (lv_sub hl [2, 4, 0] rfl) hf
    · replace hf := it_f (b2i_0 h) hf
      refine lv_iconst (v := (-1)) hx hb dX12_bars_15 (by decide) ?_
      exact zreti E hw hr hlk (rt_a hf) (rt_b hf) dX12_bars_16
set_option maxRecDepth 100000 in
set_option maxHeartbeats 4000000 in
theorem c_X12_played_s {l : Launch} {D : va_G} {cy : Cy} {ad : Nat → Nat} {A : Nat → Prop} (hA : okAd 17 ad A) (rec : Int32 → Int32 → Int32 → Sg → Option (Int32 × Sg)) (d : Nat) (hrec : ∀ (xq1 : Int32) (xq2 : Int32) (xq3 : Int32) (σ : Sg) {r : Int32} {σ9 : Sg}, rec xq1 xq2 xq3 σ = some (r, σ9) → Met l yX12_played (.code yX12_played cX12_played 9 (some .int) :: TT) ({ frames := 8 + 1 * d, cells := 0, slots := 0, locals := 183 + 28 * d } : Room) (zPc D cy 17 (celM ad cy) ad A [.ref (ad 0), .int xq1, .int xq2, .int xq3] σ) (zQi D 17 (celM ad cy) ad A r σ9) 0 0 A) (xq1 : Int32) (xq2 : Int32) (xq3 : Int32) (σ : Sg) {r : Int32} {σ9 : Sg} (hf : f_X12_played_s rec xq1 xq2 xq3 σ = some (r, σ9)) : Met l yX12_played (.code yX12_played cX12_played 9 (some .int) :: TT) ({ frames := 8 + 1 * (d + 1), cells := 0, slots := 0, locals := 183 + 28 * (d + 1) } : Room) (zPc D cy 17 (celM ad cy) ad A [.ref (ad 0), .int xq1, .int xq2, .int xq3] σ) (zQi D 17 (celM ad cy) ad A r σ9) 0 0 A := by
  refine zofW (by decide) hA (Nat.le_of_ble_eq_true rfl) ?_
  intro p e s m args below meth c ls E hw hr hlk hl
  have E : ZE p s m args c cX12_played 9 "KiteSummonsModel" D cy 17 ad A := E
  have hx := E.hx
  have hb := E.hb
  have hl : lv_has ls 9 [(0, .ref (ad 0)), (1, .int xq1), (2, .int xq2), (3, .int xq3)] := hl
  have hB119 : ∀ (xq1 : Int32) (xq2 : Int32) (xq3 : Int32) (xq5 : Int32) (xq6 : Int32) (xq8 : Int32) (tq0 : Int32) (kq23 : Int32 → Int32 → Int32 → Sg → Option (Int32 × Sg)) (hkq23 : ∀ (xq4 : Int32) (xq5 : Int32) (xq6 : Int32) (σ : Sg) (H : Heap) (locs : List Loc) (ls : Array Slot), ZS D 17 (celM ad cy) ad A s σ H locs → lv_has ls 9 [(0, .ref (ad 0)), (1, .int xq1), (2, .int xq2), (3, .int xq3), (4, .int xq4), (5, .int xq5), (6, .int xq6)] → kq23 xq4 xq5 xq6 σ = some (r, σ9) → W p l e ({ frames := 8 + 1 * (d + 1), cells := 0, slots := 0, locals := 183 + 28 * (d + 1) } : Room) s m args below meth c H locs 0 0 (MQ below (zQi D 17 (celM ad cy) ad A r σ9) args s 0 0 A) (F0 m 23 ls [])) (σ : Sg) (H : Heap) (locs : List Loc) (ls : Array Slot), ZS D 17 (celM ad cy) ad A s σ H locs → lv_has ls 9 [(0, .ref (ad 0)), (1, .int xq1), (2, .int xq2), (3, .int xq3), (5, .int xq5), (6, .int xq6), (8, .int xq8)] → f_X12_played_b119 rec kq23 xq1 xq2 xq3 xq5 xq6 xq8 tq0 σ = some (r, σ9) → W p l e ({ frames := 8 + 1 * (d + 1), cells := 0, slots := 0, locals := 183 + 28 * (d + 1) } : Room) s m args below meth c H locs 0 0 (MQ below (zQi D 17 (celM ad cy) ad A r σ9) args s 0 0 A) (F0 m 119 ls [.int tq0]) := by
    intro xq1 xq2 xq3 xq5 xq6 xq8 tq0 kq23 hkq23 σ H locs ls hw hl hf
    unfold f_X12_played_b119 at hf
    refine lv_istore (lv' := [(4, .int tq0), (0, .ref (ad 0)), (1, .int xq1), (2, .int xq2), (3, .int xq3), (5, .int xq5), (6, .int xq6), (8, .int xq8)]) hx hb dX12_played_119 hl (by decide) rfl (fun ls hl => ?_)
    refine lv_iload hx hb dX12_played_121 (lv_at hl 7 rfl) ?_
    refine lv_if_eq (tgt := 131) hx hb dX12_played_123 (by decide) (fun h => ?_) (fun h => ?_)
    · replace hf := it_t h hf
      refine lv_iload hx hb dX12_played_131 (lv_at hl 5 rfl) ?_
      refine lv_istore (lv' := [(5, .int xq5), (4, .int tq0), (0, .ref (ad 0)), (1, .int xq1), (2, .int xq2), (3, .int xq3), (6, .int xq6), (8, .int xq8)]) hx hb dX12_played_133 hl (by decide) rfl (fun ls hl => ?_)
      refine lv_iinc (v := (xq6 + 1)) (lv' := [(6, .int (xq6 + 1)), (5, .int xq5), (4, .int tq0), (0, .ref (ad 0)), (1, .int xq1), (2, .int xq2), (3, .int xq3), (8, .int xq8)]) hx hb dX12_played_135 hl (k := 6) rfl (by rfl) (by decide) rfl (fun ls hl => ?_)
      refine lv_goto (tgt := 23) hx hb dX12_played_138 (by decide) ?_
      exact hkq23 tq0 xq5 (xq6 + 1) σ _ _ _ hw (lv_sub hl [3, 4, 5, 6, 2, 1, 0] rfl) hf
    · replace hf := it_f h hf
      refine lv_iload hx hb dX12_played_126 (lv_at hl 6 rfl) ?_
      refine lv_goto (tgt := 133) hx hb dX12_played_128 (by decide) ?_
      refine lv_istore (lv' := [(5, .int xq6), (4, .int tq0), (0, .ref (ad 0)), (1, .int xq1), (2, .int xq2), (3, .int xq3), (6, .int xq6), (8, .int xq8)]) hx hb dX12_played_133 hl (by decide) rfl (fun ls hl => ?_)
      refine lv_iinc (v := (xq6 + 1)) (lv' := [(6, .int (xq6 + 1)), (5, .int xq6), (4, .int tq0), (0, .ref (ad 0)), (1, .int xq1), (2, .int xq2), (3, .int xq3), (8, .int xq8)]) hx hb dX12_played_135 hl (k := 6) rfl (by rfl) (by decide) rfl (fun ls hl => ?_)
      refine lv_goto (tgt := 23) hx hb dX12_played_138 (by decide) ?_
      exact hkq23 tq0 xq6 (xq6 + 1) σ _ _ _ hw (lv_sub hl [3, 4, 5, 6, 2, 1, 0] rfl) hf
  have hB105 : ∀ (xq1 : Int32) (xq2 : Int32) (xq3 : Int32) (xq4 : Int32) (xq5 : Int32) (xq6 : Int32) (xq7 : Int32) (tq0 : Int32) (kq23 : Int32 → Int32 → Int32 → Sg → Option (Int32 × Sg)) (hkq23 : ∀ (xq4 : Int32) (xq5 : Int32) (xq6 : Int32) (σ : Sg) (H : Heap) (locs : List Loc) (ls : Array Slot), ZS D 17 (celM ad cy) ad A s σ H locs → lv_has ls 9 [(0, .ref (ad 0)), (1, .int xq1), (2, .int xq2), (3, .int xq3), (4, .int xq4), (5, .int xq5), (6, .int xq6)] → kq23 xq4 xq5 xq6 σ = some (r, σ9) → W p l e ({ frames := 8 + 1 * (d + 1), cells := 0, slots := 0, locals := 183 + 28 * (d + 1) } : Room) s m args below meth c H locs 0 0 (MQ below (zQi D 17 (celM ad cy) ad A r σ9) args s 0 0 A) (F0 m 23 ls [])) (σ : Sg) (H : Heap) (locs : List Loc) (ls : Array Slot), ZS D 17 (celM ad cy) ad A s σ H locs → lv_has ls 9 [(0, .ref (ad 0)), (1, .int xq1), (2, .int xq2), (3, .int xq3), (4, .int xq4), (5, .int xq5), (6, .int xq6), (7, .int xq7)] → f_X12_played_b105 rec kq23 xq1 xq2 xq3 xq4 xq5 xq6 xq7 tq0 σ = some (r, σ9) → W p l e ({ frames := 8 + 1 * (d + 1), cells := 0, slots := 0, locals := 183 + 28 * (d + 1) } : Room) s m args below meth c H locs 0 0 (MQ below (zQi D 17 (celM ad cy) ad A r σ9) args s 0 0 A) (F0 m 105 ls [.int tq0]) := by
    intro xq1 xq2 xq3 xq4 xq5 xq6 xq7 tq0 kq23 hkq23 σ H locs ls hw hl hf
    unfold f_X12_played_b105 at hf
    refine lv_istore (lv' := [(8, .int tq0), (0, .ref (ad 0)), (1, .int xq1), (2, .int xq2), (3, .int xq3), (4, .int xq4), (5, .int xq5), (6, .int xq6), (7, .int xq7)]) hx hb dX12_played_105 hl (by decide) rfl (fun ls hl => ?_)
    refine lv_iload hx hb dX12_played_107 (lv_at hl 0 rfl) ?_
    refine lv_if_eq (tgt := 117) hx hb dX12_played_109 (by decide) (fun h => ?_) (fun h => ?_)
    · replace hf := it_t h hf
      refine lv_iload hx hb dX12_played_117 (lv_at hl 5 rfl) ?_
      exact hB119 xq1 xq2 xq3 xq5 xq6 tq0 xq4 kq23 hkq23 σ _ _ _ hw (lv_sub hl [1, 2, 3, 4, 6, 7, 0] rfl) hf
    · replace hf := it_f h hf
      refine lv_iload hx hb dX12_played_112 (lv_at hl 8 rfl) ?_
      refine lv_goto (tgt := 119) hx hb dX12_played_114 (by decide) ?_
      exact hB119 xq1 xq2 xq3 xq5 xq6 tq0 xq7 kq23 hkq23 σ _ _ _ hw (lv_sub hl [1, 2, 3, 4, 6, 7, 0] rfl) hf
  have hB63 : ∀ (xq1 : Int32) (xq2 : Int32) (xq3 : Int32) (xq4 : Int32) (xq5 : Int32) (xq6 : Int32) (tq0 : Int32) (tq2 : Int32) (tq3 : Int32) (tq4 : Int32) (kq23 : Int32 → Int32 → Int32 → Sg → Option (Int32 × Sg)) (hkq23 : ∀ (xq4 : Int32) (xq5 : Int32) (xq6 : Int32) (σ : Sg) (H : Heap) (locs : List Loc) (ls : Array Slot), ZS D 17 (celM ad cy) ad A s σ H locs → lv_has ls 9 [(0, .ref (ad 0)), (1, .int xq1), (2, .int xq2), (3, .int xq3), (4, .int xq4), (5, .int xq5), (6, .int xq6)] → kq23 xq4 xq5 xq6 σ = some (r, σ9) → W p l e ({ frames := 8 + 1 * (d + 1), cells := 0, slots := 0, locals := 183 + 28 * (d + 1) } : Room) s m args below meth c H locs 0 0 (MQ below (zQi D 17 (celM ad cy) ad A r σ9) args s 0 0 A) (F0 m 23 ls [])) (σ : Sg) (H : Heap) (locs : List Loc) (ls : Array Slot), ZS D 17 (celM ad cy) ad A s σ H locs → lv_has ls 9 [(0, .ref (ad 0)), (1, .int xq1), (2, .int xq2), (3, .int xq3), (4, .int xq4), (5, .int xq5), (6, .int xq6)] → f_X12_played_b63 rec kq23 xq1 xq2 xq3 xq4 xq5 xq6 tq0 tq2 tq3 tq4 σ = some (r, σ9) → W p l e ({ frames := 8 + 1 * (d + 1), cells := 0, slots := 0, locals := 183 + 28 * (d + 1) } : Room) s m args below meth c H locs 0 0 (MQ below (zQi D 17 (celM ad cy) ad A r σ9) args s 0 0 A) (F0 m 63 ls [.int tq4, .int tq3, .int tq2, .ref (ad 0), .int tq0]) := by
    intro xq1 xq2 xq3 xq4 xq5 xq6 tq0 tq2 tq3 tq4 kq23 hkq23 σ H locs ls hw hl hf
    unfold f_X12_played_b63 at hf
    obtain ⟨vq5, σ6, hc, hf⟩ := bd2_e hf
    refine zcali hw (va_runV (As := [.int tq2, .int tq3, .int tq4]) (rest := [.int tq0]) E.fix (hrec tq2 tq3 tq4 σ hc) (zcV E k7_140 k1_14 k7_137 k7_139 kp5_6 mf_X12_played rfl rfl ⟨by dsimp only; omega, by dsimp only; omega⟩) (zPreV E hw (Nat.le_of_ble_eq_true rfl) (ceM_0 ad cy _) rfl _) rfl rfl hl.1 rfl (lv_room (Nat.le_of_ble_eq_true rfl)) dX12_played_63 ⟨Nat.zero_le _, Nat.zero_le _⟩) (fun H locs hw => ?_)
    refine lv_iadd hx hb dX12_played_66 ?_
    refine lv_topi (fun vq7 evq7 => ?_)
    replace hf := lt_i evq7 hf
    refine lv_istore (lv' := [(7, .int vq7), (0, .ref (ad 0)), (1, .int xq1), (2, .int xq2), (3, .int xq3), (4, .int xq4), (5, .int xq5), (6, .int xq6)]) hx hb dX12_played_67 hl (by decide) rfl (fun ls hl => ?_)
    refine lv_aload_n hx hb dX12_played_69 rfl (lv_at hl 1 rfl) ?_
    refine lv_iload_n hx hb dX12_played_70 rfl (lv_at hl 2 rfl) ?_
    obtain ⟨σ8, hc, hf⟩ := bd_e hf
    refine zcalv hw (va_runV (As := [.int xq1]) (rest := []) E.fix (c_X12_takesBack (l := l) hA xq1 σ6 hc) (zcV E k7_111 k1_14 k7_108 k7_110 kp5_4 mf_X12_takesBack rfl rfl ⟨by dsimp only; omega, by dsimp only; omega⟩) (zPreV E hw (Nat.le_of_ble_eq_true rfl) (ceM_0 ad cy _) rfl _) rfl rfl hl.1 rfl (lv_room (Nat.le_of_ble_eq_true rfl)) dX12_played_71 ⟨Nat.zero_le _, Nat.zero_le _⟩) (fun H locs hw => ?_)
    refine lv_iload hx hb dX12_played_74 (lv_at hl 6 rfl) ?_
    refine lv_if_lt (tgt := 100) hx hb dX12_played_76 (by decide) (fun h => ?_) (fun h => ?_)
    · replace hf := it_t h hf
      refine lv_iconst (v := 1) hx hb dX12_played_100 (by decide) ?_
      refine lv_goto (tgt := 105) hx hb dX12_played_101 (by decide) ?_
      exact hB105 xq1 xq2 xq3 xq4 xq5 xq6 vq7 1 kq23 hkq23 σ8 _ _ _ hw (lv_sub hl [1, 2, 3, 4, 5, 6, 7, 0] rfl) hf
    · replace hf := it_f h hf
      refine lv_iload_n hx hb dX12_played_79 rfl (lv_at hl 4 rfl) ?_
      refine lv_if_eq (tgt := 93) hx hb dX12_played_80 (by decide) (fun h => ?_) (fun h => ?_)
      · replace hf := it_t h hf
        refine lv_iload hx hb dX12_played_93 (lv_at hl 0 rfl) ?_
        refine lv_iload hx hb dX12_played_95 (lv_at hl 5 rfl) ?_
        refine lv_icmp_ge (tgt := 104) hx hb dX12_played_97 (by decide) (fun h => ?_) (fun h => ?_)
        · replace hf := it_t h hf
          refine lv_iconst (v := 0) hx hb dX12_played_104 (by decide) ?_
          exact hB105 xq1 xq2 xq3 xq4 xq5 xq6 vq7 0 kq23 hkq23 σ8 _ _ _ hw (lv_sub hl [1, 2, 3, 4, 5, 6, 7, 0] rfl) hf
        · replace hf := it_f h hf
          refine lv_iconst (v := 1) hx hb dX12_played_100 (by decide) ?_
          refine lv_goto (tgt := 105) hx hb dX12_played_101 (by decide) ?_
          exact hB105 xq1 xq2 xq3 xq4 xq5 xq6 vq7 1 kq23 hkq23 σ8 _ _ _ hw (lv_sub hl [1, 2, 3, 4, 5, 6, 7, 0] rfl) hf
      · replace hf := it_f h hf
        refine lv_iload hx hb dX12_played_83 (lv_at hl 0 rfl) ?_
        refine lv_iload hx hb dX12_played_85 (lv_at hl 5 rfl) ?_
        refine lv_icmp_le (tgt := 104) hx hb dX12_played_87 (by decide) (fun h => ?_) (fun h => ?_)
        · replace hf := it_t h hf
          refine lv_iconst (v := 0) hx hb dX12_played_104 (by decide) ?_
          exact hB105 xq1 xq2 xq3 xq4 xq5 xq6 vq7 0 kq23 hkq23 σ8 _ _ _ hw (lv_sub hl [1, 2, 3, 4, 5, 6, 7, 0] rfl) hf
        · replace hf := it_f h hf
          refine lv_goto (tgt := 100) hx hb dX12_played_90 (by decide) ?_
          refine lv_iconst (v := 1) hx hb dX12_played_100 (by decide) ?_
          refine lv_goto (tgt := 105) hx hb dX12_played_101 (by decide) ?_
          exact hB105 xq1 xq2 xq3 xq4 xq5 xq6 vq7 1 kq23 hkq23 σ8 _ _ _ hw (lv_sub hl [1, 2, 3, 4, 5, 6, 7, 0] rfl) hf
  have hB23 : ∀ (xq1 : Int32) (xq2 : Int32) (xq3 : Int32) (kq23 : Int32 → Int32 → Int32 → Sg → Option (Int32 × Sg)) (hkq23 : ∀ (xq4 : Int32) (xq5 : Int32) (xq6 : Int32) (σ : Sg) (H : Heap) (locs : List Loc) (ls : Array Slot), ZS D 17 (celM ad cy) ad A s σ H locs → lv_has ls 9 [(0, .ref (ad 0)), (1, .int xq1), (2, .int xq2), (3, .int xq3), (4, .int xq4), (5, .int xq5), (6, .int xq6)] → kq23 xq4 xq5 xq6 σ = some (r, σ9) → W p l e ({ frames := 8 + 1 * (d + 1), cells := 0, slots := 0, locals := 183 + 28 * (d + 1) } : Room) s m args below meth c H locs 0 0 (MQ below (zQi D 17 (celM ad cy) ad A r σ9) args s 0 0 A) (F0 m 23 ls [])) (xq4 : Int32) (xq5 : Int32) (xq6 : Int32) (σ : Sg) (H : Heap) (locs : List Loc) (ls : Array Slot), ZS D 17 (celM ad cy) ad A s σ H locs → lv_has ls 9 [(0, .ref (ad 0)), (1, .int xq1), (2, .int xq2), (3, .int xq3), (4, .int xq4), (5, .int xq5), (6, .int xq6)] → f_X12_played_b23 rec kq23 xq1 xq2 xq3 xq4 xq5 xq6 σ = some (r, σ9) → W p l e ({ frames := 8 + 1 * (d + 1), cells := 0, slots := 0, locals := 183 + 28 * (d + 1) } : Room) s m args below meth c H locs 0 0 (MQ below (zQi D 17 (celM ad cy) ad A r σ9) args s 0 0 A) (F0 m 23 ls []) := by
    intro xq1 xq2 xq3 kq23 hkq23 xq4 xq5 xq6 σ H locs ls hw hl hf
    unfold f_X12_played_b23 at hf
    refine lv_iload hx hb dX12_played_23 (lv_at hl 6 rfl) ?_
    refine lv_aload_n hx hb dX12_played_25 rfl (lv_at hl 0 rfl) ?_
    refine zget E hw (Nat.le_of_ble_eq_true rfl) (ceM_0 ad cy _) rfl inX12 0 (by decide) k5_223 (fun _ h => h) rfl dX12_played_26 ?_
    refine lv_iconst (v := 0) hx hb dX12_played_29 (by decide) ?_
    refine zaldk E hw (Nat.le_of_ble_eq_true rfl) (ceM_1 ad cy) 0 (by rfl) (Nat.le_of_ble_eq_true rfl) (by decide) dX12_played_30 ?_
    refine lv_icmp_gt (tgt := 141) hx hb dX12_played_31 (by decide) (fun h => ?_) (fun h => ?_)
    · replace hf := it_t h hf
      refine lv_aload_n hx hb dX12_played_141 rfl (lv_at hl 0 rfl) ?_
      refine lv_iload hx hb dX12_played_142 (lv_at hl 5 rfl) ?_
      refine zputs E hw (Nat.le_of_ble_eq_true rfl) (ceM_0 ad cy _) rfl inX12 tyX12 tyX12_ok nmX12 14 (by decide) k5_237 (fun _ h => h) rfl rfl rfl (Nat.le_of_ble_eq_true rfl) (j := 14) (Eq.trans (ceM_0 ad cy _) (by rfl)) dX12_played_144 (fun σ1 eσ1 H locs hw => ?_)
      replace hf := lt_i eσ1 hf
      refine lv_iload hx hb dX12_played_147 (lv_at hl 4 rfl) ?_
      exact zreti E hw hr hlk (rt_a hf) (rt_b hf) dX12_played_149
    · replace hf := it_f h hf
      refine lv_aload_n hx hb dX12_played_34 rfl (lv_at hl 0 rfl) ?_
      refine lv_iload_n hx hb dX12_played_35 rfl (lv_at hl 1 rfl) ?_
      obtain ⟨σ2, hc, hf⟩ := bd_e hf
      refine zcalv hw (va_runV (As := [.int xq1]) (rest := []) E.fix (c_X12_saves (l := l) hA xq1 σ hc) (zcV E k7_107 k1_14 k7_104 k7_106 kp5_3 mf_X12_saves rfl rfl ⟨by dsimp only; omega, by dsimp only; omega⟩) (zPreV E hw (Nat.le_of_ble_eq_true rfl) (ceM_0 ad cy _) rfl _) rfl rfl hl.1 rfl (lv_room (Nat.le_of_ble_eq_true rfl)) dX12_played_36 ⟨Nat.zero_le _, Nat.zero_le _⟩) (fun H locs hw => ?_)
      refine lv_aload_n hx hb dX12_played_39 rfl (lv_at hl 0 rfl) ?_
      refine lv_iload hx hb dX12_played_40 (lv_at hl 6 rfl) ?_
      obtain ⟨vq3, σ4, hc, hf⟩ := bd2_e hf
      refine zcali hw (va_runV (As := [.int xq6]) (rest := []) E.fix (c_X12_goes (l := l) hA xq6 σ2 hc) (zcV E k7_2 k1_14 k6_239 k7_1 kp4_3 mf_X12_goes rfl rfl ⟨by dsimp only; omega, by dsimp only; omega⟩) (zPreV E hw (Nat.le_of_ble_eq_true rfl) (ceM_0 ad cy _) rfl _) rfl rfl hl.1 rfl (lv_room (Nat.le_of_ble_eq_true rfl)) dX12_played_42 ⟨Nat.zero_le _, Nat.zero_le _⟩) (fun H locs hw => ?_)
      refine lv_istore (lv' := [(7, .int vq3), (0, .ref (ad 0)), (1, .int xq1), (2, .int xq2), (3, .int xq3), (4, .int xq4), (5, .int xq5), (6, .int xq6)]) hx hb dX12_played_45 hl (by decide) rfl (fun ls hl => ?_)
      refine lv_iload hx hb dX12_played_47 (lv_at hl 0 rfl) ?_
      refine lv_aload_n hx hb dX12_played_49 rfl (lv_at hl 1 rfl) ?_
      refine lv_iload_n hx hb dX12_played_50 rfl (lv_at hl 2 rfl) ?_
      refine lv_iconst (v := 1) hx hb dX12_played_51 (by decide) ?_
      refine lv_iadd hx hb dX12_played_52 ?_
      refine lv_iload_n hx hb dX12_played_53 rfl (lv_at hl 3 rfl) ?_
      refine lv_iload_n hx hb dX12_played_54 rfl (lv_at hl 4 rfl) ?_
      refine lv_if_ne (tgt := 62) hx hb dX12_played_55 (by decide) (fun h => ?_) (fun h => ?_)
      · replace hf := it_t h hf
        refine lv_iconst (v := 0) hx hb dX12_played_62 (by decide) ?_
        exact hB63 xq1 xq2 xq3 xq4 xq5 xq6 vq3 (xq1 + 1) xq2 0 kq23 hkq23 σ4 _ _ _ hw (lv_sub hl [1, 2, 3, 4, 5, 6, 7] rfl) hf
      · replace hf := it_n h hf
        refine lv_iconst (v := 1) hx hb dX12_played_58 (by decide) ?_
        refine lv_goto (tgt := 63) hx hb dX12_played_59 (by decide) ?_
        exact hB63 xq1 xq2 xq3 xq4 xq5 xq6 vq3 (xq1 + 1) xq2 1 kq23 hkq23 σ4 _ _ _ hw (lv_sub hl [1, 2, 3, 4, 5, 6, 7] rfl) hf
  have hL23 : ∀ (xq1 : Int32) (xq2 : Int32) (xq3 : Int32) (n : Nat) (xq4 : Int32) (xq5 : Int32) (xq6 : Int32) (σ : Sg) (H : Heap) (locs : List Loc) (ls : Array Slot), ZS D 17 (celM ad cy) ad A s σ H locs → lv_has ls 9 [(0, .ref (ad 0)), (1, .int xq1), (2, .int xq2), (3, .int xq3), (4, .int xq4), (5, .int xq5), (6, .int xq6)] → f_X12_played_l23 rec xq1 xq2 xq3 n xq4 xq5 xq6 σ = some (r, σ9) → W p l e ({ frames := 8 + 1 * (d + 1), cells := 0, slots := 0, locals := 183 + 28 * (d + 1) } : Room) s m args below meth c H locs 0 0 (MQ below (zQi D 17 (celM ad cy) ad A r σ9) args s 0 0 A) (F0 m 23 ls []) := by
    intro xq1 xq2 xq3 n
    induction n with
    | zero =>
      intro xq4 xq5 xq6 σ H locs ls hw hl hf
      exact nn_e hf
    | succ n ih =>
      intro xq4 xq5 xq6 σ H locs ls hw hl hf
      exact hB23 xq1 xq2 xq3 (f_X12_played_l23 rec xq1 xq2 xq3 n) ih xq4 xq5 xq6 σ H locs ls hw hl hf
  unfold f_X12_played_s at hf
  refine lv_iload_n hx hb dX12_played_0 rfl (lv_at hl 1 rfl) ?_
  refine lv_iload_n hx hb dX12_played_1 rfl (lv_at hl 2 rfl) ?_
  refine lv_icmp_eq (tgt := 12) hx hb dX12_played_2 (by decide) (fun h => ?_) (fun h => ?_)
  · replace hf := it_t h hf
    refine lv_iconst (v := 0) hx hb dX12_played_12 (by decide) ?_
    exact zreti E hw hr hlk (rt_a hf) (rt_b hf) dX12_played_13
  · replace hf := it_f h hf
    refine lv_aload_n hx hb dX12_played_5 rfl (lv_at hl 0 rfl) ?_
    refine zcali hw (va_runV (As := []) (rest := []) E.fix (c_X12_isOver (l := l) hA σ rfl) (zcV E k6_230 k1_14 k6_227 k6_229 kp4_1 mf_X12_isOver rfl rfl ⟨by dsimp only; omega, by dsimp only; omega⟩) (zPreV E hw (Nat.le_of_ble_eq_true rfl) (ceM_0 ad cy _) rfl _) rfl rfl hl.1 rfl (lv_room (Nat.le_of_ble_eq_true rfl)) dX12_played_6 ⟨Nat.zero_le _, Nat.zero_le _⟩) (fun H locs hw => ?_)
    refine lv_if_eq (tgt := 14) hx hb dX12_played_9 (by decide) (fun h => ?_) (fun h => ?_)
    · replace hf := it_f (b2i_0 h) hf
      refine lv_iconst (v := 0) hx hb dX12_played_14 (by decide) ?_
      refine lv_istore (lv' := [(4, .int 0), (0, .ref (ad 0)), (1, .int xq1), (2, .int xq2), (3, .int xq3)]) hx hb dX12_played_15 hl (by decide) rfl (fun ls hl => ?_)
      refine lv_iconst (v := (-1)) hx hb dX12_played_17 (by decide) ?_
      refine lv_istore (lv' := [(5, .int (-1)), (4, .int 0), (0, .ref (ad 0)), (1, .int xq1), (2, .int xq2), (3, .int xq3)]) hx hb dX12_played_18 hl (by decide) rfl (fun ls hl => ?_)
      refine lv_iconst (v := 0) hx hb dX12_played_20 (by decide) ?_
      refine lv_istore (lv' := [(6, .int 0), (5, .int (-1)), (4, .int 0), (0, .ref (ad 0)), (1, .int xq1), (2, .int xq2), (3, .int xq3)]) hx hb dX12_played_21 hl (by decide) rfl (fun ls hl => ?_)
      exact hL23 xq1 xq2 xq3 400 0 (-1) 0 σ _ _ _ hw (lv_sub hl [3, 4, 5, 6, 2, 1, 0] rfl) hf
    · replace hf := it_t (b2i_n h) hf
      refine lv_iconst (v := 0) hx hb dX12_played_12 (by decide) ?_
      exact zreti E hw hr hlk (rt_a hf) (rt_b hf) dX12_played_13
theorem c_X12_played {l : Launch} {D : va_G} {cy : Cy} {ad : Nat → Nat} {A : Nat → Prop} (hA : okAd 17 ad A) : ∀ (d : Nat) (xq1 : Int32) (xq2 : Int32) (xq3 : Int32) (σ : Sg) {r : Int32} {σ9 : Sg}, f_X12_played d xq1 xq2 xq3 σ = some (r, σ9) → Met l yX12_played (.code yX12_played cX12_played 9 (some .int) :: TT) ({ frames := 8 + 1 * d, cells := 0, slots := 0, locals := 183 + 28 * d } : Room) (zPc D cy 17 (celM ad cy) ad A [.ref (ad 0), .int xq1, .int xq2, .int xq3] σ) (zQi D 17 (celM ad cy) ad A r σ9) 0 0 A := by
  intro d
  induction d with
  | zero =>
    intro xq1 xq2 xq3 σ r σ9 hf
    exact nn_e hf
  | succ d ih =>
    intro xq1 xq2 xq3 σ r σ9 hf
    exact c_X12_played_s hA (f_X12_played d) d ih xq1 xq2 xq3 σ hf
set_option maxRecDepth 100000 in
set_option maxHeartbeats 4000000 in
theorem c_X12_game {l : Launch} {D : va_G} {cy : Cy} {ad : Nat → Nat} {A : Nat → Prop} (hA : okAd 17 ad A) (xq1 : Int32) (σ : Sg) {r : Int32} {σ9 : Sg} (hf : f_X12_game xq1 σ = some (r, σ9)) : Met l yX12_game (.code yX12_game cX12_game 2 (some .int) :: TT) ({ frames := 15, cells := 0, slots := 0, locals := 379 } : Room) (zPc D cy 17 (celM ad cy) ad A [.ref (ad 0), .int xq1] σ) (zQi D 17 (celM ad cy) ad A r σ9) 0 0 A := by
  refine zofW (by decide) hA (Nat.le_of_ble_eq_true rfl) ?_
  intro p e s m args below meth c ls E hw hr hlk hl
  have E : ZE p s m args c cX12_game 2 "KiteSummonsModel" D cy 17 ad A := E
  have hx := E.hx
  have hb := E.hb
  have hl : lv_has ls 2 [(0, .ref (ad 0)), (1, .int xq1)] := hl
  unfold f_X12_game at hf
  refine lv_iload_n hx hb dX12_game_0 rfl (lv_at hl 1 rfl) ?_
  refine lv_i2l hx hb dX12_game_1 rfl ?_
  refine lv_lconst (v := 1) hx hb dX12_game_2 (by decide) ?_
  refine lv_ldc2 (v := 4) hx hb E.hown (E.ht _ k6_126) dX12_game_3 ?_
  refine zcali hw (va_runS (As := [.long xq1.toInt64, .long (1 : Int64), .long (4 : Int64)]) (rest := []) E.fix (c_X12_in (l := l) hA xq1.toInt64 (1 : Int64) (4 : Int64) σ rfl) (zcS E k6_114 k1_14 k6_112 k6_113 mf_X12_in rfl rfl ⟨Nat.le_of_ble_eq_true rfl, Nat.le_of_ble_eq_true rfl⟩) (zPre E hw _) rfl rfl hl.1 rfl (lv_room (Nat.le_of_ble_eq_true rfl)) dX12_game_6 ⟨Nat.zero_le _, Nat.zero_le _⟩) (fun H locs hw => ?_)
  refine lv_if_eq (tgt := 22) hx hb dX12_game_9 (by decide) (fun h => ?_) (fun h => ?_)
  · replace hf := it_f (b2i_0 h) hf
    refine lv_iconst (v := (-1)) hx hb dX12_game_22 (by decide) ?_
    exact zreti E hw hr hlk (rt_a hf) (rt_b hf) dX12_game_23
  · replace hf := it_t (b2i_n h) hf
    refine lv_aload_n hx hb dX12_game_12 rfl (lv_at hl 0 rfl) ?_
    refine lv_iconst (v := 0) hx hb dX12_game_13 (by decide) ?_
    refine lv_iload_n hx hb dX12_game_14 rfl (lv_at hl 1 rfl) ?_
    refine lv_iconst (v := 1) hx hb dX12_game_15 (by decide) ?_
    obtain ⟨vq1, σ2, hc, hf⟩ := bd2_e hf
    refine zcali hw (va_runV (As := [.int 0, .int xq1, .int 1]) (rest := []) E.fix (c_X12_played (l := l) hA 6 0 xq1 1 σ hc) (zcV E k7_140 k1_14 k7_137 k7_139 kp5_6 mf_X12_played rfl rfl ⟨Nat.le_of_ble_eq_true rfl, Nat.le_of_ble_eq_true rfl⟩) (zPreV E hw (Nat.le_of_ble_eq_true rfl) (ceM_0 ad cy _) rfl _) rfl rfl hl.1 rfl (lv_room (Nat.le_of_ble_eq_true rfl)) dX12_game_16 ⟨Nat.zero_le _, Nat.zero_le _⟩) (fun H locs hw => ?_)
    refine lv_goto (tgt := 23) hx hb dX12_game_19 (by decide) ?_
    exact zreti E hw hr hlk (rt_a hf) (rt_b hf) dX12_game_23
set_option maxRecDepth 100000 in
set_option maxHeartbeats 4000000 in
theorem c_X12_play {l : Launch} {D : va_G} {cy : Cy} {ad : Nat → Nat} {A : Nat → Prop} (hA : okAd 17 ad A) (xq1 : Int32) (σ : Sg) {r : Int32} {σ9 : Sg} (hf : f_X12_play xq1 σ = some (r, σ9)) : Met l yX12_play (.code yX12_play cX12_play 3 (some .int) :: TT) ({ frames := 15, cells := 0, slots := 0, locals := 379 } : Room) (zPc D cy 17 (celM ad cy) ad A [.ref (ad 0), .int xq1] σ) (zQi D 17 (celM ad cy) ad A r σ9) 0 0 A := by
  refine zofW (by decide) hA (Nat.le_of_ble_eq_true rfl) ?_
  intro p e s m args below meth c ls E hw hr hlk hl
  have E : ZE p s m args c cX12_play 3 "KiteSummonsModel" D cy 17 ad A := E
  have hx := E.hx
  have hb := E.hb
  have hl : lv_has ls 3 [(0, .ref (ad 0)), (1, .int xq1)] := hl
  unfold f_X12_play at hf
  refine lv_iload_n hx hb dX12_play_0 rfl (lv_at hl 1 rfl) ?_
  refine lv_i2l hx hb dX12_play_1 rfl ?_
  refine lv_lconst (v := 1) hx hb dX12_play_2 (by decide) ?_
  refine lv_ldc2 (v := 4) hx hb E.hown (E.ht _ k6_126) dX12_play_3 ?_
  refine zcali hw (va_runS (As := [.long xq1.toInt64, .long (1 : Int64), .long (4 : Int64)]) (rest := []) E.fix (c_X12_in (l := l) hA xq1.toInt64 (1 : Int64) (4 : Int64) σ rfl) (zcS E k6_114 k1_14 k6_112 k6_113 mf_X12_in rfl rfl ⟨Nat.le_of_ble_eq_true rfl, Nat.le_of_ble_eq_true rfl⟩) (zPre E hw _) rfl rfl hl.1 rfl (lv_room (Nat.le_of_ble_eq_true rfl)) dX12_play_6 ⟨Nat.zero_le _, Nat.zero_le _⟩) (fun H locs hw => ?_)
  refine lv_if_ne (tgt := 14) hx hb dX12_play_9 (by decide) (fun h => ?_) (fun h => ?_)
  · replace hf := it_t (b2i_n h) hf
    refine lv_aload_n hx hb dX12_play_14 rfl (lv_at hl 0 rfl) ?_
    refine zcali hw (va_runV (As := []) (rest := []) E.fix (c_X12_isOver (l := l) hA σ rfl) (zcV E k6_230 k1_14 k6_227 k6_229 kp4_1 mf_X12_isOver rfl rfl ⟨Nat.le_of_ble_eq_true rfl, Nat.le_of_ble_eq_true rfl⟩) (zPreV E hw (Nat.le_of_ble_eq_true rfl) (ceM_0 ad cy _) rfl _) rfl rfl hl.1 rfl (lv_room (Nat.le_of_ble_eq_true rfl)) dX12_play_15 ⟨Nat.zero_le _, Nat.zero_le _⟩) (fun H locs hw => ?_)
    refine lv_if_eq (tgt := 24) hx hb dX12_play_18 (by decide) (fun h => ?_) (fun h => ?_)
    · replace hf := it_f (b2i_0 h) hf
      refine lv_aload_n hx hb dX12_play_24 rfl (lv_at hl 0 rfl) ?_
      refine lv_iconst (v := 0) hx hb dX12_play_25 (by decide) ?_
      refine lv_iload_n hx hb dX12_play_26 rfl (lv_at hl 1 rfl) ?_
      refine lv_iconst (v := 1) hx hb dX12_play_27 (by decide) ?_
      obtain ⟨vq1, σ2, hc, hf⟩ := bd2_e hf
      refine zcali hw (va_runV (As := [.int 0, .int xq1, .int 1]) (rest := []) E.fix (c_X12_played (l := l) hA 6 0 xq1 1 σ hc) (zcV E k7_140 k1_14 k7_137 k7_139 kp5_6 mf_X12_played rfl rfl ⟨Nat.le_of_ble_eq_true rfl, Nat.le_of_ble_eq_true rfl⟩) (zPreV E hw (Nat.le_of_ble_eq_true rfl) (ceM_0 ad cy _) rfl _) rfl rfl hl.1 rfl (lv_room (Nat.le_of_ble_eq_true rfl)) dX12_play_28 ⟨Nat.zero_le _, Nat.zero_le _⟩) (fun H locs hw => ?_)
      refine lv_istore_n (lv' := [(2, .int vq1), (0, .ref (ad 0)), (1, .int xq1)]) hx hb dX12_play_31 rfl hl (by decide) rfl (fun ls hl => ?_)
      refine lv_aload_n hx hb dX12_play_32 rfl (lv_at hl 1 rfl) ?_
      refine zget E hw (Nat.le_of_ble_eq_true rfl) (ceM_0 ad cy _) rfl inX12 14 (by decide) k5_237 (fun _ h => h) rfl dX12_play_33 ?_
      exact zreti E hw hr hlk (rt_a hf) (rt_b hf) dX12_play_36
    · replace hf := it_t (b2i_n h) hf
      refine lv_bipush (v := (-3)) hx hb dX12_play_21 (by decide) ?_
      exact zreti E hw hr hlk (rt_a hf) (rt_b hf) dX12_play_23
  · replace hf := it_f (b2i_0 h) hf
    refine lv_iconst (v := (-1)) hx hb dX12_play_12 (by decide) ?_
    exact zreti E hw hr hlk (rt_a hf) (rt_b hf) dX12_play_13
set_option maxRecDepth 100000 in
set_option maxHeartbeats 4000000 in
theorem c_X12_report {l : Launch} {D : va_G} {cy : Cy} {ad : Nat → Nat} {A : Nat → Prop} (hA : okAd 17 ad A) (xq1 : Int32) (xq2 : Int32) (xq3 : Int32) (xq4 : Int32) (σ : Sg) {r : Int32} {σ9 : Sg} (hf : f_X12_report xq1 xq2 xq3 xq4 σ = some (r, σ9)) : Met l yX12_report (.code yX12_report cX12_report 6 (some .int) :: TT) ({ frames := 2, cells := 0, slots := 0, locals := 45 } : Room) (zPc D cy 17 (celM ad cy) ad A [.ref (ad 0), .int xq1, .int xq2, .int xq3, .int xq4] σ) (zQi D 17 (celM ad cy) ad A r σ9) 0 0 A := by
  refine zofW (by decide) hA (Nat.le_of_ble_eq_true rfl) ?_
  intro p e s m args below meth c ls E hw hr hlk hl
  have E : ZE p s m args c cX12_report 6 "KiteSummonsModel" D cy 17 ad A := E
  have hx := E.hx
  have hb := E.hb
  have hl : lv_has ls 6 [(0, .ref (ad 0)), (1, .int xq1), (2, .int xq2), (3, .int xq3), (4, .int xq4)] := hl
  unfold f_X12_report at hf
  refine lv_iload_n hx hb dX12_report_0 rfl (lv_at hl 1 rfl) ?_
  refine zcali hw (va_runS (As := [.int xq1]) (rest := []) E.fix (c_X12_isGust (l := l) hA xq1 σ rfl) (zcS E k6_203 k1_14 k6_201 k6_202 mf_X12_isGust rfl rfl ⟨Nat.le_of_ble_eq_true rfl, Nat.le_of_ble_eq_true rfl⟩) (zPre E hw _) rfl rfl hl.1 rfl (lv_room (Nat.le_of_ble_eq_true rfl)) dX12_report_1 ⟨Nat.zero_le _, Nat.zero_le _⟩) (fun H locs hw => ?_)
  refine lv_if_eq (tgt := 43) hx hb dX12_report_4 (by decide) (fun h => ?_) (fun h => ?_)
  · replace hf := it_f (b2i_0 h) hf
    refine lv_iconst (v := (-1)) hx hb dX12_report_43 (by decide) ?_
    exact zreti E hw hr hlk (rt_a hf) (rt_b hf) dX12_report_44
  · replace hf := it_t (b2i_n h) hf
    refine lv_iload_n hx hb dX12_report_7 rfl (lv_at hl 2 rfl) ?_
    refine lv_i2l hx hb dX12_report_8 rfl ?_
    refine lv_lconst (v := 0) hx hb dX12_report_9 (by decide) ?_
    refine lv_lconst (v := 1) hx hb dX12_report_10 (by decide) ?_
    refine zcali hw (va_runS (As := [.long xq2.toInt64, .long (0 : Int64), .long (1 : Int64)]) (rest := []) E.fix (c_X12_in (l := l) hA xq2.toInt64 (0 : Int64) (1 : Int64) σ rfl) (zcS E k6_114 k1_14 k6_112 k6_113 mf_X12_in rfl rfl ⟨Nat.le_of_ble_eq_true rfl, Nat.le_of_ble_eq_true rfl⟩) (zPre E hw _) rfl rfl hl.1 rfl (lv_room (Nat.le_of_ble_eq_true rfl)) dX12_report_11 ⟨Nat.zero_le _, Nat.zero_le _⟩) (fun H locs hw => ?_)
    refine lv_if_eq (tgt := 43) hx hb dX12_report_14 (by decide) (fun h => ?_) (fun h => ?_)
    · replace hf := it_f (b2i_0 h) hf
      refine lv_iconst (v := (-1)) hx hb dX12_report_43 (by decide) ?_
      exact zreti E hw hr hlk (rt_a hf) (rt_b hf) dX12_report_44
    · replace hf := it_t (b2i_n h) hf
      refine lv_iload_n hx hb dX12_report_17 rfl (lv_at hl 3 rfl) ?_
      refine lv_i2l hx hb dX12_report_18 rfl ?_
      refine lv_lconst (v := 0) hx hb dX12_report_19 (by decide) ?_
      refine lv_ldc2 (v := 7) hx hb E.hown (E.ht _ k7_149) dX12_report_20 ?_
      refine zcali hw (va_runS (As := [.long xq3.toInt64, .long (0 : Int64), .long (7 : Int64)]) (rest := []) E.fix (c_X12_in (l := l) hA xq3.toInt64 (0 : Int64) (7 : Int64) σ rfl) (zcS E k6_114 k1_14 k6_112 k6_113 mf_X12_in rfl rfl ⟨Nat.le_of_ble_eq_true rfl, Nat.le_of_ble_eq_true rfl⟩) (zPre E hw _) rfl rfl hl.1 rfl (lv_room (Nat.le_of_ble_eq_true rfl)) dX12_report_23 ⟨Nat.zero_le _, Nat.zero_le _⟩) (fun H locs hw => ?_)
      refine lv_if_eq (tgt := 43) hx hb dX12_report_26 (by decide) (fun h => ?_) (fun h => ?_)
      · replace hf := it_f (b2i_0 h) hf
        refine lv_iconst (v := (-1)) hx hb dX12_report_43 (by decide) ?_
        exact zreti E hw hr hlk (rt_a hf) (rt_b hf) dX12_report_44
      · replace hf := it_t (b2i_n h) hf
        refine lv_iload hx hb dX12_report_29 (lv_at hl 4 rfl) ?_
        refine lv_i2l hx hb dX12_report_31 rfl ?_
        refine lv_iload_n hx hb dX12_report_32 rfl (lv_at hl 3 rfl) ?_
        refine lv_i2l hx hb dX12_report_33 rfl ?_
        refine lv_ldc2 (v := 7) hx hb E.hown (E.ht _ k7_149) dX12_report_34 ?_
        refine zcali hw (va_runS (As := [.long xq4.toInt64, .long xq3.toInt64, .long (7 : Int64)]) (rest := []) E.fix (c_X12_in (l := l) hA xq4.toInt64 xq3.toInt64 (7 : Int64) σ rfl) (zcS E k6_114 k1_14 k6_112 k6_113 mf_X12_in rfl rfl ⟨Nat.le_of_ble_eq_true rfl, Nat.le_of_ble_eq_true rfl⟩) (zPre E hw _) rfl rfl hl.1 rfl (lv_room (Nat.le_of_ble_eq_true rfl)) dX12_report_37 ⟨Nat.zero_le _, Nat.zero_le _⟩) (fun H locs hw => ?_)
        refine lv_if_ne (tgt := 45) hx hb dX12_report_40 (by decide) (fun h => ?_) (fun h => ?_)
        · replace hf := it_t (b2i_n h) hf
          refine lv_aload_n hx hb dX12_report_45 rfl (lv_at hl 0 rfl) ?_
          refine zget E hw (Nat.le_of_ble_eq_true rfl) (ceM_0 ad cy _) rfl inX12 0 (by decide) k5_223 (fun _ h => h) rfl dX12_report_46 ?_
          refine lv_iconst (v := 5) hx hb dX12_report_49 (by decide) ?_
          refine zaldk E hw (Nat.le_of_ble_eq_true rfl) (ceM_1 ad cy) 5 (by rfl) (Nat.le_of_ble_eq_true rfl) (by decide) dX12_report_50 ?_
          refine lv_bipush (v := 6) hx hb dX12_report_51 (by decide) ?_
          refine lv_icmp_ne (tgt := 59) hx hb dX12_report_53 (by decide) (fun h => ?_) (fun h => ?_)
          · replace hf := it_t h hf
            refine lv_bipush (v := 71) hx hb dX12_report_59 (by decide) ?_
            refine lv_iconst (v := 4) hx hb dX12_report_61 (by decide) ?_
            refine lv_aload_n hx hb dX12_report_62 rfl (lv_at hl 0 rfl) ?_
            refine zget E hw (Nat.le_of_ble_eq_true rfl) (ceM_0 ad cy _) rfl inX12 0 (by decide) k5_223 (fun _ h => h) rfl dX12_report_63 ?_
            refine lv_iconst (v := 5) hx hb dX12_report_66 (by decide) ?_
            refine zaldk E hw (Nat.le_of_ble_eq_true rfl) (ceM_1 ad cy) 5 (by rfl) (Nat.le_of_ble_eq_true rfl) (by decide) dX12_report_67 ?_
            refine lv_imul hx hb dX12_report_68 ?_
            refine lv_iadd hx hb dX12_report_69 ?_
            refine lv_topi (fun vq1 evq1 => ?_)
            replace hf := lt_i evq1 hf
            refine lv_istore (lv' := [(5, .int vq1), (0, .ref (ad 0)), (1, .int xq1), (2, .int xq2), (3, .int xq3), (4, .int xq4)]) hx hb dX12_report_70 hl (by decide) rfl (fun ls hl => ?_)
            refine lv_aload_n hx hb dX12_report_72 rfl (lv_at hl 1 rfl) ?_
            refine zget E hw (Nat.le_of_ble_eq_true rfl) (ceM_0 ad cy _) rfl inX12 0 (by decide) k5_223 (fun _ h => h) rfl dX12_report_73 ?_
            refine lv_iload hx hb dX12_report_76 (lv_at hl 0 rfl) ?_
            refine lv_iload_n hx hb dX12_report_78 rfl (lv_at hl 2 rfl) ?_
            obtain ⟨σ2, hσ2, hf⟩ := bd_e hf
            refine zastr E hw (Nat.le_of_ble_eq_true rfl) (ceM_1 ad cy) hσ2 dX12_report_79 (fun H locs hw => ?_)
            refine lv_aload_n hx hb dX12_report_80 rfl (lv_at hl 1 rfl) ?_
            refine zget E hw (Nat.le_of_ble_eq_true rfl) (ceM_0 ad cy _) rfl inX12 0 (by decide) k5_223 (fun _ h => h) rfl dX12_report_81 ?_
            refine lv_iload hx hb dX12_report_84 (lv_at hl 0 rfl) ?_
            refine lv_iconst (v := 1) hx hb dX12_report_86 (by decide) ?_
            refine lv_iadd hx hb dX12_report_87 ?_
            refine lv_iload_n hx hb dX12_report_88 rfl (lv_at hl 3 rfl) ?_
            obtain ⟨σ3, hσ3, hf⟩ := bd_e hf
            refine zastr E hw (Nat.le_of_ble_eq_true rfl) (ceM_1 ad cy) hσ3 dX12_report_89 (fun H locs hw => ?_)
            refine lv_aload_n hx hb dX12_report_90 rfl (lv_at hl 1 rfl) ?_
            refine zget E hw (Nat.le_of_ble_eq_true rfl) (ceM_0 ad cy _) rfl inX12 0 (by decide) k5_223 (fun _ h => h) rfl dX12_report_91 ?_
            refine lv_iload hx hb dX12_report_94 (lv_at hl 0 rfl) ?_
            refine lv_iconst (v := 2) hx hb dX12_report_96 (by decide) ?_
            refine lv_iadd hx hb dX12_report_97 ?_
            refine lv_iload_n hx hb dX12_report_98 rfl (lv_at hl 4 rfl) ?_
            obtain ⟨σ4, hσ4, hf⟩ := bd_e hf
            refine zastr E hw (Nat.le_of_ble_eq_true rfl) (ceM_1 ad cy) hσ4 dX12_report_99 (fun H locs hw => ?_)
            refine lv_aload_n hx hb dX12_report_100 rfl (lv_at hl 1 rfl) ?_
            refine zget E hw (Nat.le_of_ble_eq_true rfl) (ceM_0 ad cy _) rfl inX12 0 (by decide) k5_223 (fun _ h => h) rfl dX12_report_101 ?_
            refine lv_iload hx hb dX12_report_104 (lv_at hl 0 rfl) ?_
            refine lv_iconst (v := 3) hx hb dX12_report_106 (by decide) ?_
            refine lv_iadd hx hb dX12_report_107 ?_
            refine lv_iload hx hb dX12_report_108 (lv_at hl 5 rfl) ?_
            obtain ⟨σ5, hσ5, hf⟩ := bd_e hf
            refine zastr E hw (Nat.le_of_ble_eq_true rfl) (ceM_1 ad cy) hσ5 dX12_report_110 (fun H locs hw => ?_)
            refine lv_aload_n hx hb dX12_report_111 rfl (lv_at hl 1 rfl) ?_
            refine zget E hw (Nat.le_of_ble_eq_true rfl) (ceM_0 ad cy _) rfl inX12 0 (by decide) k5_223 (fun _ h => h) rfl dX12_report_112 ?_
            refine lv_iconst (v := 5) hx hb dX12_report_115 (by decide) ?_
            refine lv_dup2_11 hx hb dX12_report_116 rfl rfl ?_
            refine zaldk E hw (Nat.le_of_ble_eq_true rfl) (ceM_1 ad cy) 5 (by rfl) (Nat.le_of_ble_eq_true rfl) (by decide) dX12_report_117 ?_
            refine lv_iconst (v := 1) hx hb dX12_report_118 (by decide) ?_
            refine lv_iadd hx hb dX12_report_119 ?_
            refine zastk E hw (Nat.le_of_ble_eq_true rfl) (ceM_1 ad cy) 5 (by rfl) (Nat.le_of_ble_eq_true rfl) (by decide) dX12_report_120 (fun σ6 eσ6 H locs hw => ?_)
            replace hf := lt_i eσ6 hf
            refine lv_aload_n hx hb dX12_report_121 rfl (lv_at hl 1 rfl) ?_
            refine zget E hw (Nat.le_of_ble_eq_true rfl) (ceM_0 ad cy _) rfl inX12 0 (by decide) k5_223 (fun _ h => h) rfl dX12_report_122 ?_
            refine lv_iconst (v := 5) hx hb dX12_report_125 (by decide) ?_
            refine zaldk E hw (Nat.le_of_ble_eq_true rfl) (ceM_1 ad cy) 5 (by rfl) (Nat.le_of_ble_eq_true rfl) (by decide) dX12_report_126 ?_
            refine lv_iconst (v := 1) hx hb dX12_report_127 (by decide) ?_
            refine lv_isub hx hb dX12_report_128 ?_
            exact zreti E hw hr hlk (rt_a hf) (rt_b hf) dX12_report_129
          · replace hf := it_n h hf
            refine lv_bipush (v := (-2)) hx hb dX12_report_56 (by decide) ?_
            exact zreti E hw hr hlk (rt_a hf) (rt_b hf) dX12_report_58
        · replace hf := it_f (b2i_0 h) hf
          refine lv_iconst (v := (-1)) hx hb dX12_report_43 (by decide) ?_
          exact zreti E hw hr hlk (rt_a hf) (rt_b hf) dX12_report_44
set_option maxRecDepth 100000 in
set_option maxHeartbeats 4000000 in
theorem c_X12_forget {l : Launch} {D : va_G} {cy : Cy} {ad : Nat → Nat} {A : Nat → Prop} (hA : okAd 17 ad A) (σ : Sg) {r : Int32} {σ9 : Sg} (hf : f_X12_forget σ = some (r, σ9)) : Met l yX12_forget (.code yX12_forget cX12_forget 1 (some .int) :: TT) ({ frames := 1, cells := 0, slots := 0, locals := 23 } : Room) (zPc D cy 17 (celM ad cy) ad A [.ref (ad 0)] σ) (zQi D 17 (celM ad cy) ad A r σ9) 0 0 A := by
  refine zofW (by decide) hA (Nat.le_of_ble_eq_true rfl) ?_
  intro p e s m args below meth c ls E hw hr hlk hl
  have E : ZE p s m args c cX12_forget 1 "KiteSummonsModel" D cy 17 ad A := E
  have hx := E.hx
  have hb := E.hb
  have hl : lv_has ls 1 [(0, .ref (ad 0))] := hl
  unfold f_X12_forget at hf
  refine lv_aload_n hx hb dX12_forget_0 rfl (lv_at hl 0 rfl) ?_
  refine lv_iconst (v := 5) hx hb dX12_forget_1 (by decide) ?_
  refine lv_iconst (v := 0) hx hb dX12_forget_2 (by decide) ?_
  obtain ⟨vq1, σ2, hc, hf⟩ := bd2_e hf
  refine zcali hw (va_runV (As := [.int 5, .int 0]) (rest := []) E.fix (c_X12_becomes (l := l) hA 5 0 σ hc) (zcV E k6_192 k1_14 k6_189 k6_191 kp4_0 mf_X12_becomes rfl rfl ⟨Nat.le_of_ble_eq_true rfl, Nat.le_of_ble_eq_true rfl⟩) (zPreV E hw (Nat.le_of_ble_eq_true rfl) (ceM_0 ad cy _) rfl _) rfl rfl hl.1 rfl (lv_room (Nat.le_of_ble_eq_true rfl)) dX12_forget_3 ⟨Nat.zero_le _, Nat.zero_le _⟩) (fun H locs hw => ?_)
  exact zreti E hw hr hlk (rt_a hf) (rt_b hf) dX12_forget_6
