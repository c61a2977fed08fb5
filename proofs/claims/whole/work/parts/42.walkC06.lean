set_option maxRecDepth 100000 in
set_option maxHeartbeats 4000000 in
theorem c_X11_wouldBe {l : Launch} {D : va_G} {cy : Cy} {ad : Nat → Nat} {A : Nat → Prop} (hA : okAd 97 ad A) (xq1 : Int32) (xq2 : Int32) (xq3 : Int32) (σ : Sg) {r : Int32} {σ9 : Sg} (hf : f_X11_wouldBe xq1 xq2 xq3 σ = some (r, σ9)) : Met l yX11_wouldBe (.code yX11_wouldBe cX11_wouldBe 8 (some .int) :: TT) ({ frames := 5, cells := 0, slots := 0, locals := 118 } : Room) (zPc D cy 97 (celC ad cy) ad A [.ref (ad 0), .int xq1, .int xq2, .int xq3] σ) (zQi D 97 (celC ad cy) ad A r σ9) 0 0 A := by
  refine zofW (by decide) hA (Nat.le_of_ble_eq_true rfl) ?_
  intro p e s m args below meth c ls E hw hr hlk hl
  have E : ZE p s m args c cX11_wouldBe 8 "KiteSummons" D cy 97 ad A := E
  have hx := E.hx
  have hb := E.hb
  have hl : lv_has ls 8 [(0, .ref (ad 0)), (1, .int xq1), (2, .int xq2), (3, .int xq3)] := hl
  have hB55 : ∀ (xq1 : Int32) (xq2 : Int32) (xq3 : Int32) (kq55 : Int32 → Int32 → Sg → Option (Int32 × Sg)) (hkq55 : ∀ (xq5 : Int32) (xq6 : Int32) (σ : Sg) (H : Heap) (locs : List Loc) (ls : Array Slot), ZS D 97 (celC ad cy) ad A s σ H locs → lv_has ls 8 [(0, .ref (ad 0)), (1, .int xq1), (2, .int xq2), (3, .int xq3), (5, .int xq5), (6, .int xq6)] → kq55 xq5 xq6 σ = some (r, σ9) → W p l e ({ frames := 5, cells := 0, slots := 0, locals := 118 } : Room) s m args below meth c H locs 0 0 (MQ below (zQi D 97 (celC ad cy) ad A r σ9) args s 0 0 A) (F0 m 55 ls [])) (xq5 : Int32) (xq6 : Int32) (σ : Sg) (H : Heap) (locs : List Loc) (ls : Array Slot), ZS D 97 (celC ad cy) ad A s σ H locs → lv_has ls 8 [(0, .ref (ad 0)), (1, .int xq1), (2, .int xq2), (3, .int xq3), (5, .int xq5), (6, .int xq6)] → f_X11_wouldBe_b55 kq55 xq1 xq2 xq3 xq5 xq6 σ = some (r, σ9) → W p l e ({ frames := 5, cells := 0, slots := 0, locals := 118 } : Room) s m args below meth c H locs 0 0 (MQ below (zQi D 97 (celC ad cy) ad A r σ9) args s 0 0 A) (F0 m 55 ls []) := by
    intro xq1 xq2 xq3 kq55 hkq55 xq5 xq6 σ H locs ls hw hl hf
    unfold f_X11_wouldBe_b55 at hf
    refine lv_iload hx hb dX11_wouldBe_55 (lv_at hl 5 rfl) ?_
    refine lv_iload_n hx hb dX11_wouldBe_57 rfl (lv_at hl 3 rfl) ?_
    refine lv_icmp_ge (tgt := 154) hx hb dX11_wouldBe_58 (by decide) (fun h => ?_) (fun h => ?_)
    · replace hf := it_t h hf
      refine lv_iload hx hb dX11_wouldBe_154 (lv_at hl 4 rfl) ?_
      exact zreti E hw hr hlk (rt_a hf) (rt_b hf) dX11_wouldBe_156
    · replace hf := it_f h hf
      refine lv_iload_n hx hb dX11_wouldBe_61 rfl (lv_at hl 2 rfl) ?_
      refine lv_iload hx hb dX11_wouldBe_62 (lv_at hl 5 rfl) ?_
      refine lv_iadd hx hb dX11_wouldBe_64 ?_
      refine lv_iconst (v := 0) hx hb dX11_wouldBe_65 (by decide) ?_
      refine lv_aload_n hx hb dX11_wouldBe_66 rfl (lv_at hl 0 rfl) ?_
      refine zget E hw (Nat.le_of_ble_eq_true rfl) (ceC_0 ad cy _) rfl inX11 10 (by decide) k2_131 (fun _ h => h) rfl dX11_wouldBe_67 ?_
      refine lv_iload_n hx hb dX11_wouldBe_70 rfl (lv_at hl 1 rfl) ?_
      obtain ⟨vq3, hvq3, hf⟩ := bd_e hf
      refine zaldr E hw (Nat.le_of_ble_eq_true rfl) (ceC_10 ad cy) hvq3 dX11_wouldBe_71 ?_
      refine lv_iconst (v := 1) hx hb dX11_wouldBe_72 (by decide) ?_
      refine lv_isub hx hb dX11_wouldBe_73 ?_
      refine zcali hw (va_runS (As := [.int (xq2 + xq6), .int 0, .int (vq3 - 1)]) (rest := []) E.fix (c_X11_within (l := l) hA (xq2 + xq6) 0 (vq3 - 1) σ rfl) (zcS E k2_179 k1_1 k2_177 k2_178 mf_X11_within rfl rfl ⟨Nat.le_of_ble_eq_true rfl, Nat.le_of_ble_eq_true rfl⟩) (zPre E hw _) rfl rfl hl.1 rfl (lv_room (Nat.le_of_ble_eq_true rfl)) dX11_wouldBe_74 ⟨Nat.zero_le _, Nat.zero_le _⟩) (fun H locs hw => ?_)
      refine lv_if_ne (tgt := 83) hx hb dX11_wouldBe_77 (by decide) (fun h => ?_) (fun h => ?_)
      · replace hf := it_t (b2i_n h) hf
        refine lv_aload_n hx hb dX11_wouldBe_83 rfl (lv_at hl 0 rfl) ?_
        refine zget E hw (Nat.le_of_ble_eq_true rfl) (ceC_0 ad cy _) rfl inX11 8 (by decide) k2_129 (fun _ h => h) rfl dX11_wouldBe_84 ?_
        refine lv_iload_n hx hb dX11_wouldBe_87 rfl (lv_at hl 1 rfl) ?_
        obtain ⟨hiq4, hf⟩ := gd_e hf
        refine zaldq E hw (Nat.le_of_ble_eq_true rfl) 6 rfl rfl (ceC_19 ad cy _) hiq4 dX11_wouldBe_88 ?_
        refine lv_iload_n hx hb dX11_wouldBe_89 rfl (lv_at hl 2 rfl) ?_
        refine lv_iload hx hb dX11_wouldBe_90 (lv_at hl 5 rfl) ?_
        refine lv_iadd hx hb dX11_wouldBe_92 ?_
        obtain ⟨vq5, hvq5, hf⟩ := bd_e hf
        refine zlaldr E hw (ltItm (itmOf (nlt hiq4))) (fun r => ceItm ad cy r (itmOf (nlt hiq4))) hvq5 dX11_wouldBe_93 ?_
        refine lv_l2i (v := vq5) hx hb dX11_wouldBe_94 (i64_back _) ?_
        refine lv_topi (fun vq6 evq6 => ?_)
        replace hf := lt_i evq6 hf
        refine lv_istore (lv' := [(7, .int vq6), (0, .ref (ad 0)), (1, .int xq1), (2, .int xq2), (3, .int xq3), (5, .int xq5), (6, .int xq6)]) hx hb dX11_wouldBe_95 hl (by decide) rfl (fun ls hl => ?_)
        refine lv_iload hx hb dX11_wouldBe_97 (lv_at hl 0 rfl) ?_
        refine lv_iconst (v := 0) hx hb dX11_wouldBe_99 (by decide) ?_
        refine lv_aload_n hx hb dX11_wouldBe_100 rfl (lv_at hl 1 rfl) ?_
        refine zget E hw (Nat.le_of_ble_eq_true rfl) (ceC_0 ad cy _) rfl inX11 2 (by decide) k2_123 (fun _ h => h) rfl dX11_wouldBe_101 ?_
        refine zget E hw (Nat.le_of_ble_eq_true rfl) (ceC_24 ad cy _) rfl inX1 1 (by decide) k2_10 (fun _ h => h) rfl dX11_wouldBe_104 ?_
        refine zcali hw (va_runS (As := [.int vq6, .int 0, .int (σ 24 1)]) (rest := []) E.fix (c_X11_within (l := l) hA vq6 0 (σ 24 1) σ rfl) (zcS E k2_179 k1_1 k2_177 k2_178 mf_X11_within rfl rfl ⟨Nat.le_of_ble_eq_true rfl, Nat.le_of_ble_eq_true rfl⟩) (zPre E hw _) rfl rfl hl.1 rfl (lv_room (Nat.le_of_ble_eq_true rfl)) dX11_wouldBe_107 ⟨Nat.zero_le _, Nat.zero_le _⟩) (fun H locs hw => ?_)
        refine lv_if_eq (tgt := 127) hx hb dX11_wouldBe_110 (by decide) (fun h => ?_) (fun h => ?_)
        · replace hf := it_f (b2i_0 h) hf
          refine lv_bipush (v := (-4)) hx hb dX11_wouldBe_127 (by decide) ?_
          exact zreti E hw hr hlk (rt_a hf) (rt_b hf) dX11_wouldBe_129
        · replace hf := it_t (b2i_n h) hf
          refine lv_aload_n hx hb dX11_wouldBe_113 rfl (lv_at hl 1 rfl) ?_
          refine zget E hw (Nat.le_of_ble_eq_true rfl) (ceC_0 ad cy _) rfl inX11 2 (by decide) k2_123 (fun _ h => h) rfl dX11_wouldBe_114 ?_
          refine lv_aload_n hx hb dX11_wouldBe_117 rfl (lv_at hl 1 rfl) ?_
          refine zget E hw (Nat.le_of_ble_eq_true rfl) (ceC_0 ad cy _) rfl inX11 6 (by decide) k2_127 (fun _ h => h) rfl dX11_wouldBe_118 ?_
          refine zcali hw (va_runV (As := [.ref (ad 64)]) (rest := []) E.fix (c_X1_isOver (l := l) hA 64 (by unfold isSky; omega) σ rfl) (zcV E k3_106 k1_11 k3_103 k3_104 k3_105 mf_X1_isOver rfl rfl ⟨Nat.le_of_ble_eq_true rfl, Nat.le_of_ble_eq_true rfl⟩) (zPreV E hw (Nat.le_of_ble_eq_true rfl) (ceC_24 ad cy _) rfl _) rfl rfl hl.1 rfl (lv_room (Nat.le_of_ble_eq_true rfl)) dX11_wouldBe_121 ⟨Nat.zero_le _, Nat.zero_le _⟩) (fun H locs hw => ?_)
          refine lv_if_eq (tgt := 130) hx hb dX11_wouldBe_124 (by decide) (fun h => ?_) (fun h => ?_)
          · replace hf := it_f (b2i_0 h) hf
            refine lv_iload hx hb dX11_wouldBe_130 (lv_at hl 5 rfl) ?_
            refine lv_aload_n hx hb dX11_wouldBe_132 rfl (lv_at hl 1 rfl) ?_
            refine zget E hw (Nat.le_of_ble_eq_true rfl) (ceC_0 ad cy _) rfl inX11 2 (by decide) k2_123 (fun _ h => h) rfl dX11_wouldBe_133 ?_
            refine lv_aload_n hx hb dX11_wouldBe_136 rfl (lv_at hl 1 rfl) ?_
            refine zget E hw (Nat.le_of_ble_eq_true rfl) (ceC_0 ad cy _) rfl inX11 6 (by decide) k2_127 (fun _ h => h) rfl dX11_wouldBe_137 ?_
            refine lv_iload hx hb dX11_wouldBe_140 (lv_at hl 0 rfl) ?_
            obtain ⟨vq7, σ8, hc, hf⟩ := bd2_e hf
            refine zcali hw (va_runV (As := [.ref (ad 64), .int vq6]) (rest := [.int xq5]) E.fix (c_X1_goByAct (l := l) hA 64 (by unfold isSky; omega) vq6 σ hc) (zcV E k4_88 k1_11 k4_85 k4_86 k4_87 mf_X1_goByAct rfl rfl ⟨Nat.le_of_ble_eq_true rfl, Nat.le_of_ble_eq_true rfl⟩) (zPreV E hw (Nat.le_of_ble_eq_true rfl) (ceC_24 ad cy _) rfl _) rfl rfl hl.1 rfl (lv_room (Nat.le_of_ble_eq_true rfl)) dX11_wouldBe_142 ⟨Nat.zero_le _, Nat.zero_le _⟩) (fun H locs hw => ?_)
            refine lv_iadd hx hb dX11_wouldBe_145 ?_
            refine lv_topi (fun vq9 evq9 => ?_)
            replace hf := lt_i evq9 hf
            refine lv_istore (lv' := [(5, .int vq9), (7, .int vq6), (0, .ref (ad 0)), (1, .int xq1), (2, .int xq2), (3, .int xq3), (6, .int xq6)]) hx hb dX11_wouldBe_146 hl (by decide) rfl (fun ls hl => ?_)
            refine lv_iinc (v := (xq6 + 1)) (lv' := [(6, .int (xq6 + 1)), (5, .int vq9), (7, .int vq6), (0, .ref (ad 0)), (1, .int xq1), (2, .int xq2), (3, .int xq3)]) hx hb dX11_wouldBe_148 hl (k := 6) rfl (by rfl) (by decide) rfl (fun ls hl => ?_)
            refine lv_goto (tgt := 55) hx hb dX11_wouldBe_151 (by decide) ?_
            exact hkq55 vq9 (xq6 + 1) σ8 _ _ _ hw (lv_sub hl [3, 4, 5, 6, 1, 0] rfl) hf
          · replace hf := it_t (b2i_n h) hf
            refine lv_bipush (v := (-4)) hx hb dX11_wouldBe_127 (by decide) ?_
            exact zreti E hw hr hlk (rt_a hf) (rt_b hf) dX11_wouldBe_129
      · replace hf := it_f (b2i_0 h) hf
        refine lv_bipush (v := (-12)) hx hb dX11_wouldBe_80 (by decide) ?_
        exact zreti E hw hr hlk (rt_a hf) (rt_b hf) dX11_wouldBe_82
  have hL55 : ∀ (xq1 : Int32) (xq2 : Int32) (xq3 : Int32) (n : Nat) (xq5 : Int32) (xq6 : Int32) (σ : Sg) (H : Heap) (locs : List Loc) (ls : Array Slot), ZS D 97 (celC ad cy) ad A s σ H locs → lv_has ls 8 [(0, .ref (ad 0)), (1, .int xq1), (2, .int xq2), (3, .int xq3), (5, .int xq5), (6, .int xq6)] → f_X11_wouldBe_l55 xq1 xq2 xq3 n xq5 xq6 σ = some (r, σ9) → W p l e ({ frames := 5, cells := 0, slots := 0, locals := 118 } : Room) s m args below meth c H locs 0 0 (MQ below (zQi D 97 (celC ad cy) ad A r σ9) args s 0 0 A) (F0 m 55 ls []) := by
    intro xq1 xq2 xq3 n
    induction n with
    | zero =>
      intro xq5 xq6 σ H locs ls hw hl hf
      exact nn_e hf
    | succ n ih =>
      intro xq5 xq6 σ H locs ls hw hl hf
      exact hB55 xq1 xq2 xq3 (f_X11_wouldBe_l55 xq1 xq2 xq3 n) ih xq5 xq6 σ H locs ls hw hl hf
  unfold f_X11_wouldBe at hf
  refine lv_iload_n hx hb dX11_wouldBe_0 rfl (lv_at hl 1 rfl) ?_
  refine zcali hw (va_runS (As := [.int xq1]) (rest := []) E.fix (c_X11_isSheet (l := l) hA xq1 σ rfl) (zcS E k5_25 k1_1 k5_23 k5_24 mf_X11_isSheet rfl rfl ⟨Nat.le_of_ble_eq_true rfl, Nat.le_of_ble_eq_true rfl⟩) (zPre E hw _) rfl rfl hl.1 rfl (lv_room (Nat.le_of_ble_eq_true rfl)) dX11_wouldBe_1 ⟨Nat.zero_le _, Nat.zero_le _⟩) (fun H locs hw => ?_)
  refine lv_if_eq (tgt := 17) hx hb dX11_wouldBe_4 (by decide) (fun h => ?_) (fun h => ?_)
  · replace hf := it_f (b2i_0 h) hf
    refine lv_iconst (v := (-1)) hx hb dX11_wouldBe_17 (by decide) ?_
    exact zreti E hw hr hlk (rt_a hf) (rt_b hf) dX11_wouldBe_18
  · replace hf := it_t (b2i_n h) hf
    refine lv_iload_n hx hb dX11_wouldBe_7 rfl (lv_at hl 3 rfl) ?_
    refine lv_iconst (v := 0) hx hb dX11_wouldBe_8 (by decide) ?_
    refine lv_bipush (v := 20) hx hb dX11_wouldBe_9 (by decide) ?_
    refine zcali hw (va_runS (As := [.int xq3, .int 0, .int 20]) (rest := []) E.fix (c_X11_within (l := l) hA xq3 0 20 σ rfl) (zcS E k2_179 k1_1 k2_177 k2_178 mf_X11_within rfl rfl ⟨Nat.le_of_ble_eq_true rfl, Nat.le_of_ble_eq_true rfl⟩) (zPre E hw _) rfl rfl hl.1 rfl (lv_room (Nat.le_of_ble_eq_true rfl)) dX11_wouldBe_11 ⟨Nat.zero_le _, Nat.zero_le _⟩) (fun H locs hw => ?_)
    refine lv_if_ne (tgt := 19) hx hb dX11_wouldBe_14 (by decide) (fun h => ?_) (fun h => ?_)
    · replace hf := it_t (b2i_n h) hf
      refine lv_aload_n hx hb dX11_wouldBe_19 rfl (lv_at hl 0 rfl) ?_
      refine lv_iload_n hx hb dX11_wouldBe_20 rfl (lv_at hl 1 rfl) ?_
      refine lv_iconst (v := 0) hx hb dX11_wouldBe_21 (by decide) ?_
      obtain ⟨vq1, hc, hf⟩ := bd_e hf
      refine zcali hw (va_runV (As := [.int xq1, .int 0]) (rest := []) E.fix (c_X11_refusalAs (l := l) hA xq1 0 σ hc) (zcV E k5_43 k1_1 k5_40 k5_42 kp3_3 mf_X11_refusalAs rfl rfl ⟨Nat.le_of_ble_eq_true rfl, Nat.le_of_ble_eq_true rfl⟩) (zPreV E hw (Nat.le_of_ble_eq_true rfl) (ceC_0 ad cy _) rfl _) rfl rfl hl.1 rfl (lv_room (Nat.le_of_ble_eq_true rfl)) dX11_wouldBe_22 ⟨Nat.zero_le _, Nat.zero_le _⟩) (fun H locs hw => ?_)
      refine lv_istore (lv' := [(4, .int vq1), (0, .ref (ad 0)), (1, .int xq1), (2, .int xq2), (3, .int xq3)]) hx hb dX11_wouldBe_25 hl (by decide) rfl (fun ls hl => ?_)
      refine lv_iload hx hb dX11_wouldBe_27 (lv_at hl 0 rfl) ?_
      refine lv_if_eq (tgt := 35) hx hb dX11_wouldBe_29 (by decide) (fun h => ?_) (fun h => ?_)
      · replace hf := it_t h hf
        refine lv_aload_n hx hb dX11_wouldBe_35 rfl (lv_at hl 1 rfl) ?_
        refine zget E hw (Nat.le_of_ble_eq_true rfl) (ceC_0 ad cy _) rfl inX11 6 (by decide) k2_127 (fun _ h => h) rfl dX11_wouldBe_36 ?_
        refine lv_aload_n hx hb dX11_wouldBe_39 rfl (lv_at hl 1 rfl) ?_
        refine zget E hw (Nat.le_of_ble_eq_true rfl) (ceC_0 ad cy _) rfl inX11 2 (by decide) k2_123 (fun _ h => h) rfl dX11_wouldBe_40 ?_
        refine zget E hw (Nat.le_of_ble_eq_true rfl) (ceC_24 ad cy _) rfl inX1 15 (by decide) k2_36 (fun _ h => h) rfl dX11_wouldBe_43 ?_
        obtain ⟨σ2, hc, hf⟩ := lt_e hf
        refine zcalv hw (va_runV (As := [.ref (ad 41)]) (rest := []) E.fix (c_X10_copy (l := l) hA 64 (by unfold isSky; omega) 41 (by unfold isSky; omega) σ hc) (zcV E k4_63 k1_4 k4_60 k4_61 k4_62 mf_X10_copy rfl rfl ⟨Nat.le_of_ble_eq_true rfl, Nat.le_of_ble_eq_true rfl⟩) (zPreV E hw (Nat.le_of_ble_eq_true rfl) (ceC_64 ad cy _) rfl _) rfl rfl hl.1 rfl (lv_room (Nat.le_of_ble_eq_true rfl)) dX11_wouldBe_46 ⟨Nat.zero_le _, Nat.zero_le _⟩) (fun H locs hw => ?_)
        refine lv_iconst (v := 0) hx hb dX11_wouldBe_49 (by decide) ?_
        refine lv_istore (lv' := [(5, .int 0), (4, .int vq1), (0, .ref (ad 0)), (1, .int xq1), (2, .int xq2), (3, .int xq3)]) hx hb dX11_wouldBe_50 hl (by decide) rfl (fun ls hl => ?_)
        refine lv_iconst (v := 0) hx hb dX11_wouldBe_52 (by decide) ?_
        refine lv_istore (lv' := [(6, .int 0), (5, .int 0), (4, .int vq1), (0, .ref (ad 0)), (1, .int xq1), (2, .int xq2), (3, .int xq3)]) hx hb dX11_wouldBe_53 hl (by decide) rfl (fun ls hl => ?_)
        exact hL55 xq1 xq2 xq3 400 0 0 σ2 _ _ _ hw (lv_sub hl [3, 4, 5, 6, 1, 0] rfl) hf
      · replace hf := it_f h hf
        refine lv_iload hx hb dX11_wouldBe_32 (lv_at hl 0 rfl) ?_
        exact zreti E hw hr hlk (rt_a hf) (rt_b hf) dX11_wouldBe_34
    · replace hf := it_f (b2i_0 h) hf
      refine lv_iconst (v := (-1)) hx hb dX11_wouldBe_17 (by decide) ?_
      exact zreti E hw hr hlk (rt_a hf) (rt_b hf) dX11_wouldBe_18
set_option maxRecDepth 100000 in
set_option maxHeartbeats 4000000 in
theorem c_X11_isShelf {l : Launch} {D : va_G} {cy : Cy} {ad : Nat → Nat} {A : Nat → Prop} (hA : okAd 97 ad A) (xq0 : Int32) (σ : Sg) {r : Bool} (hf : f_X11_isShelf xq0 σ = r) : Met l yX11_isShelf (.code yX11_isShelf cX11_isShelf 1 (some .boolean) :: TT) ({ frames := 1, cells := 0, slots := 0, locals := 22 } : Room) (zPc D cy 97 (celC ad cy) ad A [.int xq0] σ) (zQi D 97 (celC ad cy) ad A (b2i r) σ) 0 0 A := by
  refine zofW (by decide) hA (Nat.le_of_ble_eq_true rfl) ?_
  intro p e s m args below meth c ls E hw hr hlk hl
  have E : ZE p s m args c cX11_isShelf 1 "KiteSummons" D cy 97 ad A := E
  have hx := E.hx
  have hb := E.hb
  have hl : lv_has ls 1 [(0, .int xq0)] := hl
  unfold f_X11_isShelf at hf
  refine lv_iload_n hx hb dX11_isShelf_0 rfl (lv_at hl 0 rfl) ?_
  refine lv_iconst (v := 0) hx hb dX11_isShelf_1 (by decide) ?_
  refine lv_iconst (v := 3) hx hb dX11_isShelf_2 (by decide) ?_
  refine zcali hw (va_runS (As := [.int xq0, .int 0, .int 3]) (rest := []) E.fix (c_X11_within (l := l) hA xq0 0 3 σ rfl) (zcS E k2_179 k1_1 k2_177 k2_178 mf_X11_within rfl rfl ⟨Nat.le_of_ble_eq_true rfl, Nat.le_of_ble_eq_true rfl⟩) (zPre E hw _) rfl rfl hl.1 rfl (lv_room (Nat.le_of_ble_eq_true rfl)) dX11_isShelf_3 ⟨Nat.zero_le _, Nat.zero_le _⟩) (fun H locs hw => ?_)
  exact zretz E hw hr hlk (b_e hf (by rfl)) rfl dX11_isShelf_6
set_option maxRecDepth 100000 in
set_option maxHeartbeats 4000000 in
theorem c_X11_putOn {l : Launch} {D : va_G} {cy : Cy} {ad : Nat → Nat} {A : Nat → Prop} (hA : okAd 97 ad A) (xq1 : Int32) (xq2 : Int32) (xq3 : Int32) (xq4 : Int32) (σ : Sg) {r : Int32} {σ9 : Sg} (hf : f_X11_putOn xq1 xq2 xq3 xq4 σ = some (r, σ9)) : Met l yX11_putOn (.code yX11_putOn cX11_putOn 5 (some .int) :: TT) ({ frames := 0, cells := 0, slots := 0, locals := 0 } : Room) (zPc D cy 97 (celC ad cy) ad A [.ref (ad 0), .int xq1, .int xq2, .int xq3, .int xq4] σ) (zQi D 97 (celC ad cy) ad A r σ9) 0 0 A := by
  refine zofW (by decide) hA (Nat.le_of_ble_eq_true rfl) ?_
  intro p e s m args below meth c ls E hw hr hlk hl
  have E : ZE p s m args c cX11_putOn 5 "KiteSummons" D cy 97 ad A := E
  have hx := E.hx
  have hb := E.hb
  have hl : lv_has ls 5 [(0, .ref (ad 0)), (1, .int xq1), (2, .int xq2), (3, .int xq3), (4, .int xq4)] := hl
  unfold f_X11_putOn at hf
  refine lv_aload_n hx hb dX11_putOn_0 rfl (lv_at hl 0 rfl) ?_
  refine zget E hw (Nat.le_of_ble_eq_true rfl) (ceC_0 ad cy _) rfl inX11 11 (by decide) k2_132 (fun _ h => h) rfl dX11_putOn_1 ?_
  refine lv_iload_n hx hb dX11_putOn_4 rfl (lv_at hl 1 rfl) ?_
  refine lv_iload_n hx hb dX11_putOn_5 rfl (lv_at hl 2 rfl) ?_
  obtain ⟨σ1, hσ1, hf⟩ := bd_e hf
  refine zastr E hw (Nat.le_of_ble_eq_true rfl) (ceC_11 ad cy) hσ1 dX11_putOn_6 (fun H locs hw => ?_)
  refine lv_aload_n hx hb dX11_putOn_7 rfl (lv_at hl 0 rfl) ?_
  refine zget E hw (Nat.le_of_ble_eq_true rfl) (ceC_0 ad cy _) rfl inX11 12 (by decide) k2_133 (fun _ h => h) rfl dX11_putOn_8 ?_
  refine lv_iload_n hx hb dX11_putOn_11 rfl (lv_at hl 1 rfl) ?_
  refine lv_iload_n hx hb dX11_putOn_12 rfl (lv_at hl 3 rfl) ?_
  obtain ⟨σ2, hσ2, hf⟩ := bd_e hf
  refine zastr E hw (Nat.le_of_ble_eq_true rfl) (ceC_12 ad cy) hσ2 dX11_putOn_13 (fun H locs hw => ?_)
  refine lv_aload_n hx hb dX11_putOn_14 rfl (lv_at hl 0 rfl) ?_
  refine zget E hw (Nat.le_of_ble_eq_true rfl) (ceC_0 ad cy _) rfl inX11 13 (by decide) k2_134 (fun _ h => h) rfl dX11_putOn_15 ?_
  refine lv_iload_n hx hb dX11_putOn_18 rfl (lv_at hl 1 rfl) ?_
  refine lv_iload hx hb dX11_putOn_19 (lv_at hl 4 rfl) ?_
  obtain ⟨σ3, hσ3, hf⟩ := bd_e hf
  refine zastr E hw (Nat.le_of_ble_eq_true rfl) (ceC_13 ad cy) hσ3 dX11_putOn_21 (fun H locs hw => ?_)
  refine lv_iconst (v := 1) hx hb dX11_putOn_22 (by decide) ?_
  exact zreti E hw hr hlk (rt_a hf) (rt_b hf) dX11_putOn_23
set_option maxRecDepth 100000 in
set_option maxHeartbeats 4000000 in
theorem c_X11_putRowOn {l : Launch} {D : va_G} {cy : Cy} {ad : Nat → Nat} {A : Nat → Prop} (hA : okAd 97 ad A) (xq1 : Int32) (xq2 : Int32) (σ : Sg) {r : Int32} {σ9 : Sg} (hf : f_X11_putRowOn xq1 xq2 σ = some (r, σ9)) : Met l yX11_putRowOn (.code yX11_putRowOn cX11_putRowOn 3 (some .int) :: TT) ({ frames := 1, cells := 0, slots := 0, locals := 24 } : Room) (zPc D cy 97 (celC ad cy) ad A [.ref (ad 0), .int xq1, .int xq2] σ) (zQi D 97 (celC ad cy) ad A r σ9) 0 0 A := by
  refine zofW (by decide) hA (Nat.le_of_ble_eq_true rfl) ?_
  intro p e s m args below meth c ls E hw hr hlk hl
  have E : ZE p s m args c cX11_putRowOn 3 "KiteSummons" D cy 97 ad A := E
  have hx := E.hx
  have hb := E.hb
  have hl : lv_has ls 3 [(0, .ref (ad 0)), (1, .int xq1), (2, .int xq2)] := hl
  unfold f_X11_putRowOn at hf
  refine lv_aload_n hx hb dX11_putRowOn_0 rfl (lv_at hl 0 rfl) ?_
  refine zget E hw (Nat.le_of_ble_eq_true rfl) (ceC_0 ad cy _) rfl inX11 9 (by decide) k2_130 (fun _ h => h) rfl dX11_putRowOn_1 ?_
  refine lv_iload_n hx hb dX11_putRowOn_4 rfl (lv_at hl 2 rfl) ?_
  obtain ⟨vq1, hvq1, hf⟩ := bd_e hf
  refine zaldr E hw (Nat.le_of_ble_eq_true rfl) (ceC_9 ad cy) hvq1 dX11_putRowOn_5 ?_
  refine lv_iconst (v := (-1)) hx hb dX11_putRowOn_6 (by decide) ?_
  refine lv_icmp_ne (tgt := 19) hx hb dX11_putRowOn_7 (by decide) (fun h => ?_) (fun h => ?_)
  · replace hf := it_t h hf
    refine lv_aload_n hx hb dX11_putRowOn_19 rfl (lv_at hl 0 rfl) ?_
    refine lv_iload_n hx hb dX11_putRowOn_20 rfl (lv_at hl 1 rfl) ?_
    refine lv_iconst (v := 1) hx hb dX11_putRowOn_21 (by decide) ?_
    refine lv_aload_n hx hb dX11_putRowOn_22 rfl (lv_at hl 0 rfl) ?_
    refine zget E hw (Nat.le_of_ble_eq_true rfl) (ceC_0 ad cy _) rfl inX11 9 (by decide) k2_130 (fun _ h => h) rfl dX11_putRowOn_23 ?_
    refine lv_iload_n hx hb dX11_putRowOn_26 rfl (lv_at hl 2 rfl) ?_
    obtain ⟨vq2, hvq2, hf⟩ := bd_e hf
    refine zaldr E hw (Nat.le_of_ble_eq_true rfl) (ceC_9 ad cy) hvq2 dX11_putRowOn_27 ?_
    refine lv_aload_n hx hb dX11_putRowOn_28 rfl (lv_at hl 0 rfl) ?_
    refine zget E hw (Nat.le_of_ble_eq_true rfl) (ceC_0 ad cy _) rfl inX11 10 (by decide) k2_131 (fun _ h => h) rfl dX11_putRowOn_29 ?_
    refine lv_iload_n hx hb dX11_putRowOn_32 rfl (lv_at hl 2 rfl) ?_
    obtain ⟨vq3, hvq3, hf⟩ := bd_e hf
    refine zaldr E hw (Nat.le_of_ble_eq_true rfl) (ceC_10 ad cy) hvq3 dX11_putRowOn_33 ?_
    obtain ⟨vq4, σ5, hc, hf⟩ := bd2_e hf
    refine zcali hw (va_runV (As := [.int xq1, .int 1, .int vq2, .int vq3]) (rest := []) E.fix (c_X11_putOn (l := l) hA xq1 1 vq2 vq3 σ hc) (zcV E k5_62 k1_1 k5_59 k5_61 kp3_4 mf_X11_putOn rfl rfl ⟨Nat.le_of_ble_eq_true rfl, Nat.le_of_ble_eq_true rfl⟩) (zPreV E hw (Nat.le_of_ble_eq_true rfl) (ceC_0 ad cy _) rfl _) rfl rfl hl.1 rfl (lv_room (Nat.le_of_ble_eq_true rfl)) dX11_putRowOn_34 ⟨Nat.zero_le _, Nat.zero_le _⟩) (fun H locs hw => ?_)
    exact zreti E hw hr hlk (rt_a hf) (rt_b hf) dX11_putRowOn_37
  · replace hf := it_n h hf
    refine lv_aload_n hx hb dX11_putRowOn_10 rfl (lv_at hl 0 rfl) ?_
    refine lv_iload_n hx hb dX11_putRowOn_11 rfl (lv_at hl 1 rfl) ?_
    refine lv_iconst (v := 2) hx hb dX11_putRowOn_12 (by decide) ?_
    refine lv_iconst (v := 0) hx hb dX11_putRowOn_13 (by decide) ?_
    refine lv_iconst (v := 0) hx hb dX11_putRowOn_14 (by decide) ?_
    obtain ⟨vq6, σ7, hc, hf⟩ := bd2_e hf
    refine zcali hw (va_runV (As := [.int xq1, .int 2, .int 0, .int 0]) (rest := []) E.fix (c_X11_putOn (l := l) hA xq1 2 0 0 σ hc) (zcV E k5_62 k1_1 k5_59 k5_61 kp3_4 mf_X11_putOn rfl rfl ⟨Nat.le_of_ble_eq_true rfl, Nat.le_of_ble_eq_true rfl⟩) (zPreV E hw (Nat.le_of_ble_eq_true rfl) (ceC_0 ad cy _) rfl _) rfl rfl hl.1 rfl (lv_room (Nat.le_of_ble_eq_true rfl)) dX11_putRowOn_15 ⟨Nat.zero_le _, Nat.zero_le _⟩) (fun H locs hw => ?_)
    exact zreti E hw hr hlk (rt_a hf) (rt_b hf) dX11_putRowOn_18
set_option maxRecDepth 100000 in
set_option maxHeartbeats 4000000 in
theorem c_X11_shelf {l : Launch} {D : va_G} {cy : Cy} {ad : Nat → Nat} {A : Nat → Prop} (hA : okAd 97 ad A) (xq1 : Int32) (xq2 : Int32) (xq3 : Int32) (σ : Sg) {r : Int32} {σ9 : Sg} (hf : f_X11_shelf xq1 xq2 xq3 σ = some (r, σ9)) : Met l yX11_shelf (.code yX11_shelf cX11_shelf 4 (some .int) :: TT) ({ frames := 2, cells := 0, slots := 0, locals := 46 } : Room) (zPc D cy 97 (celC ad cy) ad A [.ref (ad 0), .int xq1, .int xq2, .int xq3] σ) (zQi D 97 (celC ad cy) ad A r σ9) 0 0 A := by
  refine zofW (by decide) hA (Nat.le_of_ble_eq_true rfl) ?_
  intro p e s m args below meth c ls E hw hr hlk hl
  have E : ZE p s m args c cX11_shelf 4 "KiteSummons" D cy 97 ad A := E
  have hx := E.hx
  have hb := E.hb
  have hl : lv_has ls 4 [(0, .ref (ad 0)), (1, .int xq1), (2, .int xq2), (3, .int xq3)] := hl
  unfold f_X11_shelf at hf
  refine lv_iload_n hx hb dX11_shelf_0 rfl (lv_at hl 1 rfl) ?_
  refine zcali hw (va_runS (As := [.int xq1]) (rest := []) E.fix (c_X11_isShelf (l := l) hA xq1 σ rfl) (zcS E k5_58 k1_1 k5_56 k5_57 mf_X11_isShelf rfl rfl ⟨Nat.le_of_ble_eq_true rfl, Nat.le_of_ble_eq_true rfl⟩) (zPre E hw _) rfl rfl hl.1 rfl (lv_room (Nat.le_of_ble_eq_true rfl)) dX11_shelf_1 ⟨Nat.zero_le _, Nat.zero_le _⟩) (fun H locs hw => ?_)
  refine lv_if_ne (tgt := 9) hx hb dX11_shelf_4 (by decide) (fun h => ?_) (fun h => ?_)
  · replace hf := it_t (b2i_n h) hf
    refine lv_iload_n hx hb dX11_shelf_9 rfl (lv_at hl 2 rfl) ?_
    by_cases hc10_0 : xq2 = 0
    · replace hf := it_t hc10_0 hf
      refine lv_tableIn (tgt := 36) (off := 26) hx hb dX11_shelf_10 (by rw [hc10_0]; decide) (by rw [hc10_0]; decide) (by rw [hc10_0]; rfl) (by decide) ?_
      refine lv_aload_n hx hb dX11_shelf_36 rfl (lv_at hl 0 rfl) ?_
      refine lv_iload_n hx hb dX11_shelf_37 rfl (lv_at hl 3 rfl) ?_
      refine zcali hw (va_runV (As := [.int xq3]) (rest := []) E.fix (c_X11_isKite (l := l) hA xq3 σ rfl) (zcV E k2_194 k1_1 k2_191 k2_193 kp1_0 mf_X11_isKite rfl rfl ⟨Nat.le_of_ble_eq_true rfl, Nat.le_of_ble_eq_true rfl⟩) (zPreV E hw (Nat.le_of_ble_eq_true rfl) (ceC_0 ad cy _) rfl _) rfl rfl hl.1 rfl (lv_room (Nat.le_of_ble_eq_true rfl)) dX11_shelf_38 ⟨Nat.zero_le _, Nat.zero_le _⟩) (fun H locs hw => ?_)
      refine lv_if_eq (tgt := 55) hx hb dX11_shelf_41 (by decide) (fun h => ?_) (fun h => ?_)
      · replace hf := it_f (b2i_0 h) hf
        refine lv_iconst (v := (-1)) hx hb dX11_shelf_55 (by decide) ?_
        exact zreti E hw hr hlk (rt_a hf) (rt_b hf) dX11_shelf_56
      · replace hf := it_t (b2i_n h) hf
        refine lv_aload_n hx hb dX11_shelf_44 rfl (lv_at hl 0 rfl) ?_
        refine lv_iload_n hx hb dX11_shelf_45 rfl (lv_at hl 1 rfl) ?_
        refine lv_iconst (v := 0) hx hb dX11_shelf_46 (by decide) ?_
        refine lv_iload_n hx hb dX11_shelf_47 rfl (lv_at hl 3 rfl) ?_
        refine lv_iconst (v := 0) hx hb dX11_shelf_48 (by decide) ?_
        obtain ⟨vq1, σ2, hc, hf⟩ := bd2_e hf
        refine zcali hw (va_runV (As := [.int xq1, .int 0, .int xq3, .int 0]) (rest := []) E.fix (c_X11_putOn (l := l) hA xq1 0 xq3 0 σ hc) (zcV E k5_62 k1_1 k5_59 k5_61 kp3_4 mf_X11_putOn rfl rfl ⟨Nat.le_of_ble_eq_true rfl, Nat.le_of_ble_eq_true rfl⟩) (zPreV E hw (Nat.le_of_ble_eq_true rfl) (ceC_0 ad cy _) rfl _) rfl rfl hl.1 rfl (lv_room (Nat.le_of_ble_eq_true rfl)) dX11_shelf_49 ⟨Nat.zero_le _, Nat.zero_le _⟩) (fun H locs hw => ?_)
        refine lv_goto (tgt := 56) hx hb dX11_shelf_52 (by decide) ?_
        exact zreti E hw hr hlk (rt_a hf) (rt_b hf) dX11_shelf_56
    · replace hf := it_f hc10_0 hf
      by_cases hc10_1 : xq2 = 1
      · replace hf := it_t hc10_1 hf
        refine lv_tableIn (tgt := 57) (off := 47) hx hb dX11_shelf_10 (by rw [hc10_1]; decide) (by rw [hc10_1]; decide) (by rw [hc10_1]; rfl) (by decide) ?_
        refine lv_iload_n hx hb dX11_shelf_57 rfl (lv_at hl 3 rfl) ?_
        refine zcali hw (va_runS (As := [.int xq3]) (rest := []) E.fix (c_X11_isSheet (l := l) hA xq3 σ rfl) (zcS E k5_25 k1_1 k5_23 k5_24 mf_X11_isSheet rfl rfl ⟨Nat.le_of_ble_eq_true rfl, Nat.le_of_ble_eq_true rfl⟩) (zPre E hw _) rfl rfl hl.1 rfl (lv_room (Nat.le_of_ble_eq_true rfl)) dX11_shelf_58 ⟨Nat.zero_le _, Nat.zero_le _⟩) (fun H locs hw => ?_)
        refine lv_if_eq (tgt := 73) hx hb dX11_shelf_61 (by decide) (fun h => ?_) (fun h => ?_)
        · replace hf := it_f (b2i_0 h) hf
          refine lv_iconst (v := (-1)) hx hb dX11_shelf_73 (by decide) ?_
          exact zreti E hw hr hlk (rt_a hf) (rt_b hf) dX11_shelf_74
        · replace hf := it_t (b2i_n h) hf
          refine lv_aload_n hx hb dX11_shelf_64 rfl (lv_at hl 0 rfl) ?_
          refine lv_iload_n hx hb dX11_shelf_65 rfl (lv_at hl 1 rfl) ?_
          refine lv_iload_n hx hb dX11_shelf_66 rfl (lv_at hl 3 rfl) ?_
          obtain ⟨vq3, σ4, hc, hf⟩ := bd2_e hf
          refine zcali hw (va_runV (As := [.int xq1, .int xq3]) (rest := []) E.fix (c_X11_putRowOn (l := l) hA xq1 xq3 σ hc) (zcV E k5_66 k1_1 k5_63 k5_65 kp3_5 mf_X11_putRowOn rfl rfl ⟨Nat.le_of_ble_eq_true rfl, Nat.le_of_ble_eq_true rfl⟩) (zPreV E hw (Nat.le_of_ble_eq_true rfl) (ceC_0 ad cy _) rfl _) rfl rfl hl.1 rfl (lv_room (Nat.le_of_ble_eq_true rfl)) dX11_shelf_67 ⟨Nat.zero_le _, Nat.zero_le _⟩) (fun H locs hw => ?_)
          refine lv_goto (tgt := 74) hx hb dX11_shelf_70 (by decide) ?_
          exact zreti E hw hr hlk (rt_a hf) (rt_b hf) dX11_shelf_74
      · replace hf := it_f hc10_1 hf
        by_cases hc10_2 : xq2 = 2
        · replace hf := it_t hc10_2 hf
          refine lv_tableIn (tgt := 75) (off := 65) hx hb dX11_shelf_10 (by rw [hc10_2]; decide) (by rw [hc10_2]; decide) (by rw [hc10_2]; rfl) (by decide) ?_
          refine lv_aload_n hx hb dX11_shelf_75 rfl (lv_at hl 0 rfl) ?_
          refine lv_iload_n hx hb dX11_shelf_76 rfl (lv_at hl 1 rfl) ?_
          refine lv_iconst (v := 2) hx hb dX11_shelf_77 (by decide) ?_
          refine lv_iconst (v := 0) hx hb dX11_shelf_78 (by decide) ?_
          refine lv_iconst (v := 0) hx hb dX11_shelf_79 (by decide) ?_
          obtain ⟨vq5, σ6, hc, hf⟩ := bd2_e hf
          refine zcali hw (va_runV (As := [.int xq1, .int 2, .int 0, .int 0]) (rest := []) E.fix (c_X11_putOn (l := l) hA xq1 2 0 0 σ hc) (zcV E k5_62 k1_1 k5_59 k5_61 kp3_4 mf_X11_putOn rfl rfl ⟨Nat.le_of_ble_eq_true rfl, Nat.le_of_ble_eq_true rfl⟩) (zPreV E hw (Nat.le_of_ble_eq_true rfl) (ceC_0 ad cy _) rfl _) rfl rfl hl.1 rfl (lv_room (Nat.le_of_ble_eq_true rfl)) dX11_shelf_80 ⟨Nat.zero_le _, Nat.zero_le _⟩) (fun H locs hw => ?_)
          exact zreti E hw hr hlk (rt_a hf) (rt_b hf) dX11_shelf_83
        · replace hf := it_f hc10_2 hf
          refine lv_tableOut (tgt := 84) hx hb dX11_shelf_10 (by have := lv_neT hc10_0 (a := 0) rfl; have := lv_neT hc10_1 (a := 1) rfl; have := lv_neT hc10_2 (a := 2) rfl; omega) (by decide) ?_
          refine lv_iconst (v := (-1)) hx hb dX11_shelf_84 (by decide) ?_
          exact zreti E hw hr hlk (rt_a hf) (rt_b hf) dX11_shelf_85
  · replace hf := it_f (b2i_0 h) hf
    refine lv_iconst (v := (-1)) hx hb dX11_shelf_7 (by decide) ?_
    exact zreti E hw hr hlk (rt_a hf) (rt_b hf) dX11_shelf_8
set_option maxRecDepth 100000 in
set_option maxHeartbeats 4000000 in
theorem c_X11_holdsKite {l : Launch} {D : va_G} {cy : Cy} {ad : Nat → Nat} {A : Nat → Prop} (hA : okAd 97 ad A) (xq1 : Int32) (σ : Sg) {r : Bool} (hf : f_X11_holdsKite xq1 σ = some r) : Met l yX11_holdsKite (.code yX11_holdsKite cX11_holdsKite 2 (some .boolean) :: TT) ({ frames := 2, cells := 0, slots := 0, locals := 43 } : Room) (zPc D cy 97 (celC ad cy) ad A [.ref (ad 0), .int xq1] σ) (zQi D 97 (celC ad cy) ad A (b2i r) σ) 0 0 A := by
  refine zofW (by decide) hA (Nat.le_of_ble_eq_true rfl) ?_
  intro p e s m args below meth c ls E hw hr hlk hl
  have E : ZE p s m args c cX11_holdsKite 2 "KiteSummons" D cy 97 ad A := E
  have hx := E.hx
  have hb := E.hb
  have hl : lv_has ls 2 [(0, .ref (ad 0)), (1, .int xq1)] := hl
  unfold f_X11_holdsKite at hf
  refine lv_aload_n hx hb dX11_holdsKite_0 rfl (lv_at hl 0 rfl) ?_
  refine zget E hw (Nat.le_of_ble_eq_true rfl) (ceC_0 ad cy _) rfl inX11 11 (by decide) k2_132 (fun _ h => h) rfl dX11_holdsKite_1 ?_
  refine lv_iload_n hx hb dX11_holdsKite_4 rfl (lv_at hl 1 rfl) ?_
  obtain ⟨vq1, hvq1, hf⟩ := bd_e hf
  refine zaldr E hw (Nat.le_of_ble_eq_true rfl) (ceC_11 ad cy) hvq1 dX11_holdsKite_5 ?_
  refine lv_if_ne (tgt := 26) hx hb dX11_holdsKite_6 (by decide) (fun h => ?_) (fun h => ?_)
  · replace hf := it_t h hf
    refine lv_iconst (v := 0) hx hb dX11_holdsKite_26 (by decide) ?_
    exact zretz E hw hr hlk (b_e (rt_1 hf) (by rfl)) rfl dX11_holdsKite_27
  · replace hf := it_n h hf
    refine lv_aload_n hx hb dX11_holdsKite_9 rfl (lv_at hl 0 rfl) ?_
    refine lv_aload_n hx hb dX11_holdsKite_10 rfl (lv_at hl 0 rfl) ?_
    refine zget E hw (Nat.le_of_ble_eq_true rfl) (ceC_0 ad cy _) rfl inX11 12 (by decide) k2_133 (fun _ h => h) rfl dX11_holdsKite_11 ?_
    refine lv_iload_n hx hb dX11_holdsKite_14 rfl (lv_at hl 1 rfl) ?_
    obtain ⟨vq2, hvq2, hf⟩ := bd_e hf
    refine zaldr E hw (Nat.le_of_ble_eq_true rfl) (ceC_12 ad cy) hvq2 dX11_holdsKite_15 ?_
    refine zcali hw (va_runV (As := [.int vq2]) (rest := []) E.fix (c_X11_isKite (l := l) hA vq2 σ rfl) (zcV E k2_194 k1_1 k2_191 k2_193 kp1_0 mf_X11_isKite rfl rfl ⟨Nat.le_of_ble_eq_true rfl, Nat.le_of_ble_eq_true rfl⟩) (zPreV E hw (Nat.le_of_ble_eq_true rfl) (ceC_0 ad cy _) rfl _) rfl rfl hl.1 rfl (lv_room (Nat.le_of_ble_eq_true rfl)) dX11_holdsKite_16 ⟨Nat.zero_le _, Nat.zero_le _⟩) (fun H locs hw => ?_)
    refine lv_if_eq (tgt := 26) hx hb dX11_holdsKite_19 (by decide) (fun h => ?_) (fun h => ?_)
    · replace hf := it_f (b2i_0 h) hf
      refine lv_iconst (v := 0) hx hb dX11_holdsKite_26 (by decide) ?_
      exact zretz E hw hr hlk (b_e (rt_1 hf) (by rfl)) rfl dX11_holdsKite_27
    · replace hf := it_t (b2i_n h) hf
      refine lv_iconst (v := 1) hx hb dX11_holdsKite_22 (by decide) ?_
      refine lv_goto (tgt := 27) hx hb dX11_holdsKite_23 (by decide) ?_
      exact zretz E hw hr hlk (b_e (rt_1 hf) (by rfl)) rfl dX11_holdsKite_27
set_option maxRecDepth 100000 in
set_option maxHeartbeats 4000000 in
theorem c_X11_taken {l : Launch} {D : va_G} {cy : Cy} {ad : Nat → Nat} {A : Nat → Prop} (hA : okAd 97 ad A) (xq1 : Int32) (xq2 : Int32) (σ : Sg) {r : Int32} (hf : f_X11_taken xq1 xq2 σ = some r) : Met l yX11_taken (.code yX11_taken cX11_taken 5 (some .int) :: TT) ({ frames := 3, cells := 0, slots := 0, locals := 64 } : Room) (zPc D cy 97 (celC ad cy) ad A [.ref (ad 0), .int xq1, .int xq2] σ) (zQi D 97 (celC ad cy) ad A r σ) 0 0 A := by
  refine zofW (by decide) hA (Nat.le_of_ble_eq_true rfl) ?_
  intro p e s m args below meth c ls E hw hr hlk hl
  have E : ZE p s m args c cX11_taken 5 "KiteSummons" D cy 97 ad A := E
  have hx := E.hx
  have hb := E.hb
  have hl : lv_has ls 5 [(0, .ref (ad 0)), (1, .int xq1), (2, .int xq2)] := hl
  have hB31 : ∀ (xq1 : Int32) (xq2 : Int32) (xq3 : Int32) (H : Heap) (locs : List Loc) (ls : Array Slot), ZS D 97 (celC ad cy) ad A s σ H locs → lv_has ls 5 [(0, .ref (ad 0)), (1, .int xq1), (2, .int xq2), (3, .int xq3)] → f_X11_taken_b31 xq1 xq2 xq3 σ = some r → W p l e ({ frames := 3, cells := 0, slots := 0, locals := 64 } : Room) s m args below meth c H locs 0 0 (MQ below (zQi D 97 (celC ad cy) ad A r σ) args s 0 0 A) (F0 m 31 ls []) := by
    intro xq1 xq2 xq3 H locs ls hw hl hf
    unfold f_X11_taken_b31 at hf
    refine lv_aload_n hx hb dX11_taken_31 rfl (lv_at hl 0 rfl) ?_
    refine lv_iload_n hx hb dX11_taken_32 rfl (lv_at hl 1 rfl) ?_
    obtain ⟨vq1, hc, hf⟩ := bd_e hf
    refine zcali hw (va_runV (As := [.int xq1]) (rest := []) E.fix (c_X11_holdsKite (l := l) hA xq1 σ hc) (zcV E k5_74 k1_1 k5_71 k5_73 kp3_6 mf_X11_holdsKite rfl rfl ⟨Nat.le_of_ble_eq_true rfl, Nat.le_of_ble_eq_true rfl⟩) (zPreV E hw (Nat.le_of_ble_eq_true rfl) (ceC_0 ad cy _) rfl _) rfl rfl hl.1 rfl (lv_room (Nat.le_of_ble_eq_true rfl)) dX11_taken_33 ⟨Nat.zero_le _, Nat.zero_le _⟩) (fun H locs hw => ?_)
    refine lv_if_eq (tgt := 76) hx hb dX11_taken_36 (by decide) (fun h => ?_) (fun h => ?_)
    · replace hf := it_f (b2i_0 h) hf
      refine lv_aload_n hx hb dX11_taken_76 rfl (lv_at hl 0 rfl) ?_
      refine zget E hw (Nat.le_of_ble_eq_true rfl) (ceC_0 ad cy _) rfl inX11 11 (by decide) k2_132 (fun _ h => h) rfl dX11_taken_77 ?_
      refine lv_iload_n hx hb dX11_taken_80 rfl (lv_at hl 1 rfl) ?_
      obtain ⟨vq2, hvq2, hf⟩ := bd_e hf
      refine zaldr E hw (Nat.le_of_ble_eq_true rfl) (ceC_11 ad cy) hvq2 dX11_taken_81 ?_
      refine lv_iconst (v := 1) hx hb dX11_taken_82 (by decide) ?_
      refine lv_icmp_ne (tgt := 111) hx hb dX11_taken_83 (by decide) (fun h => ?_) (fun h => ?_)
      · replace hf := it_t h hf
        refine lv_bipush (v := (-11)) hx hb dX11_taken_111 (by decide) ?_
        exact zreti E hw hr hlk (rt_1 hf) rfl dX11_taken_113
      · replace hf := it_n h hf
        refine lv_aload_n hx hb dX11_taken_86 rfl (lv_at hl 0 rfl) ?_
        refine zget E hw (Nat.le_of_ble_eq_true rfl) (ceC_0 ad cy _) rfl inX11 12 (by decide) k2_133 (fun _ h => h) rfl dX11_taken_87 ?_
        refine lv_iload_n hx hb dX11_taken_90 rfl (lv_at hl 1 rfl) ?_
        obtain ⟨vq3, hvq3, hf⟩ := bd_e hf
        refine zaldr E hw (Nat.le_of_ble_eq_true rfl) (ceC_12 ad cy) hvq3 dX11_taken_91 ?_
        refine lv_iload_n hx hb dX11_taken_92 rfl (lv_at hl 2 rfl) ?_
        refine lv_bipush (v := 10) hx hb dX11_taken_93 (by decide) ?_
        refine lv_isub hx hb dX11_taken_95 ?_
        refine lv_icmp_ne (tgt := 108) hx hb dX11_taken_96 (by decide) (fun h => ?_) (fun h => ?_)
        · replace hf := it_t h hf
          refine lv_bipush (v := (-13)) hx hb dX11_taken_108 (by decide) ?_
          exact zreti E hw hr hlk (rt_1 hf) rfl dX11_taken_110
        · replace hf := it_n h hf
          refine lv_aload_n hx hb dX11_taken_99 rfl (lv_at hl 0 rfl) ?_
          refine zget E hw (Nat.le_of_ble_eq_true rfl) (ceC_0 ad cy _) rfl inX11 13 (by decide) k2_134 (fun _ h => h) rfl dX11_taken_100 ?_
          refine lv_iload_n hx hb dX11_taken_103 rfl (lv_at hl 1 rfl) ?_
          obtain ⟨vq4, hvq4, hf⟩ := bd_e hf
          refine zaldr E hw (Nat.le_of_ble_eq_true rfl) (ceC_13 ad cy) hvq4 dX11_taken_104 ?_
          refine lv_goto (tgt := 110) hx hb dX11_taken_105 (by decide) ?_
          exact zreti E hw hr hlk (rt_1 hf) rfl dX11_taken_110
    · replace hf := it_t (b2i_n h) hf
      refine lv_aload_n hx hb dX11_taken_39 rfl (lv_at hl 0 rfl) ?_
      refine zget E hw (Nat.le_of_ble_eq_true rfl) (ceC_0 ad cy _) rfl inX11 12 (by decide) k2_133 (fun _ h => h) rfl dX11_taken_40 ?_
      refine lv_iload_n hx hb dX11_taken_43 rfl (lv_at hl 1 rfl) ?_
      obtain ⟨vq5, hvq5, hf⟩ := bd_e hf
      refine zaldr E hw (Nat.le_of_ble_eq_true rfl) (ceC_12 ad cy) hvq5 dX11_taken_44 ?_
      refine lv_istore (lv' := [(4, .int vq5), (0, .ref (ad 0)), (1, .int xq1), (2, .int xq2), (3, .int xq3)]) hx hb dX11_taken_45 hl (by decide) rfl (fun ls hl => ?_)
      refine lv_iload_n hx hb dX11_taken_47 rfl (lv_at hl 4 rfl) ?_
      refine lv_if_ne (tgt := 73) hx hb dX11_taken_48 (by decide) (fun h => ?_) (fun h => ?_)
      · replace hf := it_t h hf
        refine lv_bipush (v := (-13)) hx hb dX11_taken_73 (by decide) ?_
        exact zreti E hw hr hlk (rt_1 hf) rfl dX11_taken_75
      · replace hf := it_n h hf
        refine lv_aload_n hx hb dX11_taken_51 rfl (lv_at hl 1 rfl) ?_
        refine zget E hw (Nat.le_of_ble_eq_true rfl) (ceC_0 ad cy _) rfl inX11 2 (by decide) k2_123 (fun _ h => h) rfl dX11_taken_52 ?_
        refine zget E hw (Nat.le_of_ble_eq_true rfl) (ceC_24 ad cy _) rfl inX1 5 (by decide) k2_19 (fun _ h => h) rfl dX11_taken_55 ?_
        refine lv_iload hx hb dX11_taken_58 (lv_at hl 0 rfl) ?_
        obtain ⟨vq6, hvq6, hf⟩ := bd_e hf
        refine zaldr E hw (Nat.le_of_ble_eq_true rfl) (ceC_25 ad cy) hvq6 dX11_taken_60 ?_
        refine lv_iload_n hx hb dX11_taken_61 rfl (lv_at hl 3 rfl) ?_
        refine zcali hw (va_runS (As := [.int vq6, .int xq2]) (rest := []) E.fix (c_X11_isOrUnder (l := l) hA vq6 xq2 σ rfl) (zcS E k3_51 k1_1 k5_75 k3_50 mf_X11_isOrUnder rfl rfl ⟨Nat.le_of_ble_eq_true rfl, Nat.le_of_ble_eq_true rfl⟩) (zPre E hw _) rfl rfl hl.1 rfl (lv_room (Nat.le_of_ble_eq_true rfl)) dX11_taken_62 ⟨Nat.zero_le _, Nat.zero_le _⟩) (fun H locs hw => ?_)
        refine lv_if_eq (tgt := 73) hx hb dX11_taken_65 (by decide) (fun h => ?_) (fun h => ?_)
        · replace hf := it_f (b2i_0 h) hf
          refine lv_bipush (v := (-13)) hx hb dX11_taken_73 (by decide) ?_
          exact zreti E hw hr hlk (rt_1 hf) rfl dX11_taken_75
        · replace hf := it_t (b2i_n h) hf
          refine lv_iload hx hb dX11_taken_68 (lv_at hl 0 rfl) ?_
          refine lv_goto (tgt := 75) hx hb dX11_taken_70 (by decide) ?_
          exact zreti E hw hr hlk (rt_1 hf) rfl dX11_taken_75
  unfold f_X11_taken at hf
  refine lv_iload_n hx hb dX11_taken_0 rfl (lv_at hl 2 rfl) ?_
  refine lv_bipush (v := 10) hx hb dX11_taken_1 (by decide) ?_
  refine lv_bipush (v := 14) hx hb dX11_taken_3 (by decide) ?_
  refine zcali hw (va_runS (As := [.int xq2, .int 10, .int 14]) (rest := []) E.fix (c_X11_within (l := l) hA xq2 10 14 σ rfl) (zcS E k2_179 k1_1 k2_177 k2_178 mf_X11_within rfl rfl ⟨Nat.le_of_ble_eq_true rfl, Nat.le_of_ble_eq_true rfl⟩) (zPre E hw _) rfl rfl hl.1 rfl (lv_room (Nat.le_of_ble_eq_true rfl)) dX11_taken_5 ⟨Nat.zero_le _, Nat.zero_le _⟩) (fun H locs hw => ?_)
  refine lv_istore_n (lv' := [(3, .int (b2i (f_X11_within xq2 10 14 σ))), (0, .ref (ad 0)), (1, .int xq1), (2, .int xq2)]) hx hb dX11_taken_8 rfl hl (by decide) rfl (fun ls hl => ?_)
  refine lv_iload_n hx hb dX11_taken_9 rfl (lv_at hl 2 rfl) ?_
  refine zcali hw (va_runS (As := [.int xq1]) (rest := []) E.fix (c_X11_isShelf (l := l) hA xq1 σ rfl) (zcS E k5_58 k1_1 k5_56 k5_57 mf_X11_isShelf rfl rfl ⟨Nat.le_of_ble_eq_true rfl, Nat.le_of_ble_eq_true rfl⟩) (zPre E hw _) rfl rfl hl.1 rfl (lv_room (Nat.le_of_ble_eq_true rfl)) dX11_taken_10 ⟨Nat.zero_le _, Nat.zero_le _⟩) (fun H locs hw => ?_)
  refine lv_if_eq (tgt := 29) hx hb dX11_taken_13 (by decide) (fun h => ?_) (fun h => ?_)
  · replace hf := it_f (b2i_0 h) hf
    refine lv_iconst (v := (-1)) hx hb dX11_taken_29 (by decide) ?_
    exact zreti E hw hr hlk (rt_1 hf) rfl dX11_taken_30
  · replace hf := it_t (b2i_n h) hf
    refine lv_iload_n hx hb dX11_taken_16 rfl (lv_at hl 0 rfl) ?_
    refine lv_if_ne (tgt := 31) hx hb dX11_taken_17 (by decide) (fun h => ?_) (fun h => ?_)
    · replace hf := it_t (b2i_n h) hf
      exact hB31 xq1 xq2 (b2i (f_X11_within xq2 10 14 σ)) _ _ _ hw (lv_sub hl [1, 2, 3, 0] rfl) hf
    · replace hf := it_f (b2i_0 h) hf
      refine lv_iload_n hx hb dX11_taken_20 rfl (lv_at hl 3 rfl) ?_
      refine lv_iconst (v := 0) hx hb dX11_taken_21 (by decide) ?_
      refine lv_iconst (v := 5) hx hb dX11_taken_22 (by decide) ?_
      refine zcali hw (va_runS (As := [.int xq2, .int 0, .int 5]) (rest := []) E.fix (c_X11_within (l := l) hA xq2 0 5 σ rfl) (zcS E k2_179 k1_1 k2_177 k2_178 mf_X11_within rfl rfl ⟨Nat.le_of_ble_eq_true rfl, Nat.le_of_ble_eq_true rfl⟩) (zPre E hw _) rfl rfl hl.1 rfl (lv_room (Nat.le_of_ble_eq_true rfl)) dX11_taken_23 ⟨Nat.zero_le _, Nat.zero_le _⟩) (fun H locs hw => ?_)
      refine lv_if_ne (tgt := 31) hx hb dX11_taken_26 (by decide) (fun h => ?_) (fun h => ?_)
      · replace hf := it_t (b2i_n h) hf
        exact hB31 xq1 xq2 (b2i (f_X11_within xq2 10 14 σ)) _ _ _ hw (lv_sub hl [1, 2, 3, 0] rfl) hf
      · replace hf := it_f (b2i_0 h) hf
        refine lv_iconst (v := (-1)) hx hb dX11_taken_29 (by decide) ?_
        exact zreti E hw hr hlk (rt_1 hf) rfl dX11_taken_30
set_option maxRecDepth 100000 in
set_option maxHeartbeats 4000000 in
theorem c_X11_act {l : Launch} {D : va_G} {cy : Cy} {ad : Nat → Nat} {A : Nat → Prop} (hA : okAd 97 ad A) (xq1 : Int32) (xq2 : Int32) (xq3 : Int32) (σ : Sg) {r : Int32} {σ9 : Sg} (hf : f_X11_act xq1 xq2 xq3 σ = some (r, σ9)) : Met l yX11_act (.code yX11_act cX11_act 7 (some .int) :: TT) ({ frames := 7, cells := 0, slots := 0, locals := 149 } : Room) (zPc D cy 97 (celC ad cy) ad A [.ref (ad 0), .int xq1, .int xq2, .int xq3] σ) (zQi D 97 (celC ad cy) ad A r σ9) 0 0 A := by
  refine zofW (by decide) hA (Nat.le_of_ble_eq_true rfl) ?_
  intro p e s m args below meth c ls E hw hr hlk hl
  have E : ZE p s m args c cX11_act 7 "KiteSummons" D cy 97 ad A := E
  have hx := E.hx
  have hb := E.hb
  have hl : lv_has ls 7 [(0, .ref (ad 0)), (1, .int xq1), (2, .int xq2), (3, .int xq3)] := hl
  have hB141 : ∀ (iq5 : Nat) (hiqq5 : iq5 < 6) (xq6 : Int32) (σ : Sg) (H : Heap) (locs : List Loc) (ls : Array Slot), ZS D 97 (celC ad cy) ad A s σ H locs → lv_has ls 7 [(0, .ref (ad 0)), (5, .ref (ad (3 + iq5))), (6, .int xq6)] → f_X11_act_b141 iq5 xq6 σ = some (r, σ9) → W p l e ({ frames := 7, cells := 0, slots := 0, locals := 149 } : Room) s m args below meth c H locs 0 0 (MQ below (zQi D 97 (celC ad cy) ad A r σ9) args s 0 0 A) (F0 m 141 ls []) := by
    intro iq5 hiqq5 xq6 σ H locs ls hw hl hf
    unfold f_X11_act_b141 at hf
    refine lv_aload_n hx hb dX11_act_141 rfl (lv_at hl 0 rfl) ?_
    refine lv_aload hx hb dX11_act_142 (lv_at hl 1 rfl) ?_
    refine zgetK3 E hw hiqq5 k1_160 dX11_act_144 ?_
    refine zputs E hw (Nat.le_of_ble_eq_true rfl) (ceC_0 ad cy _) rfl inX11 tyX11 tyX11_ok nmX11 16 (by decide) k2_137 (fun _ h => h) rfl rfl rfl (Nat.le_of_ble_eq_true rfl) (j := 16) (Eq.trans (ceC_0 ad cy _) (by rfl)) dX11_act_147 (fun σ16 eσ16 H locs hw => ?_)
    replace hf := lt_i eσ16 hf
    refine lv_aload hx hb dX11_act_150 (lv_at hl 1 rfl) ?_
    refine zgetK4 E hw hiqq5 k1_162 dX11_act_152 ?_
    refine lv_if_eq (tgt := 163) hx hb dX11_act_155 (by decide) (fun h => ?_) (fun h => ?_)
    · replace hf := it_t h hf
      refine lv_iload hx hb dX11_act_163 (lv_at hl 2 rfl) ?_
      exact zreti E hw hr hlk (rt_a hf) (rt_b hf) dX11_act_165
    · replace hf := it_f h hf
      refine lv_bipush (v := (-15)) hx hb dX11_act_158 (by decide) ?_
      refine lv_goto (tgt := 165) hx hb dX11_act_160 (by decide) ?_
      exact zreti E hw hr hlk (rt_a hf) (rt_b hf) dX11_act_165
  unfold f_X11_act at hf
  refine lv_aload_n hx hb dX11_act_0 rfl (lv_at hl 0 rfl) ?_
  refine lv_iconst (v := 0) hx hb dX11_act_1 (by decide) ?_
  refine zputs E hw (Nat.le_of_ble_eq_true rfl) (ceC_0 ad cy _) rfl inX11 tyX11 tyX11_ok nmX11 16 (by decide) k2_137 (fun _ h => h) rfl rfl rfl (Nat.le_of_ble_eq_true rfl) (j := 16) (Eq.trans (ceC_0 ad cy _) (by rfl)) dX11_act_2 (fun σ1 eσ1 H locs hw => ?_)
  replace hf := lt_i eσ1 hf
  refine lv_iload_n hx hb dX11_act_5 rfl (lv_at hl 1 rfl) ?_
  refine zcali hw (va_runS (As := [.int xq1]) (rest := []) E.fix (c_X11_isShelf (l := l) hA xq1 σ1 rfl) (zcS E k5_58 k1_1 k5_56 k5_57 mf_X11_isShelf rfl rfl ⟨Nat.le_of_ble_eq_true rfl, Nat.le_of_ble_eq_true rfl⟩) (zPre E hw _) rfl rfl hl.1 rfl (lv_room (Nat.le_of_ble_eq_true rfl)) dX11_act_6 ⟨Nat.zero_le _, Nat.zero_le _⟩) (fun H locs hw => ?_)
  refine lv_if_eq (tgt := 29) hx hb dX11_act_9 (by decide) (fun h => ?_) (fun h => ?_)
  · replace hf := it_f (b2i_0 h) hf
    refine lv_iconst (v := 0) hx hb dX11_act_29 (by decide) ?_
    exact zreti E hw hr hlk (rt_a hf) (rt_b hf) dX11_act_30
  · replace hf := it_t (b2i_n h) hf
    refine lv_iload_n hx hb dX11_act_12 rfl (lv_at hl 2 rfl) ?_
    refine lv_iconst (v := 0) hx hb dX11_act_13 (by decide) ?_
    refine lv_iconst (v := 3) hx hb dX11_act_14 (by decide) ?_
    refine zcali hw (va_runS (As := [.int xq2, .int 0, .int 3]) (rest := []) E.fix (c_X11_within (l := l) hA xq2 0 3 σ1 rfl) (zcS E k2_179 k1_1 k2_177 k2_178 mf_X11_within rfl rfl ⟨Nat.le_of_ble_eq_true rfl, Nat.le_of_ble_eq_true rfl⟩) (zPre E hw _) rfl rfl hl.1 rfl (lv_room (Nat.le_of_ble_eq_true rfl)) dX11_act_15 ⟨Nat.zero_le _, Nat.zero_le _⟩) (fun H locs hw => ?_)
    refine lv_if_eq (tgt := 29) hx hb dX11_act_18 (by decide) (fun h => ?_) (fun h => ?_)
    · replace hf := it_f (b2i_0 h) hf
      refine lv_iconst (v := 0) hx hb dX11_act_29 (by decide) ?_
      exact zreti E hw hr hlk (rt_a hf) (rt_b hf) dX11_act_30
    · replace hf := it_t (b2i_n h) hf
      refine lv_aload_n hx hb dX11_act_21 rfl (lv_at hl 0 rfl) ?_
      refine lv_iload_n hx hb dX11_act_22 rfl (lv_at hl 1 rfl) ?_
      obtain ⟨vq2, hc, hf⟩ := bd_e hf
      refine zcali hw (va_runV (As := [.int xq1]) (rest := []) E.fix (c_X11_holdsKite (l := l) hA xq1 σ1 hc) (zcV E k5_74 k1_1 k5_71 k5_73 kp3_6 mf_X11_holdsKite rfl rfl ⟨Nat.le_of_ble_eq_true rfl, Nat.le_of_ble_eq_true rfl⟩) (zPreV E hw (Nat.le_of_ble_eq_true rfl) (ceC_0 ad cy _) rfl _) rfl rfl hl.1 rfl (lv_room (Nat.le_of_ble_eq_true rfl)) dX11_act_23 ⟨Nat.zero_le _, Nat.zero_le _⟩) (fun H locs hw => ?_)
      refine lv_if_ne (tgt := 31) hx hb dX11_act_26 (by decide) (fun h => ?_) (fun h => ?_)
      · replace hf := it_t (b2i_n h) hf
        refine lv_aload_n hx hb dX11_act_31 rfl (lv_at hl 0 rfl) ?_
        refine zget E hw (Nat.le_of_ble_eq_true rfl) (ceC_0 ad cy _) rfl inX11 12 (by decide) k2_133 (fun _ h => h) rfl dX11_act_32 ?_
        refine lv_iload_n hx hb dX11_act_35 rfl (lv_at hl 1 rfl) ?_
        obtain ⟨vq3, hvq3, hf⟩ := bd_e hf
        refine zaldr E hw (Nat.le_of_ble_eq_true rfl) (ceC_12 ad cy) hvq3 dX11_act_36 ?_
        refine lv_istore (lv' := [(4, .int vq3), (0, .ref (ad 0)), (1, .int xq1), (2, .int xq2), (3, .int xq3)]) hx hb dX11_act_37 hl (by decide) rfl (fun ls hl => ?_)
        refine lv_aload_n hx hb dX11_act_39 rfl (lv_at hl 1 rfl) ?_
        refine zget E hw (Nat.le_of_ble_eq_true rfl) (ceC_0 ad cy _) rfl inX11 1 (by decide) k2_122 (fun _ h => h) rfl dX11_act_40 ?_
        refine lv_aload_n hx hb dX11_act_43 rfl (lv_at hl 1 rfl) ?_
        refine zget E hw (Nat.le_of_ble_eq_true rfl) (ceC_0 ad cy _) rfl inX11 2 (by decide) k2_123 (fun _ h => h) rfl dX11_act_44 ?_
        refine zget E hw (Nat.le_of_ble_eq_true rfl) (ceC_24 ad cy _) rfl inX1 5 (by decide) k2_19 (fun _ h => h) rfl dX11_act_47 ?_
        refine lv_iload hx hb dX11_act_50 (lv_at hl 0 rfl) ?_
        obtain ⟨vq4, hvq4, hf⟩ := bd_e hf
        refine zaldr E hw (Nat.le_of_ble_eq_true rfl) (ceC_25 ad cy) hvq4 dX11_act_52 ?_
        obtain ⟨hiq5, hf⟩ := gd_e hf
        refine zaldq E hw (Nat.le_of_ble_eq_true rfl) 3 rfl rfl (ceC_2 ad cy _) hiq5 dX11_act_53 ?_
        refine lv_astore (lv' := [(5, .ref (ad (3 + vq4.toNatClampNeg))), (4, .int vq3), (0, .ref (ad 0)), (1, .int xq1), (2, .int xq2), (3, .int xq3)]) hx hb dX11_act_54 hl (by decide) rfl (fun ls hl => ?_)
        refine lv_aload hx hb dX11_act_56 (lv_at hl 0 rfl) ?_
        refine lv_iload hx hb dX11_act_58 (lv_at hl 1 rfl) ?_
        refine lv_aload_n hx hb dX11_act_60 rfl (lv_at hl 2 rfl) ?_
        refine zget E hw (Nat.le_of_ble_eq_true rfl) (ceC_0 ad cy _) rfl inX11 2 (by decide) k2_123 (fun _ h => h) rfl dX11_act_61 ?_
        refine zget E hw (Nat.le_of_ble_eq_true rfl) (ceC_24 ad cy _) rfl inX1 6 (by decide) k2_21 (fun _ h => h) rfl dX11_act_64 ?_
        refine lv_iload hx hb dX11_act_67 (lv_at hl 1 rfl) ?_
        obtain ⟨vq6, hvq6, hf⟩ := bd_e hf
        refine zaldr E hw (Nat.le_of_ble_eq_true rfl) (ceC_26 ad cy) hvq6 dX11_act_69 ?_
        obtain ⟨σ7, hc, hf⟩ := lt_e hf
        refine vs_X11_348 hA E hw hl.1 (Nat.le_of_ble_eq_true rfl) (Nat.le_of_ble_eq_true rfl) (Nat.le_of_ble_eq_true rfl) (nlt hiq5) hc dX11_act_70 (fun H locs hw => ?_)
        refine lv_iload_n hx hb dX11_act_73 rfl (lv_at hl 4 rfl) ?_
        by_cases hc74_0 : xq2 = 0
        · replace hf := it_t hc74_0 hf
          refine lv_tableIn (tgt := 100) (off := 26) hx hb dX11_act_74 (by rw [hc74_0]; decide) (by rw [hc74_0]; decide) (by rw [hc74_0]; rfl) (by decide) ?_
          refine lv_aload hx hb dX11_act_100 (lv_at hl 0 rfl) ?_
          refine lv_iload_n hx hb dX11_act_102 rfl (lv_at hl 5 rfl) ?_
          obtain ⟨vq8, σ9, hc, hf⟩ := bd2_e hf
          refine vs_X11_351 hA E hw hl.1 (Nat.le_of_ble_eq_true rfl) (Nat.le_of_ble_eq_true rfl) (Nat.le_of_ble_eq_true rfl) (nlt hiq5) hc dX11_act_103 (fun H locs hw => ?_)
          refine lv_istore (lv' := [(6, .int vq8), (5, .ref (ad (3 + vq4.toNatClampNeg))), (4, .int vq3), (0, .ref (ad 0)), (1, .int xq1), (2, .int xq2), (3, .int xq3)]) hx hb dX11_act_106 hl (by decide) rfl (fun ls hl => ?_)
          refine lv_goto (tgt := 141) hx hb dX11_act_108 (by decide) ?_
          exact hB141 vq4.toNatClampNeg (nlt hiq5) vq8 σ9 _ _ _ hw (lv_sub hl [3, 1, 0] rfl) hf
        · replace hf := it_f hc74_0 hf
          by_cases hc74_1 : xq2 = 1
          · replace hf := it_t hc74_1 hf
            refine lv_tableIn (tgt := 111) (off := 37) hx hb dX11_act_74 (by rw [hc74_1]; decide) (by rw [hc74_1]; decide) (by rw [hc74_1]; rfl) (by decide) ?_
            refine lv_aload hx hb dX11_act_111 (lv_at hl 0 rfl) ?_
            refine lv_iload_n hx hb dX11_act_113 rfl (lv_at hl 5 rfl) ?_
            obtain ⟨vq10, σ11, hc, hf⟩ := bd2_e hf
            refine vs_X11_354 hA E hw hl.1 (Nat.le_of_ble_eq_true rfl) (Nat.le_of_ble_eq_true rfl) (Nat.le_of_ble_eq_true rfl) (nlt hiq5) hc dX11_act_114 (fun H locs hw => ?_)
            refine lv_istore (lv' := [(6, .int vq10), (5, .ref (ad (3 + vq4.toNatClampNeg))), (4, .int vq3), (0, .ref (ad 0)), (1, .int xq1), (2, .int xq2), (3, .int xq3)]) hx hb dX11_act_117 hl (by decide) rfl (fun ls hl => ?_)
            refine lv_goto (tgt := 141) hx hb dX11_act_119 (by decide) ?_
            exact hB141 vq4.toNatClampNeg (nlt hiq5) vq10 σ11 _ _ _ hw (lv_sub hl [3, 1, 0] rfl) hf
          · replace hf := it_f hc74_1 hf
            by_cases hc74_2 : xq2 = 2
            · replace hf := it_t hc74_2 hf
              refine lv_tableIn (tgt := 122) (off := 48) hx hb dX11_act_74 (by rw [hc74_2]; decide) (by rw [hc74_2]; decide) (by rw [hc74_2]; rfl) (by decide) ?_
              refine lv_aload hx hb dX11_act_122 (lv_at hl 0 rfl) ?_
              refine lv_iload_n hx hb dX11_act_124 rfl (lv_at hl 5 rfl) ?_
              obtain ⟨vq12, σ13, hc, hf⟩ := bd2_e hf
              refine vs_X11_357 hA E hw hl.1 (Nat.le_of_ble_eq_true rfl) (Nat.le_of_ble_eq_true rfl) (Nat.le_of_ble_eq_true rfl) (nlt hiq5) hc dX11_act_125 (fun H locs hw => ?_)
              refine lv_istore (lv' := [(6, .int vq12), (5, .ref (ad (3 + vq4.toNatClampNeg))), (4, .int vq3), (0, .ref (ad 0)), (1, .int xq1), (2, .int xq2), (3, .int xq3)]) hx hb dX11_act_128 hl (by decide) rfl (fun ls hl => ?_)
              refine lv_goto (tgt := 141) hx hb dX11_act_130 (by decide) ?_
              exact hB141 vq4.toNatClampNeg (nlt hiq5) vq12 σ13 _ _ _ hw (lv_sub hl [3, 1, 0] rfl) hf
            · replace hf := it_f hc74_2 hf
              refine lv_tableOut (tgt := 133) hx hb dX11_act_74 (by have := lv_neT hc74_0 (a := 0) rfl; have := lv_neT hc74_1 (a := 1) rfl; have := lv_neT hc74_2 (a := 2) rfl; omega) (by decide) ?_
              refine lv_aload hx hb dX11_act_133 (lv_at hl 0 rfl) ?_
              refine lv_iload_n hx hb dX11_act_135 rfl (lv_at hl 5 rfl) ?_
              obtain ⟨vq14, σ15, hc, hf⟩ := bd2_e hf
              refine vs_X11_360 hA E hw hl.1 (Nat.le_of_ble_eq_true rfl) (Nat.le_of_ble_eq_true rfl) (Nat.le_of_ble_eq_true rfl) (nlt hiq5) hc dX11_act_136 (fun H locs hw => ?_)
              refine lv_istore (lv' := [(6, .int vq14), (5, .ref (ad (3 + vq4.toNatClampNeg))), (4, .int vq3), (0, .ref (ad 0)), (1, .int xq1), (2, .int xq2), (3, .int xq3)]) hx hb dX11_act_139 hl (by decide) rfl (fun ls hl => ?_)
              exact hB141 vq4.toNatClampNeg (nlt hiq5) vq14 σ15 _ _ _ hw (lv_sub hl [3, 1, 0] rfl) hf
      · replace hf := it_f (b2i_0 h) hf
        refine lv_iconst (v := 0) hx hb dX11_act_29 (by decide) ?_
        exact zreti E hw hr hlk (rt_a hf) (rt_b hf) dX11_act_30
set_option maxRecDepth 100000 in
set_option maxHeartbeats 4000000 in
theorem c_X11_trace {l : Launch} {D : va_G} {cy : Cy} {ad : Nat → Nat} {A : Nat → Prop} (hA : okAd 97 ad A) (xq1 : Int32) (σ : Sg) {r : Int32} (hf : f_X11_trace xq1 σ = some r) : Met l yX11_trace (.code yX11_trace cX11_trace 2 (some .int) :: TT) ({ frames := 1, cells := 0, slots := 0, locals := 22 } : Room) (zPc D cy 97 (celC ad cy) ad A [.ref (ad 0), .int xq1] σ) (zQi D 97 (celC ad cy) ad A r σ) 0 0 A := by
  refine zofW (by decide) hA (Nat.le_of_ble_eq_true rfl) ?_
  intro p e s m args below meth c ls E hw hr hlk hl
  have E : ZE p s m args c cX11_trace 2 "KiteSummons" D cy 97 ad A := E
  have hx := E.hx
  have hb := E.hb
  have hl : lv_has ls 2 [(0, .ref (ad 0)), (1, .int xq1)] := hl
  unfold f_X11_trace at hf
  refine lv_iload_n hx hb dX11_trace_0 rfl (lv_at hl 1 rfl) ?_
  refine lv_iconst (v := 0) hx hb dX11_trace_1 (by decide) ?_
  refine lv_aload_n hx hb dX11_trace_2 rfl (lv_at hl 0 rfl) ?_
  refine zget E hw (Nat.le_of_ble_eq_true rfl) (ceC_0 ad cy _) rfl inX11 16 (by decide) k2_137 (fun _ h => h) rfl dX11_trace_3 ?_
  refine lv_iconst (v := 1) hx hb dX11_trace_6 (by decide) ?_
  refine lv_isub hx hb dX11_trace_7 ?_
  refine zcali hw (va_runS (As := [.int xq1, .int 0, .int ((σ 0 16) - 1)]) (rest := []) E.fix (c_X11_within (l := l) hA xq1 0 ((σ 0 16) - 1) σ rfl) (zcS E k2_179 k1_1 k2_177 k2_178 mf_X11_within rfl rfl ⟨Nat.le_of_ble_eq_true rfl, Nat.le_of_ble_eq_true rfl⟩) (zPre E hw _) rfl rfl hl.1 rfl (lv_room (Nat.le_of_ble_eq_true rfl)) dX11_trace_8 ⟨Nat.zero_le _, Nat.zero_le _⟩) (fun H locs hw => ?_)
  refine lv_if_eq (tgt := 23) hx hb dX11_trace_11 (by decide) (fun h => ?_) (fun h => ?_)
  · replace hf := it_f (b2i_0 h) hf
    refine lv_bipush (v := (-3)) hx hb dX11_trace_23 (by decide) ?_
    exact zreti E hw hr hlk (rt_1 hf) rfl dX11_trace_25
  · replace hf := it_t (b2i_n h) hf
    refine lv_aload_n hx hb dX11_trace_14 rfl (lv_at hl 0 rfl) ?_
    refine zget E hw (Nat.le_of_ble_eq_true rfl) (ceC_0 ad cy _) rfl inX11 0 (by decide) k2_121 (fun _ h => h) rfl dX11_trace_15 ?_
    refine lv_iload_n hx hb dX11_trace_18 rfl (lv_at hl 1 rfl) ?_
    obtain ⟨vq1, hvq1, hf⟩ := bd_e hf
    refine zaldr E hw (Nat.le_of_ble_eq_true rfl) (ceC_1 ad cy) hvq1 dX11_trace_19 ?_
    refine lv_goto (tgt := 25) hx hb dX11_trace_20 (by decide) ?_
    exact zreti E hw hr hlk (rt_1 hf) rfl dX11_trace_25
set_option maxRecDepth 100000 in
set_option maxHeartbeats 4000000 in
theorem c_J6_bitCount_0f7a4 {l : Launch} {D : va_G} {cy : Cy} {ad : Nat → Nat} {A : Nat → Prop} (hA : okAd 97 ad A) (xq0 : Int32) (σ : Sg) {r : Int32} (hf : f_J6_bitCount_0f7a4 xq0 σ = r) : Met l yJ6_bitCount_0f7a4 (.code yJ6_bitCount_0f7a4 cJ6_bitCount_0f7a4 1 (some .int) :: TT) ({ frames := 0, cells := 0, slots := 0, locals := 0 } : Room) (zPc D cy 97 (celC ad cy) ad A [.int xq0] σ) (zQi D 97 (celC ad cy) ad A r σ) 0 0 A := by
  refine zofW (by decide) hA (Nat.le_of_ble_eq_true rfl) ?_
  intro p e s m args below meth c ls E hw hr hlk hl
  have E : ZE p s m args c cJ6_bitCount_0f7a4 1 "java/lang/Integer" D cy 97 ad A := E
  have hx := E.hx
  have hb := E.hb
  have hl : lv_has ls 1 [(0, .int xq0)] := hl
  unfold f_J6_bitCount_0f7a4 at hf
  refine lv_iload_n hx hb dJ6_bitCount_0f7a4_0 rfl (lv_at hl 0 rfl) ?_
  refine lv_iload_n hx hb dJ6_bitCount_0f7a4_1 rfl (lv_at hl 0 rfl) ?_
  refine lv_iconst (v := 1) hx hb dJ6_bitCount_0f7a4_2 (by decide) ?_
  refine ziushr hx hb dJ6_bitCount_0f7a4_3 ?_
  refine lv_ldcw (v := 1431655765) hx hb E.hown (E.ht _ k5_199) dJ6_bitCount_0f7a4_4 ?_
  refine lv_iand hx hb dJ6_bitCount_0f7a4_7 ?_
  refine lv_isub hx hb dJ6_bitCount_0f7a4_8 ?_
  refine lv_topi (fun vq1 evq1 => ?_)
  replace hf := lt_i evq1 hf
  refine lv_istore_n (lv' := [(0, .int vq1)]) hx hb dJ6_bitCount_0f7a4_9 rfl hl (by decide) rfl (fun ls hl => ?_)
  refine lv_iload_n hx hb dJ6_bitCount_0f7a4_10 rfl (lv_at hl 0 rfl) ?_
  refine lv_ldcw (v := 858993459) hx hb E.hown (E.ht _ k5_200) dJ6_bitCount_0f7a4_11 ?_
  refine lv_iand hx hb dJ6_bitCount_0f7a4_14 ?_
  refine lv_iload_n hx hb dJ6_bitCount_0f7a4_15 rfl (lv_at hl 0 rfl) ?_
  refine lv_iconst (v := 2) hx hb dJ6_bitCount_0f7a4_16 (by decide) ?_
  refine ziushr hx hb dJ6_bitCount_0f7a4_17 ?_
  refine lv_ldcw (v := 858993459) hx hb E.hown (E.ht _ k5_200) dJ6_bitCount_0f7a4_18 ?_
  refine lv_iand hx hb dJ6_bitCount_0f7a4_21 ?_
  refine lv_iadd hx hb dJ6_bitCount_0f7a4_22 ?_
  refine lv_topi (fun vq2 evq2 => ?_)
  replace hf := lt_i evq2 hf
  refine lv_istore_n (lv' := [(0, .int vq2)]) hx hb dJ6_bitCount_0f7a4_23 rfl hl (by decide) rfl (fun ls hl => ?_)
  refine lv_iload_n hx hb dJ6_bitCount_0f7a4_24 rfl (lv_at hl 0 rfl) ?_
  refine lv_iload_n hx hb dJ6_bitCount_0f7a4_25 rfl (lv_at hl 0 rfl) ?_
  refine lv_iconst (v := 4) hx hb dJ6_bitCount_0f7a4_26 (by decide) ?_
  refine ziushr hx hb dJ6_bitCount_0f7a4_27 ?_
  refine lv_iadd hx hb dJ6_bitCount_0f7a4_28 ?_
  refine lv_ldcw (v := 252645135) hx hb E.hown (E.ht _ k5_201) dJ6_bitCount_0f7a4_29 ?_
  refine lv_iand hx hb dJ6_bitCount_0f7a4_32 ?_
  refine lv_topi (fun vq3 evq3 => ?_)
  replace hf := lt_i evq3 hf
  refine lv_istore_n (lv' := [(0, .int vq3)]) hx hb dJ6_bitCount_0f7a4_33 rfl hl (by decide) rfl (fun ls hl => ?_)
  refine lv_iload_n hx hb dJ6_bitCount_0f7a4_34 rfl (lv_at hl 0 rfl) ?_
  refine lv_iload_n hx hb dJ6_bitCount_0f7a4_35 rfl (lv_at hl 0 rfl) ?_
  refine lv_bipush (v := 8) hx hb dJ6_bitCount_0f7a4_36 (by decide) ?_
  refine ziushr hx hb dJ6_bitCount_0f7a4_38 ?_
  refine lv_iadd hx hb dJ6_bitCount_0f7a4_39 ?_
  refine lv_topi (fun vq4 evq4 => ?_)
  replace hf := lt_i evq4 hf
  refine lv_istore_n (lv' := [(0, .int vq4)]) hx hb dJ6_bitCount_0f7a4_40 rfl hl (by decide) rfl (fun ls hl => ?_)
  refine lv_iload_n hx hb dJ6_bitCount_0f7a4_41 rfl (lv_at hl 0 rfl) ?_
  refine lv_iload_n hx hb dJ6_bitCount_0f7a4_42 rfl (lv_at hl 0 rfl) ?_
  refine lv_bipush (v := 16) hx hb dJ6_bitCount_0f7a4_43 (by decide) ?_
  refine ziushr hx hb dJ6_bitCount_0f7a4_45 ?_
  refine lv_iadd hx hb dJ6_bitCount_0f7a4_46 ?_
  refine lv_topi (fun vq5 evq5 => ?_)
  replace hf := lt_i evq5 hf
  refine lv_istore_n (lv' := [(0, .int vq5)]) hx hb dJ6_bitCount_0f7a4_47 rfl hl (by decide) rfl (fun ls hl => ?_)
  refine lv_iload_n hx hb dJ6_bitCount_0f7a4_48 rfl (lv_at hl 0 rfl) ?_
  refine lv_bipush (v := 63) hx hb dJ6_bitCount_0f7a4_49 (by decide) ?_
  refine lv_iand hx hb dJ6_bitCount_0f7a4_51 ?_
  exact zreti E hw hr hlk hf rfl dJ6_bitCount_0f7a4_52
set_option maxRecDepth 100000 in
set_option maxHeartbeats 4000000 in
theorem c_X11_many {l : Launch} {D : va_G} {cy : Cy} {ad : Nat → Nat} {A : Nat → Prop} (hA : okAd 97 ad A) (xq1 : Int32) (σ : Sg) {r : Int32} (hf : f_X11_many xq1 σ = r) : Met l yX11_many (.code yX11_many cX11_many 2 (some .int) :: TT) ({ frames := 1, cells := 0, slots := 0, locals := 20 } : Room) (zPc D cy 97 (celC ad cy) ad A [.ref (ad 0), .int xq1] σ) (zQi D 97 (celC ad cy) ad A r σ) 0 0 A := by
  refine zofW (by decide) hA (Nat.le_of_ble_eq_true rfl) ?_
  intro p e s m args below meth c ls E hw hr hlk hl
  have E : ZE p s m args c cX11_many 2 "KiteSummons" D cy 97 ad A := E
  have hx := E.hx
  have hb := E.hb
  have hl : lv_has ls 2 [(0, .ref (ad 0)), (1, .int xq1)] := hl
  unfold f_X11_many at hf
  refine lv_iload_n hx hb dX11_many_0 rfl (lv_at hl 1 rfl) ?_
  by_cases hc1_0 : xq1 = 0
  · replace hf := it_t hc1_0 hf
    refine lv_tableIn (tgt := 44) (off := 43) hx hb dX11_many_1 (by rw [hc1_0]; decide) (by rw [hc1_0]; decide) (by rw [hc1_0]; rfl) (by decide) ?_
    refine lv_aload_n hx hb dX11_many_44 rfl (lv_at hl 0 rfl) ?_
    refine zget E hw (Nat.le_of_ble_eq_true rfl) (ceC_0 ad cy _) rfl inX11 2 (by decide) k2_123 (fun _ h => h) rfl dX11_many_45 ?_
    refine zget E hw (Nat.le_of_ble_eq_true rfl) (ceC_24 ad cy _) rfl inX1 1 (by decide) k2_10 (fun _ h => h) rfl dX11_many_48 ?_
    exact zreti E hw hr hlk hf rfl dX11_many_51
  · replace hf := it_f hc1_0 hf
    by_cases hc1_1 : xq1 = 1
    · replace hf := it_t hc1_1 hf
      refine lv_tableIn (tgt := 52) (off := 51) hx hb dX11_many_1 (by rw [hc1_1]; decide) (by rw [hc1_1]; decide) (by rw [hc1_1]; rfl) (by decide) ?_
      refine lv_aload_n hx hb dX11_many_52 rfl (lv_at hl 0 rfl) ?_
      refine zget E hw (Nat.le_of_ble_eq_true rfl) (ceC_0 ad cy _) rfl inX11 2 (by decide) k2_123 (fun _ h => h) rfl dX11_many_53 ?_
      refine zget E hw (Nat.le_of_ble_eq_true rfl) (ceC_24 ad cy _) rfl inX1 14 (by decide) k2_33 (fun _ h => h) rfl dX11_many_56 ?_
      refine zget E hw (Nat.le_of_ble_eq_true rfl) (ceC_34 ad cy _) rfl inX9 0 (by decide) k1_46 (fun _ h => h) rfl dX11_many_59 ?_
      exact zreti E hw hr hlk hf rfl dX11_many_62
    · replace hf := it_f hc1_1 hf
      by_cases hc1_2 : xq1 = 2
      · replace hf := it_t hc1_2 hf
        refine lv_tableIn (tgt := 63) (off := 62) hx hb dX11_many_1 (by rw [hc1_2]; decide) (by rw [hc1_2]; decide) (by rw [hc1_2]; rfl) (by decide) ?_
        refine lv_aload_n hx hb dX11_many_63 rfl (lv_at hl 0 rfl) ?_
        refine zget E hw (Nat.le_of_ble_eq_true rfl) (ceC_0 ad cy _) rfl inX11 2 (by decide) k2_123 (fun _ h => h) rfl dX11_many_64 ?_
        refine zget E hw (Nat.le_of_ble_eq_true rfl) (ceC_24 ad cy _) rfl inX1 15 (by decide) k2_36 (fun _ h => h) rfl dX11_many_67 ?_
        refine zget E hw (Nat.le_of_ble_eq_true rfl) (ceC_41 ad cy _) rfl inX10 3 (by decide) k1_118 (fun _ h => h) rfl dX11_many_70 ?_
        refine zcali hw (va_runS (As := [.int (σ 41 3)]) (rest := []) E.fix (c_J6_bitCount_0f7a4 (l := l) hA (σ 41 3) σ rfl) (zcS E k5_198 k1_21 k5_196 k5_197 mf_J6_bitCount_0f7a4 rfl rfl ⟨Nat.le_of_ble_eq_true rfl, Nat.le_of_ble_eq_true rfl⟩) (zPre E hw _) rfl rfl hl.1 rfl (lv_room (Nat.le_of_ble_eq_true rfl)) dX11_many_73 ⟨Nat.zero_le _, Nat.zero_le _⟩) (fun H locs hw => ?_)
        exact zreti E hw hr hlk hf rfl dX11_many_76
      · replace hf := it_f hc1_2 hf
        by_cases hc1_3 : xq1 = 3
        · replace hf := it_t hc1_3 hf
          refine lv_tableIn (tgt := 77) (off := 76) hx hb dX11_many_1 (by rw [hc1_3]; decide) (by rw [hc1_3]; decide) (by rw [hc1_3]; rfl) (by decide) ?_
          refine lv_aload_n hx hb dX11_many_77 rfl (lv_at hl 0 rfl) ?_
          refine zget E hw (Nat.le_of_ble_eq_true rfl) (ceC_0 ad cy _) rfl inX11 2 (by decide) k2_123 (fun _ h => h) rfl dX11_many_78 ?_
          refine zget E hw (Nat.le_of_ble_eq_true rfl) (ceC_24 ad cy _) rfl inX1 4 (by decide) k2_17 (fun _ h => h) rfl dX11_many_81 ?_
          exact zreti E hw hr hlk hf rfl dX11_many_84
        · replace hf := it_f hc1_3 hf
          by_cases hc1_4 : xq1 = 4
          · replace hf := it_t hc1_4 hf
            refine lv_tableIn (tgt := 85) (off := 84) hx hb dX11_many_1 (by rw [hc1_4]; decide) (by rw [hc1_4]; decide) (by rw [hc1_4]; rfl) (by decide) ?_
            refine lv_aload_n hx hb dX11_many_85 rfl (lv_at hl 0 rfl) ?_
            refine zget E hw (Nat.le_of_ble_eq_true rfl) (ceC_0 ad cy _) rfl inX11 15 (by decide) k2_136 (fun _ h => h) rfl dX11_many_86 ?_
            exact zreti E hw hr hlk hf rfl dX11_many_89
          · replace hf := it_f hc1_4 hf
            by_cases hc1_5 : xq1 = 5
            · replace hf := it_t hc1_5 hf
              refine lv_tableIn (tgt := 90) (off := 89) hx hb dX11_many_1 (by rw [hc1_5]; decide) (by rw [hc1_5]; decide) (by rw [hc1_5]; rfl) (by decide) ?_
              refine lv_aload_n hx hb dX11_many_90 rfl (lv_at hl 0 rfl) ?_
              refine zget E hw (Nat.le_of_ble_eq_true rfl) (ceC_0 ad cy _) rfl inX11 4 (by decide) k2_125 (fun _ h => h) rfl dX11_many_91 ?_
              refine zget E hw (Nat.le_of_ble_eq_true rfl) (ceC_67 ad cy _) rfl inX8 0 (by decide) k1_76 (fun _ h => h) rfl dX11_many_94 ?_
              exact zreti E hw hr hlk hf rfl dX11_many_97
            · replace hf := it_f hc1_5 hf
              by_cases hc1_6 : xq1 = 6
              · replace hf := it_t hc1_6 hf
                refine lv_tableIn (tgt := 98) (off := 97) hx hb dX11_many_1 (by rw [hc1_6]; decide) (by rw [hc1_6]; decide) (by rw [hc1_6]; rfl) (by decide) ?_
                refine lv_aload_n hx hb dX11_many_98 rfl (lv_at hl 0 rfl) ?_
                refine zget E hw (Nat.le_of_ble_eq_true rfl) (ceC_0 ad cy _) rfl inX11 16 (by decide) k2_137 (fun _ h => h) rfl dX11_many_99 ?_
                exact zreti E hw hr hlk hf rfl dX11_many_102
              · replace hf := it_f hc1_6 hf
                refine lv_tableOut (tgt := 103) hx hb dX11_many_1 (by have := lv_neT hc1_0 (a := 0) rfl; have := lv_neT hc1_1 (a := 1) rfl; have := lv_neT hc1_2 (a := 2) rfl; have := lv_neT hc1_3 (a := 3) rfl; have := lv_neT hc1_4 (a := 4) rfl; have := lv_neT hc1_5 (a := 5) rfl; have := lv_neT hc1_6 (a := 6) rfl; omega) (by decide) ?_
                refine lv_iconst (v := (-1)) hx hb dX11_many_103 (by decide) ?_
                exact zreti E hw hr hlk hf rfl dX11_many_104
set_option maxRecDepth 100000 in
set_option maxHeartbeats 4000000 in
theorem c_X9_copy_p54_p34 {l : Launch} {D : va_G} {cy : Cy} {ad : Nat → Nat} {A : Nat → Prop} (hA : okAd 97 ad A) (σ : Sg) {σ9 : Sg} (hf : f_X9_copy_p54_p34 σ = σ9) : Met l yX9_copy (.code yX9_copy cX9_copy 2 none :: TT) ({ frames := 1, cells := 0, slots := 0, locals := 40 } : Room) (zPc D cy 97 (celC ad cy) ad A [.ref (ad 54), .ref (ad 34)] σ) (zQv D 97 (celC ad cy) ad A σ9) 0 0 A := by
  refine zofW (by decide) hA (Nat.le_of_ble_eq_true rfl) ?_
  intro p e s m args below meth c ls E hw hr hlk hl
  have E : ZE p s m args c cX9_copy 2 "KiteSummons$Rules" D cy 97 ad A := E
  have hx := E.hx
  have hb := E.hb
  have hl : lv_has ls 2 [(0, .ref (ad 54)), (1, .ref (ad 34))] := hl
  unfold f_X9_copy_p54_p34 at hf
  refine lv_aload_n hx hb dX9_copy_0 rfl (lv_at hl 0 rfl) ?_
  refine lv_aload_n hx hb dX9_copy_1 rfl (lv_at hl 1 rfl) ?_
  refine zget E hw (Nat.le_of_ble_eq_true rfl) (ceC_34 ad cy _) rfl inX9 0 (by decide) k1_44 (fun _ h => h) rfl dX9_copy_2 ?_
  refine zputs E hw (Nat.le_of_ble_eq_true rfl) (ceC_54 ad cy _) rfl inX9 tyX9 tyX9_ok nmX9 0 (by decide) k1_44 (fun _ h => h) rfl rfl rfl (Nat.le_of_ble_eq_true rfl) (j := 0) (Eq.trans (ceC_54 ad cy _) (by rfl)) dX9_copy_5 (fun σ1 eσ1 H locs hw => ?_)
  replace hf := lt_i eσ1 hf
  refine lv_aload_n hx hb dX9_copy_8 rfl (lv_at hl 0 rfl) ?_
  refine lv_aload_n hx hb dX9_copy_9 rfl (lv_at hl 1 rfl) ?_
  refine zget E hw (Nat.le_of_ble_eq_true rfl) (ceC_34 ad cy _) rfl inX9 1 (by decide) k1_47 (fun _ h => h) rfl dX9_copy_10 ?_
  refine zputs E hw (Nat.le_of_ble_eq_true rfl) (ceC_54 ad cy _) rfl inX9 tyX9 tyX9_ok nmX9 1 (by decide) k1_47 (fun _ h => h) rfl rfl rfl (Nat.le_of_ble_eq_true rfl) (j := 1) (Eq.trans (ceC_54 ad cy _) (by rfl)) dX9_copy_13 (fun σ2 eσ2 H locs hw => ?_)
  replace hf := lt_i eσ2 hf
  refine lv_aload_n hx hb dX9_copy_16 rfl (lv_at hl 1 rfl) ?_
  refine zget E hw (Nat.le_of_ble_eq_true rfl) (ceC_34 ad cy _) rfl inX9 2 (by decide) k1_49 (fun _ h => h) rfl dX9_copy_17 ?_
  refine lv_iconst (v := 0) hx hb dX9_copy_20 (by decide) ?_
  refine lv_aload_n hx hb dX9_copy_21 rfl (lv_at hl 0 rfl) ?_
  refine zget E hw (Nat.le_of_ble_eq_true rfl) (ceC_54 ad cy _) rfl inX9 2 (by decide) k1_49 (fun _ h => h) rfl dX9_copy_22 ?_
  refine lv_iconst (v := 0) hx hb dX9_copy_25 (by decide) ?_
  refine lv_bipush (v := 8) hx hb dX9_copy_26 (by decide) ?_
  refine zcopy E hw hl.1 (E.ht _ k4_20) (E.ht _ k4_22) (E.ht _ k4_21) (E.ht _ k1_20) (Nat.le_of_ble_eq_true rfl) (ceC_35 ad cy) (Nat.le_of_ble_eq_true rfl) (ceC_55 ad cy) 8 ⟨by rfl, by decide⟩ (Nat.le_of_ble_eq_true rfl) (Nat.le_of_ble_eq_true rfl) (Nat.le_of_ble_eq_true rfl) (Nat.le_of_ble_eq_true rfl) dX9_copy_28 (fun σ3 eσ3 H locs hw => ?_)
  replace hf := lt_i eσ3 hf
  refine lv_aload_n hx hb dX9_copy_31 rfl (lv_at hl 1 rfl) ?_
  refine zget E hw (Nat.le_of_ble_eq_true rfl) (ceC_34 ad cy _) rfl inX9 3 (by decide) k1_50 (fun _ h => h) rfl dX9_copy_32 ?_
  refine lv_iconst (v := 0) hx hb dX9_copy_35 (by decide) ?_
  refine lv_aload_n hx hb dX9_copy_36 rfl (lv_at hl 0 rfl) ?_
  refine zget E hw (Nat.le_of_ble_eq_true rfl) (ceC_54 ad cy _) rfl inX9 3 (by decide) k1_50 (fun _ h => h) rfl dX9_copy_37 ?_
  refine lv_iconst (v := 0) hx hb dX9_copy_40 (by decide) ?_
  refine lv_bipush (v := 8) hx hb dX9_copy_41 (by decide) ?_
  refine zcopy E hw hl.1 (E.ht _ k4_20) (E.ht _ k4_22) (E.ht _ k4_21) (E.ht _ k1_20) (Nat.le_of_ble_eq_true rfl) (ceC_36 ad cy) (Nat.le_of_ble_eq_true rfl) (ceC_56 ad cy) 8 ⟨by rfl, by decide⟩ (Nat.le_of_ble_eq_true rfl) (Nat.le_of_ble_eq_true rfl) (Nat.le_of_ble_eq_true rfl) (Nat.le_of_ble_eq_true rfl) dX9_copy_43 (fun σ4 eσ4 H locs hw => ?_)
  replace hf := lt_i eσ4 hf
  refine lv_aload_n hx hb dX9_copy_46 rfl (lv_at hl 1 rfl) ?_
  refine zget E hw (Nat.le_of_ble_eq_true rfl) (ceC_34 ad cy _) rfl inX9 4 (by decide) k1_51 (fun _ h => h) rfl dX9_copy_47 ?_
  refine lv_iconst (v := 0) hx hb dX9_copy_50 (by decide) ?_
  refine lv_aload_n hx hb dX9_copy_51 rfl (lv_at hl 0 rfl) ?_
  refine zget E hw (Nat.le_of_ble_eq_true rfl) (ceC_54 ad cy _) rfl inX9 4 (by decide) k1_51 (fun _ h => h) rfl dX9_copy_52 ?_
  refine lv_iconst (v := 0) hx hb dX9_copy_55 (by decide) ?_
  refine lv_bipush (v := 8) hx hb dX9_copy_56 (by decide) ?_
  refine zcopy E hw hl.1 (E.ht _ k4_20) (E.ht _ k4_22) (E.ht _ k4_21) (E.ht _ k1_20) (Nat.le_of_ble_eq_true rfl) (ceC_37 ad cy) (Nat.le_of_ble_eq_true rfl) (ceC_57 ad cy) 8 ⟨by rfl, by decide⟩ (Nat.le_of_ble_eq_true rfl) (Nat.le_of_ble_eq_true rfl) (Nat.le_of_ble_eq_true rfl) (Nat.le_of_ble_eq_true rfl) dX9_copy_58 (fun σ5 eσ5 H locs hw => ?_)
  replace hf := lt_i eσ5 hf
  refine lv_aload_n hx hb dX9_copy_61 rfl (lv_at hl 1 rfl) ?_
  refine zget E hw (Nat.le_of_ble_eq_true rfl) (ceC_34 ad cy _) rfl inX9 5 (by decide) k1_52 (fun _ h => h) rfl dX9_copy_62 ?_
  refine lv_iconst (v := 0) hx hb dX9_copy_65 (by decide) ?_
  refine lv_aload_n hx hb dX9_copy_66 rfl (lv_at hl 0 rfl) ?_
  refine zget E hw (Nat.le_of_ble_eq_true rfl) (ceC_54 ad cy _) rfl inX9 5 (by decide) k1_52 (fun _ h => h) rfl dX9_copy_67 ?_
  refine lv_iconst (v := 0) hx hb dX9_copy_70 (by decide) ?_
  refine lv_bipush (v := 8) hx hb dX9_copy_71 (by decide) ?_
  refine zcopy E hw hl.1 (E.ht _ k4_20) (E.ht _ k4_22) (E.ht _ k4_21) (E.ht _ k1_20) (Nat.le_of_ble_eq_true rfl) (ceC_38 ad cy) (Nat.le_of_ble_eq_true rfl) (ceC_58 ad cy) 8 ⟨by rfl, by decide⟩ (Nat.le_of_ble_eq_true rfl) (Nat.le_of_ble_eq_true rfl) (Nat.le_of_ble_eq_true rfl) (Nat.le_of_ble_eq_true rfl) dX9_copy_73 (fun σ6 eσ6 H locs hw => ?_)
  replace hf := lt_i eσ6 hf
  refine lv_aload_n hx hb dX9_copy_76 rfl (lv_at hl 1 rfl) ?_
  refine zget E hw (Nat.le_of_ble_eq_true rfl) (ceC_34 ad cy _) rfl inX9 6 (by decide) k1_53 (fun _ h => h) rfl dX9_copy_77 ?_
  refine lv_iconst (v := 0) hx hb dX9_copy_80 (by decide) ?_
  refine lv_aload_n hx hb dX9_copy_81 rfl (lv_at hl 0 rfl) ?_
  refine zget E hw (Nat.le_of_ble_eq_true rfl) (ceC_54 ad cy _) rfl inX9 6 (by decide) k1_53 (fun _ h => h) rfl dX9_copy_82 ?_
  refine lv_iconst (v := 0) hx hb dX9_copy_85 (by decide) ?_
  refine lv_sipush (v := 200) hx hb dX9_copy_86 (by decide) ?_
  refine zcopy E hw hl.1 (E.ht _ k4_20) (E.ht _ k4_22) (E.ht _ k4_21) (E.ht _ k1_20) (Nat.le_of_ble_eq_true rfl) (ceC_39 ad cy) (Nat.le_of_ble_eq_true rfl) (ceC_59 ad cy) 200 ⟨by rfl, by decide⟩ (Nat.le_of_ble_eq_true rfl) (Nat.le_of_ble_eq_true rfl) (Nat.le_of_ble_eq_true rfl) (Nat.le_of_ble_eq_true rfl) dX9_copy_89 (fun σ7 eσ7 H locs hw => ?_)
  replace hf := lt_i eσ7 hf
  exact zretv E hw hr hlk hf dX9_copy_92
set_option maxRecDepth 100000 in
set_option maxHeartbeats 4000000 in
theorem c_X1_copy_p44_p24 {l : Launch} {D : va_G} {cy : Cy} {ad : Nat → Nat} {A : Nat → Prop} (hA : okAd 97 ad A) (σ : Sg) {σ9 : Sg} (hf : f_X1_copy_p44_p24 σ = σ9) : Met l yX1_copy (.code yX1_copy cX1_copy 2 none :: TT) ({ frames := 2, cells := 0, slots := 0, locals := 61 } : Room) (zPc D cy 97 (celC ad cy) ad A [.ref (ad 44), .ref (ad 24)] σ) (zQv D 97 (celC ad cy) ad A σ9) 0 0 A := by
  refine zofW (by decide) hA (Nat.le_of_ble_eq_true rfl) ?_
  intro p e s m args below meth c ls E hw hr hlk hl
  have E : ZE p s m args c cX1_copy 2 "KiteSummons$County" D cy 97 ad A := E
  have hx := E.hx
  have hb := E.hb
  have hl : lv_has ls 2 [(0, .ref (ad 44)), (1, .ref (ad 24))] := hl
  unfold f_X1_copy_p44_p24 at hf
  refine lv_aload_n hx hb dX1_copy_0 rfl (lv_at hl 0 rfl) ?_
  refine lv_aload_n hx hb dX1_copy_1 rfl (lv_at hl 1 rfl) ?_
  refine zget E hw (Nat.le_of_ble_eq_true rfl) (ceC_24 ad cy _) rfl inX1 1 (by decide) k2_9 (fun _ h => h) rfl dX1_copy_2 ?_
  refine zputs E hw (Nat.le_of_ble_eq_true rfl) (ceC_44 ad cy _) rfl inX1 tyX1 tyX1_ok nmX1 1 (by decide) k2_9 (fun _ h => h) rfl rfl rfl (Nat.le_of_ble_eq_true rfl) (j := 1) (Eq.trans (ceC_44 ad cy _) (by rfl)) dX1_copy_5 (fun σ1 eσ1 H locs hw => ?_)
  replace hf := lt_i eσ1 hf
  refine lv_aload_n hx hb dX1_copy_8 rfl (lv_at hl 0 rfl) ?_
  refine lv_aload_n hx hb dX1_copy_9 rfl (lv_at hl 1 rfl) ?_
  refine zget E hw (Nat.le_of_ble_eq_true rfl) (ceC_24 ad cy _) rfl inX1 2 (by decide) k2_12 (fun _ h => h) rfl dX1_copy_10 ?_
  refine zputs E hw (Nat.le_of_ble_eq_true rfl) (ceC_44 ad cy _) rfl inX1 tyX1 tyX1_ok nmX1 2 (by decide) k2_12 (fun _ h => h) rfl rfl rfl (Nat.le_of_ble_eq_true rfl) (j := 2) (Eq.trans (ceC_44 ad cy _) (by rfl)) dX1_copy_13 (fun σ2 eσ2 H locs hw => ?_)
  replace hf := lt_i eσ2 hf
  refine lv_aload_n hx hb dX1_copy_16 rfl (lv_at hl 0 rfl) ?_
  refine lv_aload_n hx hb dX1_copy_17 rfl (lv_at hl 1 rfl) ?_
  refine zget E hw (Nat.le_of_ble_eq_true rfl) (ceC_24 ad cy _) rfl inX1 3 (by decide) k2_14 (fun _ h => h) rfl dX1_copy_18 ?_
  refine zputs E hw (Nat.le_of_ble_eq_true rfl) (ceC_44 ad cy _) rfl inX1 tyX1 tyX1_ok nmX1 3 (by decide) k2_14 (fun _ h => h) rfl rfl rfl (Nat.le_of_ble_eq_true rfl) (j := 3) (Eq.trans (ceC_44 ad cy _) (by rfl)) dX1_copy_21 (fun σ3 eσ3 H locs hw => ?_)
  replace hf := lt_i eσ3 hf
  refine lv_aload_n hx hb dX1_copy_24 rfl (lv_at hl 0 rfl) ?_
  refine lv_aload_n hx hb dX1_copy_25 rfl (lv_at hl 1 rfl) ?_
  refine zget E hw (Nat.le_of_ble_eq_true rfl) (ceC_24 ad cy _) rfl inX1 4 (by decide) k2_16 (fun _ h => h) rfl dX1_copy_26 ?_
  refine zputs E hw (Nat.le_of_ble_eq_true rfl) (ceC_44 ad cy _) rfl inX1 tyX1 tyX1_ok nmX1 4 (by decide) k2_16 (fun _ h => h) rfl rfl rfl (Nat.le_of_ble_eq_true rfl) (j := 4) (Eq.trans (ceC_44 ad cy _) (by rfl)) dX1_copy_29 (fun σ4 eσ4 H locs hw => ?_)
  replace hf := lt_i eσ4 hf
  refine lv_aload_n hx hb dX1_copy_32 rfl (lv_at hl 1 rfl) ?_
  refine zget E hw (Nat.le_of_ble_eq_true rfl) (ceC_24 ad cy _) rfl inX1 5 (by decide) k2_18 (fun _ h => h) rfl dX1_copy_33 ?_
  refine lv_iconst (v := 0) hx hb dX1_copy_36 (by decide) ?_
  refine lv_aload_n hx hb dX1_copy_37 rfl (lv_at hl 0 rfl) ?_
  refine zget E hw (Nat.le_of_ble_eq_true rfl) (ceC_44 ad cy _) rfl inX1 5 (by decide) k2_18 (fun _ h => h) rfl dX1_copy_38 ?_
  refine lv_iconst (v := 0) hx hb dX1_copy_41 (by decide) ?_
  refine lv_bipush (v := 6) hx hb dX1_copy_42 (by decide) ?_
  refine zcopy E hw hl.1 (E.ht _ k5_210) (E.ht _ k4_22) (E.ht _ k4_21) (E.ht _ k1_20) (Nat.le_of_ble_eq_true rfl) (ceC_25 ad cy) (Nat.le_of_ble_eq_true rfl) (ceC_45 ad cy) 6 ⟨by rfl, by decide⟩ (Nat.le_of_ble_eq_true rfl) (Nat.le_of_ble_eq_true rfl) (Nat.le_of_ble_eq_true rfl) (Nat.le_of_ble_eq_true rfl) dX1_copy_44 (fun σ5 eσ5 H locs hw => ?_)
  replace hf := lt_i eσ5 hf
  refine lv_aload_n hx hb dX1_copy_47 rfl (lv_at hl 1 rfl) ?_
  refine zget E hw (Nat.le_of_ble_eq_true rfl) (ceC_24 ad cy _) rfl inX1 6 (by decide) k2_20 (fun _ h => h) rfl dX1_copy_48 ?_
  refine lv_iconst (v := 0) hx hb dX1_copy_51 (by decide) ?_
  refine lv_aload_n hx hb dX1_copy_52 rfl (lv_at hl 0 rfl) ?_
  refine zget E hw (Nat.le_of_ble_eq_true rfl) (ceC_44 ad cy _) rfl inX1 6 (by decide) k2_20 (fun _ h => h) rfl dX1_copy_53 ?_
  refine lv_iconst (v := 0) hx hb dX1_copy_56 (by decide) ?_
  refine lv_bipush (v := 6) hx hb dX1_copy_57 (by decide) ?_
  refine zcopy E hw hl.1 (E.ht _ k5_210) (E.ht _ k4_22) (E.ht _ k4_21) (E.ht _ k1_20) (Nat.le_of_ble_eq_true rfl) (ceC_26 ad cy) (Nat.le_of_ble_eq_true rfl) (ceC_46 ad cy) 6 ⟨by rfl, by decide⟩ (Nat.le_of_ble_eq_true rfl) (Nat.le_of_ble_eq_true rfl) (Nat.le_of_ble_eq_true rfl) (Nat.le_of_ble_eq_true rfl) dX1_copy_59 (fun σ6 eσ6 H locs hw => ?_)
  replace hf := lt_i eσ6 hf
  refine lv_aload_n hx hb dX1_copy_62 rfl (lv_at hl 1 rfl) ?_
  refine zget E hw (Nat.le_of_ble_eq_true rfl) (ceC_24 ad cy _) rfl inX1 7 (by decide) k2_22 (fun _ h => h) rfl dX1_copy_63 ?_
  refine lv_iconst (v := 0) hx hb dX1_copy_66 (by decide) ?_
  refine lv_aload_n hx hb dX1_copy_67 rfl (lv_at hl 0 rfl) ?_
  refine zget E hw (Nat.le_of_ble_eq_true rfl) (ceC_44 ad cy _) rfl inX1 7 (by decide) k2_22 (fun _ h => h) rfl dX1_copy_68 ?_
  refine lv_iconst (v := 0) hx hb dX1_copy_71 (by decide) ?_
  refine lv_bipush (v := 16) hx hb dX1_copy_72 (by decide) ?_
  refine zcopy E hw hl.1 (E.ht _ k5_210) (E.ht _ k4_22) (E.ht _ k4_21) (E.ht _ k1_20) (Nat.le_of_ble_eq_true rfl) (ceC_27 ad cy) (Nat.le_of_ble_eq_true rfl) (ceC_47 ad cy) 16 ⟨by rfl, by decide⟩ (Nat.le_of_ble_eq_true rfl) (Nat.le_of_ble_eq_true rfl) (Nat.le_of_ble_eq_true rfl) (Nat.le_of_ble_eq_true rfl) dX1_copy_74 (fun σ7 eσ7 H locs hw => ?_)
  replace hf := lt_i eσ7 hf
  refine lv_aload_n hx hb dX1_copy_77 rfl (lv_at hl 1 rfl) ?_
  refine zget E hw (Nat.le_of_ble_eq_true rfl) (ceC_24 ad cy _) rfl inX1 8 (by decide) k2_24 (fun _ h => h) rfl dX1_copy_78 ?_
  refine lv_iconst (v := 0) hx hb dX1_copy_81 (by decide) ?_
  refine lv_aload_n hx hb dX1_copy_82 rfl (lv_at hl 0 rfl) ?_
  refine zget E hw (Nat.le_of_ble_eq_true rfl) (ceC_44 ad cy _) rfl inX1 8 (by decide) k2_24 (fun _ h => h) rfl dX1_copy_83 ?_
  refine lv_iconst (v := 0) hx hb dX1_copy_86 (by decide) ?_
  refine lv_bipush (v := 6) hx hb dX1_copy_87 (by decide) ?_
  refine zcopy E hw hl.1 (E.ht _ k5_210) (E.ht _ k4_22) (E.ht _ k4_21) (E.ht _ k1_20) (Nat.le_of_ble_eq_true rfl) (ceC_28 ad cy) (Nat.le_of_ble_eq_true rfl) (ceC_48 ad cy) 6 ⟨by rfl, by decide⟩ (Nat.le_of_ble_eq_true rfl) (Nat.le_of_ble_eq_true rfl) (Nat.le_of_ble_eq_true rfl) (Nat.le_of_ble_eq_true rfl) dX1_copy_89 (fun σ8 eσ8 H locs hw => ?_)
  replace hf := lt_i eσ8 hf
  refine lv_aload_n hx hb dX1_copy_92 rfl (lv_at hl 1 rfl) ?_
  refine zget E hw (Nat.le_of_ble_eq_true rfl) (ceC_24 ad cy _) rfl inX1 9 (by decide) k2_26 (fun _ h => h) rfl dX1_copy_93 ?_
  refine lv_iconst (v := 0) hx hb dX1_copy_96 (by decide) ?_
  refine lv_aload_n hx hb dX1_copy_97 rfl (lv_at hl 0 rfl) ?_
  refine zget E hw (Nat.le_of_ble_eq_true rfl) (ceC_44 ad cy _) rfl inX1 9 (by decide) k2_26 (fun _ h => h) rfl dX1_copy_98 ?_
  refine lv_iconst (v := 0) hx hb dX1_copy_101 (by decide) ?_
  refine lv_bipush (v := 6) hx hb dX1_copy_102 (by decide) ?_
  refine zcopy E hw hl.1 (E.ht _ k5_210) (E.ht _ k4_22) (E.ht _ k4_21) (E.ht _ k1_20) (Nat.le_of_ble_eq_true rfl) (ceC_29 ad cy) (Nat.le_of_ble_eq_true rfl) (ceC_49 ad cy) 6 ⟨by rfl, by decide⟩ (Nat.le_of_ble_eq_true rfl) (Nat.le_of_ble_eq_true rfl) (Nat.le_of_ble_eq_true rfl) (Nat.le_of_ble_eq_true rfl) dX1_copy_104 (fun σ9 eσ9 H locs hw => ?_)
  replace hf := lt_i eσ9 hf
  refine lv_aload_n hx hb dX1_copy_107 rfl (lv_at hl 1 rfl) ?_
  refine zget E hw (Nat.le_of_ble_eq_true rfl) (ceC_24 ad cy _) rfl inX1 10 (by decide) k2_28 (fun _ h => h) rfl dX1_copy_108 ?_
  refine lv_iconst (v := 0) hx hb dX1_copy_111 (by decide) ?_
  refine lv_aload_n hx hb dX1_copy_112 rfl (lv_at hl 0 rfl) ?_
  refine zget E hw (Nat.le_of_ble_eq_true rfl) (ceC_44 ad cy _) rfl inX1 10 (by decide) k2_28 (fun _ h => h) rfl dX1_copy_113 ?_
  refine lv_iconst (v := 0) hx hb dX1_copy_116 (by decide) ?_
  refine lv_bipush (v := 6) hx hb dX1_copy_117 (by decide) ?_
  refine zcopy E hw hl.1 (E.ht _ k5_210) (E.ht _ k4_22) (E.ht _ k4_21) (E.ht _ k1_20) (Nat.le_of_ble_eq_true rfl) (ceC_30 ad cy) (Nat.le_of_ble_eq_true rfl) (ceC_50 ad cy) 6 ⟨by rfl, by decide⟩ (Nat.le_of_ble_eq_true rfl) (Nat.le_of_ble_eq_true rfl) (Nat.le_of_ble_eq_true rfl) (Nat.le_of_ble_eq_true rfl) dX1_copy_119 (fun σ10 eσ10 H locs hw => ?_)
  replace hf := lt_i eσ10 hf
  refine lv_aload_n hx hb dX1_copy_122 rfl (lv_at hl 1 rfl) ?_
  refine zget E hw (Nat.le_of_ble_eq_true rfl) (ceC_24 ad cy _) rfl inX1 11 (by decide) k2_29 (fun _ h => h) rfl dX1_copy_123 ?_
  refine lv_iconst (v := 0) hx hb dX1_copy_126 (by decide) ?_
  refine lv_aload_n hx hb dX1_copy_127 rfl (lv_at hl 0 rfl) ?_
  refine zget E hw (Nat.le_of_ble_eq_true rfl) (ceC_44 ad cy _) rfl inX1 11 (by decide) k2_29 (fun _ h => h) rfl dX1_copy_128 ?_
  refine lv_iconst (v := 0) hx hb dX1_copy_131 (by decide) ?_
  refine lv_bipush (v := 6) hx hb dX1_copy_132 (by decide) ?_
  refine zcopy E hw hl.1 (E.ht _ k5_210) (E.ht _ k4_22) (E.ht _ k4_21) (E.ht _ k1_20) (Nat.le_of_ble_eq_true rfl) (ceC_31 ad cy) (Nat.le_of_ble_eq_true rfl) (ceC_51 ad cy) 6 ⟨by rfl, by decide⟩ (Nat.le_of_ble_eq_true rfl) (Nat.le_of_ble_eq_true rfl) (Nat.le_of_ble_eq_true rfl) (Nat.le_of_ble_eq_true rfl) dX1_copy_134 (fun σ11 eσ11 H locs hw => ?_)
  replace hf := lt_i eσ11 hf
  refine lv_aload_n hx hb dX1_copy_137 rfl (lv_at hl 1 rfl) ?_
  refine zget E hw (Nat.le_of_ble_eq_true rfl) (ceC_24 ad cy _) rfl inX1 12 (by decide) k2_30 (fun _ h => h) rfl dX1_copy_138 ?_
  refine lv_iconst (v := 0) hx hb dX1_copy_141 (by decide) ?_
  refine lv_aload_n hx hb dX1_copy_142 rfl (lv_at hl 0 rfl) ?_
  refine zget E hw (Nat.le_of_ble_eq_true rfl) (ceC_44 ad cy _) rfl inX1 12 (by decide) k2_30 (fun _ h => h) rfl dX1_copy_143 ?_
  refine lv_iconst (v := 0) hx hb dX1_copy_146 (by decide) ?_
  refine lv_bipush (v := 6) hx hb dX1_copy_147 (by decide) ?_
  refine zcopy E hw hl.1 (E.ht _ k5_210) (E.ht _ k4_22) (E.ht _ k4_21) (E.ht _ k1_20) (Nat.le_of_ble_eq_true rfl) (ceC_32 ad cy) (Nat.le_of_ble_eq_true rfl) (ceC_52 ad cy) 6 ⟨by rfl, by decide⟩ (Nat.le_of_ble_eq_true rfl) (Nat.le_of_ble_eq_true rfl) (Nat.le_of_ble_eq_true rfl) (Nat.le_of_ble_eq_true rfl) dX1_copy_149 (fun σ12 eσ12 H locs hw => ?_)
  replace hf := lt_i eσ12 hf
  refine lv_aload_n hx hb dX1_copy_152 rfl (lv_at hl 1 rfl) ?_
  refine zget E hw (Nat.le_of_ble_eq_true rfl) (ceC_24 ad cy _) rfl inX1 13 (by decide) k2_31 (fun _ h => h) rfl dX1_copy_153 ?_
  refine lv_iconst (v := 0) hx hb dX1_copy_156 (by decide) ?_
  refine lv_aload_n hx hb dX1_copy_157 rfl (lv_at hl 0 rfl) ?_
  refine zget E hw (Nat.le_of_ble_eq_true rfl) (ceC_44 ad cy _) rfl inX1 13 (by decide) k2_31 (fun _ h => h) rfl dX1_copy_158 ?_
  refine lv_iconst (v := 0) hx hb dX1_copy_161 (by decide) ?_
  refine lv_bipush (v := 6) hx hb dX1_copy_162 (by decide) ?_
  refine zcopy E hw hl.1 (E.ht _ k5_210) (E.ht _ k4_22) (E.ht _ k4_21) (E.ht _ k1_20) (Nat.le_of_ble_eq_true rfl) (ceC_33 ad cy) (Nat.le_of_ble_eq_true rfl) (ceC_53 ad cy) 6 ⟨by rfl, by decide⟩ (Nat.le_of_ble_eq_true rfl) (Nat.le_of_ble_eq_true rfl) (Nat.le_of_ble_eq_true rfl) (Nat.le_of_ble_eq_true rfl) dX1_copy_164 (fun σ13 eσ13 H locs hw => ?_)
  replace hf := lt_i eσ13 hf
  refine lv_aload_n hx hb dX1_copy_167 rfl (lv_at hl 0 rfl) ?_
  refine zget E hw (Nat.le_of_ble_eq_true rfl) (ceC_44 ad cy _) rfl inX1 14 (by decide) k2_32 (fun _ h => h) rfl dX1_copy_168 ?_
  refine lv_aload_n hx hb dX1_copy_171 rfl (lv_at hl 1 rfl) ?_
  refine zget E hw (Nat.le_of_ble_eq_true rfl) (ceC_24 ad cy _) rfl inX1 14 (by decide) k2_32 (fun _ h => h) rfl dX1_copy_172 ?_
  obtain ⟨σ14, hc, hf⟩ := lt_e hf
  refine zcalv hw (va_runV (As := [.ref (ad 34)]) (rest := []) E.fix (c_X9_copy_p54_p34 (l := l) hA σ13 hc) (zcV E k4_19 k1_3 k5_211 k4_17 k4_18 mf_X9_copy rfl rfl ⟨Nat.le_of_ble_eq_true rfl, Nat.le_of_ble_eq_true rfl⟩) (zPreV E hw (Nat.le_of_ble_eq_true rfl) (ceC_54 ad cy _) rfl _) rfl rfl hl.1 rfl (lv_room (Nat.le_of_ble_eq_true rfl)) dX1_copy_175 ⟨Nat.zero_le _, Nat.zero_le _⟩) (fun H locs hw => ?_)
  refine lv_aload_n hx hb dX1_copy_178 rfl (lv_at hl 0 rfl) ?_
  refine zget E hw (Nat.le_of_ble_eq_true rfl) (ceC_44 ad cy _) rfl inX1 15 (by decide) k2_34 (fun _ h => h) rfl dX1_copy_179 ?_
  refine lv_aload_n hx hb dX1_copy_182 rfl (lv_at hl 1 rfl) ?_
  refine zget E hw (Nat.le_of_ble_eq_true rfl) (ceC_24 ad cy _) rfl inX1 15 (by decide) k2_34 (fun _ h => h) rfl dX1_copy_183 ?_
  obtain ⟨σ15, hc, hf⟩ := lt_e hf
  refine zcalv hw (va_runV (As := [.ref (ad 41)]) (rest := []) E.fix (c_X10_copy (l := l) hA 61 (by unfold isSky; omega) 41 (by unfold isSky; omega) σ14 hc) (zcV E k4_63 k1_4 k5_212 k4_61 k4_62 mf_X10_copy rfl rfl ⟨Nat.le_of_ble_eq_true rfl, Nat.le_of_ble_eq_true rfl⟩) (zPreV E hw (Nat.le_of_ble_eq_true rfl) (ceC_61 ad cy _) rfl _) rfl rfl hl.1 rfl (lv_room (Nat.le_of_ble_eq_true rfl)) dX1_copy_186 ⟨Nat.zero_le _, Nat.zero_le _⟩) (fun H locs hw => ?_)
  exact zretv E hw hr hlk hf dX1_copy_189
set_option maxRecDepth 100000 in
set_option maxHeartbeats 4000000 in
theorem c_X11_keep {l : Launch} {D : va_G} {cy : Cy} {ad : Nat → Nat} {A : Nat → Prop} (hA : okAd 97 ad A) (σ : Sg) {r : Int32} {σ9 : Sg} (hf : f_X11_keep σ = (r, σ9)) : Met l yX11_keep (.code yX11_keep cX11_keep 1 (some .int) :: TT) ({ frames := 3, cells := 0, slots := 0, locals := 82 } : Room) (zPc D cy 97 (celC ad cy) ad A [.ref (ad 0)] σ) (zQi D 97 (celC ad cy) ad A r σ9) 0 0 A := by
  refine zofW (by decide) hA (Nat.le_of_ble_eq_true rfl) ?_
  intro p e s m args below meth c ls E hw hr hlk hl
  have E : ZE p s m args c cX11_keep 1 "KiteSummons" D cy 97 ad A := E
  have hx := E.hx
  have hb := E.hb
  have hl : lv_has ls 1 [(0, .ref (ad 0))] := hl
  unfold f_X11_keep at hf
  refine lv_aload_n hx hb dX11_keep_0 rfl (lv_at hl 0 rfl) ?_
  refine zget E hw (Nat.le_of_ble_eq_true rfl) (ceC_0 ad cy _) rfl inX11 3 (by decide) k2_124 (fun _ h => h) rfl dX11_keep_1 ?_
  refine lv_aload_n hx hb dX11_keep_4 rfl (lv_at hl 0 rfl) ?_
  refine zget E hw (Nat.le_of_ble_eq_true rfl) (ceC_0 ad cy _) rfl inX11 2 (by decide) k2_123 (fun _ h => h) rfl dX11_keep_5 ?_
  obtain ⟨σ1, hc, hf⟩ := lt_e hf
  refine zcalv hw (va_runV (As := [.ref (ad 24)]) (rest := []) E.fix (c_X1_copy_p44_p24 (l := l) hA σ hc) (zcV E k5_209 k1_11 k5_206 k5_207 k5_208 mf_X1_copy rfl rfl ⟨Nat.le_of_ble_eq_true rfl, Nat.le_of_ble_eq_true rfl⟩) (zPreV E hw (Nat.le_of_ble_eq_true rfl) (ceC_44 ad cy _) rfl _) rfl rfl hl.1 rfl (lv_room (Nat.le_of_ble_eq_true rfl)) dX11_keep_8 ⟨Nat.zero_le _, Nat.zero_le _⟩) (fun H locs hw => ?_)
  refine lv_aload_n hx hb dX11_keep_11 rfl (lv_at hl 0 rfl) ?_
  refine lv_iconst (v := 1) hx hb dX11_keep_12 (by decide) ?_
  refine zputs E hw (Nat.le_of_ble_eq_true rfl) (ceC_0 ad cy _) rfl inX11 tyX11 tyX11_ok nmX11 14 (by decide) k2_135 (fun _ h => h) rfl rfl rfl (Nat.le_of_ble_eq_true rfl) (j := 14) (Eq.trans (ceC_0 ad cy _) (by rfl)) dX11_keep_13 (fun σ2 eσ2 H locs hw => ?_)
  replace hf := lt_i eσ2 hf
  refine lv_iconst (v := 1) hx hb dX11_keep_16 (by decide) ?_
  exact zreti E hw hr hlk (rp_a hf) (rp_b hf) dX11_keep_17
set_option maxRecDepth 100000 in
set_option maxHeartbeats 4000000 in
theorem c_X9_copy_p34_p54 {l : Launch} {D : va_G} {cy : Cy} {ad : Nat → Nat} {A : Nat → Prop} (hA : okAd 97 ad A) (σ : Sg) {σ9 : Sg} (hf : f_X9_copy_p34_p54 σ = σ9) : Met l yX9_copy (.code yX9_copy cX9_copy 2 none :: TT) ({ frames := 1, cells := 0, slots := 0, locals := 40 } : Room) (zPc D cy 97 (celC ad cy) ad A [.ref (ad 34), .ref (ad 54)] σ) (zQv D 97 (celC ad cy) ad A σ9) 0 0 A := by
  refine zofW (by decide) hA (Nat.le_of_ble_eq_true rfl) ?_
  intro p e s m args below meth c ls E hw hr hlk hl
  have E : ZE p s m args c cX9_copy 2 "KiteSummons$Rules" D cy 97 ad A := E
  have hx := E.hx
  have hb := E.hb
  have hl : lv_has ls 2 [(0, .ref (ad 34)), (1, .ref (ad 54))] := hl
  unfold f_X9_copy_p34_p54 at hf
  refine lv_aload_n hx hb dX9_copy_0 rfl (lv_at hl 0 rfl) ?_
  refine lv_aload_n hx hb dX9_copy_1 rfl (lv_at hl 1 rfl) ?_
  refine zget E hw (Nat.le_of_ble_eq_true rfl) (ceC_54 ad cy _) rfl inX9 0 (by decide) k1_44 (fun _ h => h) rfl dX9_copy_2 ?_
  refine zputs E hw (Nat.le_of_ble_eq_true rfl) (ceC_34 ad cy _) rfl inX9 tyX9 tyX9_ok nmX9 0 (by decide) k1_44 (fun _ h => h) rfl rfl rfl (Nat.le_of_ble_eq_true rfl) (j := 0) (Eq.trans (ceC_34 ad cy _) (by rfl)) dX9_copy_5 (fun σ1 eσ1 H locs hw => ?_)
  replace hf := lt_i eσ1 hf
  refine lv_aload_n hx hb dX9_copy_8 rfl (lv_at hl 0 rfl) ?_
  refine lv_aload_n hx hb dX9_copy_9 rfl (lv_at hl 1 rfl) ?_
  refine zget E hw (Nat.le_of_ble_eq_true rfl) (ceC_54 ad cy _) rfl inX9 1 (by decide) k1_47 (fun _ h => h) rfl dX9_copy_10 ?_
  refine zputs E hw (Nat.le_of_ble_eq_true rfl) (ceC_34 ad cy _) rfl inX9 tyX9 tyX9_ok nmX9 1 (by decide) k1_47 (fun _ h => h) rfl rfl rfl (Nat.le_of_ble_eq_true rfl) (j := 1) (Eq.trans (ceC_34 ad cy _) (by rfl)) dX9_copy_13 (fun σ2 eσ2 H locs hw => ?_)
  replace hf := lt_i eσ2 hf
  refine lv_aload_n hx hb dX9_copy_16 rfl (lv_at hl 1 rfl) ?_
  refine zget E hw (Nat.le_of_ble_eq_true rfl) (ceC_54 ad cy _) rfl inX9 2 (by decide) k1_49 (fun _ h => h) rfl dX9_copy_17 ?_
  refine lv_iconst (v := 0) hx hb dX9_copy_20 (by decide) ?_
  refine lv_aload_n hx hb dX9_copy_21 rfl (lv_at hl 0 rfl) ?_
  refine zget E hw (Nat.le_of_ble_eq_true rfl) (ceC_34 ad cy _) rfl inX9 2 (by decide) k1_49 (fun _ h => h) rfl dX9_copy_22 ?_
  refine lv_iconst (v := 0) hx hb dX9_copy_25 (by decide) ?_
  refine lv_bipush (v := 8) hx hb dX9_copy_26 (by decide) ?_
  refine zcopy E hw hl.1 (E.ht _ k4_20) (E.ht _ k4_22) (E.ht _ k4_21) (E.ht _ k1_20) (Nat.le_of_ble_eq_true rfl) (ceC_55 ad cy) (Nat.le_of_ble_eq_true rfl) (ceC_35 ad cy) 8 ⟨by rfl, by decide⟩ (Nat.le_of_ble_eq_true rfl) (Nat.le_of_ble_eq_true rfl) (Nat.le_of_ble_eq_true rfl) (Nat.le_of_ble_eq_true rfl) dX9_copy_28 (fun σ3 eσ3 H locs hw => ?_)
  replace hf := lt_i eσ3 hf
  refine lv_aload_n hx hb dX9_copy_31 rfl (lv_at hl 1 rfl) ?_
  refine zget E hw (Nat.le_of_ble_eq_true rfl) (ceC_54 ad cy _) rfl inX9 3 (by decide) k1_50 (fun _ h => h) rfl dX9_copy_32 ?_
  refine lv_iconst (v := 0) hx hb dX9_copy_35 (by decide) ?_
  refine lv_aload_n hx hb dX9_copy_36 rfl (lv_at hl 0 rfl) ?_
  refine zget E hw (Nat.le_of_ble_eq_true rfl) (ceC_34 ad cy _) rfl inX9 3 (by decide) k1_50 (fun _ h => h) rfl dX9_copy_37 ?_
  refine lv_iconst (v := 0) hx hb dX9_copy_40 (by decide) ?_
  refine lv_bipush (v := 8) hx hb dX9_copy_41 (by decide) ?_
  refine zcopy E hw hl.1 (E.ht _ k4_20) (E.ht _ k4_22) (E.ht _ k4_21) (E.ht _ k1_20) (Nat.le_of_ble_eq_true rfl) (ceC_56 ad cy) (Nat.le_of_ble_eq_true rfl) (ceC_36 ad cy) 8 ⟨by rfl, by decide⟩ (Nat.le_of_ble_eq_true rfl) (Nat.le_of_ble_eq_true rfl) (Nat.le_of_ble_eq_true rfl) (Nat.le_of_ble_eq_true rfl) dX9_copy_43 (fun σ4 eσ4 H locs hw => ?_)
  replace hf := lt_i eσ4 hf
  refine lv_aload_n hx hb dX9_copy_46 rfl (lv_at hl 1 rfl) ?_
  refine zget E hw (Nat.le_of_ble_eq_true rfl) (ceC_54 ad cy _) rfl inX9 4 (by decide) k1_51 (fun _ h => h) rfl dX9_copy_47 ?_
  refine lv_iconst (v := 0) hx hb dX9_copy_50 (by decide) ?_
  refine lv_aload_n hx hb dX9_copy_51 rfl (lv_at hl 0 rfl) ?_
  refine zget E hw (Nat.le_of_ble_eq_true rfl) (ceC_34 ad cy _) rfl inX9 4 (by decide) k1_51 (fun _ h => h) rfl dX9_copy_52 ?_
  refine lv_iconst (v := 0) hx hb dX9_copy_55 (by decide) ?_
  refine lv_bipush (v := 8) hx hb dX9_copy_56 (by decide) ?_
  refine zcopy E hw hl.1 (E.ht _ k4_20) (E.ht _ k4_22) (E.ht _ k4_21) (E.ht _ k1_20) (Nat.le_of_ble_eq_true rfl) (ceC_57 ad cy) (Nat.le_of_ble_eq_true rfl) (ceC_37 ad cy) 8 ⟨by rfl, by decide⟩ (Nat.le_of_ble_eq_true rfl) (Nat.le_of_ble_eq_true rfl) (Nat.le_of_ble_eq_true rfl) (Nat.le_of_ble_eq_true rfl) dX9_copy_58 (fun σ5 eσ5 H locs hw => ?_)
  replace hf := lt_i eσ5 hf
  refine lv_aload_n hx hb dX9_copy_61 rfl (lv_at hl 1 rfl) ?_
  refine zget E hw (Nat.le_of_ble_eq_true rfl) (ceC_54 ad cy _) rfl inX9 5 (by decide) k1_52 (fun _ h => h) rfl dX9_copy_62 ?_
  refine lv_iconst (v := 0) hx hb dX9_copy_65 (by decide) ?_
  refine lv_aload_n hx hb dX9_copy_66 rfl (lv_at hl 0 rfl) ?_
  refine zget E hw (Nat.le_of_ble_eq_true rfl) (ceC_34 ad cy _) rfl inX9 5 (by decide) k1_52 (fun _ h => h) rfl dX9_copy_67 ?_
  refine lv_iconst (v := 0) hx hb dX9_copy_70 (by decide) ?_
  refine lv_bipush (v := 8) hx hb dX9_copy_71 (by decide) ?_
  refine zcopy E hw hl.1 (E.ht _ k4_20) (E.ht _ k4_22) (E.ht _ k4_21) (E.ht _ k1_20) (Nat.le_of_ble_eq_true rfl) (ceC_58 ad cy) (Nat.le_of_ble_eq_true rfl) (ceC_38 ad cy) 8 ⟨by rfl, by decide⟩ (Nat.le_of_ble_eq_true rfl) (Nat.le_of_ble_eq_true rfl) (Nat.le_of_ble_eq_true rfl) (Nat.le_of_ble_eq_true rfl) dX9_copy_73 (fun σ6 eσ6 H locs hw => ?_)
  replace hf := lt_i eσ6 hf
  refine lv_aload_n hx hb dX9_copy_76 rfl (lv_at hl 1 rfl) ?_
  refine zget E hw (Nat.le_of_ble_eq_true rfl) (ceC_54 ad cy _) rfl inX9 6 (by decide) k1_53 (fun _ h => h) rfl dX9_copy_77 ?_
  refine lv_iconst (v := 0) hx hb dX9_copy_80 (by decide) ?_
  refine lv_aload_n hx hb dX9_copy_81 rfl (lv_at hl 0 rfl) ?_
  refine zget E hw (Nat.le_of_ble_eq_true rfl) (ceC_34 ad cy _) rfl inX9 6 (by decide) k1_53 (fun _ h => h) rfl dX9_copy_82 ?_
  refine lv_iconst (v := 0) hx hb dX9_copy_85 (by decide) ?_
  refine lv_sipush (v := 200) hx hb dX9_copy_86 (by decide) ?_
  refine zcopy E hw hl.1 (E.ht _ k4_20) (E.ht _ k4_22) (E.ht _ k4_21) (E.ht _ k1_20) (Nat.le_of_ble_eq_true rfl) (ceC_59 ad cy) (Nat.le_of_ble_eq_true rfl) (ceC_39 ad cy) 200 ⟨by rfl, by decide⟩ (Nat.le_of_ble_eq_true rfl) (Nat.le_of_ble_eq_true rfl) (Nat.le_of_ble_eq_true rfl) (Nat.le_of_ble_eq_true rfl) dX9_copy_89 (fun σ7 eσ7 H locs hw => ?_)
  replace hf := lt_i eσ7 hf
  exact zretv E hw hr hlk hf dX9_copy_92
set_option maxRecDepth 100000 in
set_option maxHeartbeats 4000000 in
theorem c_X1_copy_p24_p44 {l : Launch} {D : va_G} {cy : Cy} {ad : Nat → Nat} {A : Nat → Prop} (hA : okAd 97 ad A) (σ : Sg) {σ9 : Sg} (hf : f_X1_copy_p24_p44 σ = σ9) : Met l yX1_copy (.code yX1_copy cX1_copy 2 none :: TT) ({ frames := 2, cells := 0, slots := 0, locals := 61 } : Room) (zPc D cy 97 (celC ad cy) ad A [.ref (ad 24), .ref (ad 44)] σ) (zQv D 97 (celC ad cy) ad A σ9) 0 0 A := by
  refine zofW (by decide) hA (Nat.le_of_ble_eq_true rfl) ?_
  intro p e s m args below meth c ls E hw hr hlk hl
  have E : ZE p s m args c cX1_copy 2 "KiteSummons$County" D cy 97 ad A := E
  have hx := E.hx
  have hb := E.hb
  have hl : lv_has ls 2 [(0, .ref (ad 24)), (1, .ref (ad 44))] := hl
  unfold f_X1_copy_p24_p44 at hf
  refine lv_aload_n hx hb dX1_copy_0 rfl (lv_at hl 0 rfl) ?_
  refine lv_aload_n hx hb dX1_copy_1 rfl (lv_at hl 1 rfl) ?_
  refine zget E hw (Nat.le_of_ble_eq_true rfl) (ceC_44 ad cy _) rfl inX1 1 (by decide) k2_9 (fun _ h => h) rfl dX1_copy_2 ?_
  refine zputs E hw (Nat.le_of_ble_eq_true rfl) (ceC_24 ad cy _) rfl inX1 tyX1 tyX1_ok nmX1 1 (by decide) k2_9 (fun _ h => h) rfl rfl rfl (Nat.le_of_ble_eq_true rfl) (j := 1) (Eq.trans (ceC_24 ad cy _) (by rfl)) dX1_copy_5 (fun σ1 eσ1 H locs hw => ?_)
  replace hf := lt_i eσ1 hf
  refine lv_aload_n hx hb dX1_copy_8 rfl (lv_at hl 0 rfl) ?_
  refine lv_aload_n hx hb dX1_copy_9 rfl (lv_at hl 1 rfl) ?_
  refine zget E hw (Nat.le_of_ble_eq_true rfl) (ceC_44 ad cy _) rfl inX1 2 (by decide) k2_12 (fun _ h => h) rfl dX1_copy_10 ?_
  refine zputs E hw (Nat.le_of_ble_eq_true rfl) (ceC_24 ad cy _) rfl inX1 tyX1 tyX1_ok nmX1 2 (by decide) k2_12 (fun _ h => h) rfl rfl rfl (Nat.le_of_ble_eq_true rfl) (j := 2) (Eq.trans (ceC_24 ad cy _) (by rfl)) dX1_copy_13 (fun σ2 eσ2 H locs hw => ?_)
  replace hf := lt_i eσ2 hf
  refine lv_aload_n hx hb dX1_copy_16 rfl (lv_at hl 0 rfl) ?_
  refine lv_aload_n hx hb dX1_copy_17 rfl (lv_at hl 1 rfl) ?_
  refine zget E hw (Nat.le_of_ble_eq_true rfl) (ceC_44 ad cy _) rfl inX1 3 (by decide) k2_14 (fun _ h => h) rfl dX1_copy_18 ?_
  refine zputs E hw (Nat.le_of_ble_eq_true rfl) (ceC_24 ad cy _) rfl inX1 tyX1 tyX1_ok nmX1 3 (by decide) k2_14 (fun _ h => h) rfl rfl rfl (Nat.le_of_ble_eq_true rfl) (j := 3) (Eq.trans (ceC_24 ad cy _) (by rfl)) dX1_copy_21 (fun σ3 eσ3 H locs hw => ?_)
  replace hf := lt_i eσ3 hf
  refine lv_aload_n hx hb dX1_copy_24 rfl (lv_at hl 0 rfl) ?_
  refine lv_aload_n hx hb dX1_copy_25 rfl (lv_at hl 1 rfl) ?_
  refine zget E hw (Nat.le_of_ble_eq_true rfl) (ceC_44 ad cy _) rfl inX1 4 (by decide) k2_16 (fun _ h => h) rfl dX1_copy_26 ?_
  refine zputs E hw (Nat.le_of_ble_eq_true rfl) (ceC_24 ad cy _) rfl inX1 tyX1 tyX1_ok nmX1 4 (by decide) k2_16 (fun _ h => h) rfl rfl rfl (Nat.le_of_ble_eq_true rfl) (j := 4) (Eq.trans (ceC_24 ad cy _) (by rfl)) dX1_copy_29 (fun σ4 eσ4 H locs hw => ?_)
  replace hf := lt_i eσ4 hf
  refine lv_aload_n hx hb dX1_copy_32 rfl (lv_at hl 1 rfl) ?_
  refine zget E hw (Nat.le_of_ble_eq_true rfl) (ceC_44 ad cy _) rfl inX1 5 (by decide) k2_18 (fun _ h => h) rfl dX1_copy_33 ?_
  refine lv_iconst (v := 0) hx hb dX1_copy_36 (by decide) ?_
  refine lv_aload_n hx hb dX1_copy_37 rfl (lv_at hl 0 rfl) ?_
  refine zget E hw (Nat.le_of_ble_eq_true rfl) (ceC_24 ad cy _) rfl inX1 5 (by decide) k2_18 (fun _ h => h) rfl dX1_copy_38 ?_
  refine lv_iconst (v := 0) hx hb dX1_copy_41 (by decide) ?_
  refine lv_bipush (v := 6) hx hb dX1_copy_42 (by decide) ?_
  refine zcopy E hw hl.1 (E.ht _ k5_210) (E.ht _ k4_22) (E.ht _ k4_21) (E.ht _ k1_20) (Nat.le_of_ble_eq_true rfl) (ceC_45 ad cy) (Nat.le_of_ble_eq_true rfl) (ceC_25 ad cy) 6 ⟨by rfl, by decide⟩ (Nat.le_of_ble_eq_true rfl) (Nat.le_of_ble_eq_true rfl) (Nat.le_of_ble_eq_true rfl) (Nat.le_of_ble_eq_true rfl) dX1_copy_44 (fun σ5 eσ5 H locs hw => ?_)
  replace hf := lt_i eσ5 hf
  refine lv_aload_n hx hb dX1_copy_47 rfl (lv_at hl 1 rfl) ?_
  refine zget E hw (Nat.le_of_ble_eq_true rfl) (ceC_44 ad cy _) rfl inX1 6 (by decide) k2_20 (fun _ h => h) rfl dX1_copy_48 ?_
  refine lv_iconst (v := 0) hx hb dX1_copy_51 (by decide) ?_
  refine lv_aload_n hx hb dX1_copy_52 rfl (lv_at hl 0 rfl) ?_
  refine zget E hw (Nat.le_of_ble_eq_true rfl) (ceC_24 ad cy _) rfl inX1 6 (by decide) k2_20 (fun _ h => h) rfl dX1_copy_53 ?_
  refine lv_iconst (v := 0) hx hb dX1_copy_56 (by decide) ?_
  refine lv_bipush (v := 6) hx hb dX1_copy_57 (by decide) ?_
  refine zcopy E hw hl.1 (E.ht _ k5_210) (E.ht _ k4_22) (E.ht _ k4_21) (E.ht _ k1_20) (Nat.le_of_ble_eq_true rfl) (ceC_46 ad cy) (Nat.le_of_ble_eq_true rfl) (ceC_26 ad cy) 6 ⟨by rfl, by decide⟩ (Nat.le_of_ble_eq_true rfl) (Nat.le_of_ble_eq_true rfl) (Nat.le_of_ble_eq_true rfl) (Nat.le_of_ble_eq_true rfl) dX1_copy_59 (fun σ6 eσ6 H locs hw => ?_)
  replace hf := lt_i eσ6 hf
  refine lv_aload_n hx hb dX1_copy_62 rfl (lv_at hl 1 rfl) ?_
  refine zget E hw (Nat.le_of_ble_eq_true rfl) (ceC_44 ad cy _) rfl inX1 7 (by decide) k2_22 (fun _ h => h) rfl dX1_copy_63 ?_
  refine lv_iconst (v := 0) hx hb dX1_copy_66 (by decide) ?_
  refine lv_aload_n hx hb dX1_copy_67 rfl (lv_at hl 0 rfl) ?_
  refine zget E hw (Nat.le_of_ble_eq_true rfl) (ceC_24 ad cy _) rfl inX1 7 (by decide) k2_22 (fun _ h => h) rfl dX1_copy_68 ?_
  refine lv_iconst (v := 0) hx hb dX1_copy_71 (by decide) ?_
  refine lv_bipush (v := 16) hx hb dX1_copy_72 (by decide) ?_
  refine zcopy E hw hl.1 (E.ht _ k5_210) (E.ht _ k4_22) (E.ht _ k4_21) (E.ht _ k1_20) (Nat.le_of_ble_eq_true rfl) (ceC_47 ad cy) (Nat.le_of_ble_eq_true rfl) (ceC_27 ad cy) 16 ⟨by rfl, by decide⟩ (Nat.le_of_ble_eq_true rfl) (Nat.le_of_ble_eq_true rfl) (Nat.le_of_ble_eq_true rfl) (Nat.le_of_ble_eq_true rfl) dX1_copy_74 (fun σ7 eσ7 H locs hw => ?_)
  replace hf := lt_i eσ7 hf
  refine lv_aload_n hx hb dX1_copy_77 rfl (lv_at hl 1 rfl) ?_
  refine zget E hw (Nat.le_of_ble_eq_true rfl) (ceC_44 ad cy _) rfl inX1 8 (by decide) k2_24 (fun _ h => h) rfl dX1_copy_78 ?_
  refine lv_iconst (v := 0) hx hb dX1_copy_81 (by decide) ?_
  refine lv_aload_n hx hb dX1_copy_82 rfl (lv_at hl 0 rfl) ?_
  refine zget E hw (Nat.le_of_ble_eq_true rfl) (ceC_24 ad cy _) rfl inX1 8 (by decide) k2_24 (fun _ h => h) rfl dX1_copy_83 ?_
  refine lv_iconst (v := 0) hx hb dX1_copy_86 (by decide) ?_
  refine lv_bipush (v := 6) hx hb dX1_copy_87 (by decide) ?_
  refine zcopy E hw hl.1 (E.ht _ k5_210) (E.ht _ k4_22) (E.ht _ k4_21) (E.ht _ k1_20) (Nat.le_of_ble_eq_true rfl) (ceC_48 ad cy) (Nat.le_of_ble_eq_true rfl) (ceC_28 ad cy) 6 ⟨by rfl, by decide⟩ (Nat.le_of_ble_eq_true rfl) (Nat.le_of_ble_eq_true rfl) (Nat.le_of_ble_eq_true rfl) (Nat.le_of_ble_eq_true rfl) dX1_copy_89 (fun σ8 eσ8 H locs hw => ?_)
  replace hf := lt_i eσ8 hf
  refine lv_aload_n hx hb dX1_copy_92 rfl (lv_at hl 1 rfl) ?_
  refine zget E hw (Nat.le_of_ble_eq_true rfl) (ceC_44 ad cy _) rfl inX1 9 (by decide) k2_26 (fun _ h => h) rfl dX1_copy_93 ?_
  refine lv_iconst (v := 0) hx hb dX1_copy_96 (by decide) ?_
  refine lv_aload_n hx hb dX1_copy_97 rfl (lv_at hl 0 rfl) ?_
  refine zget E hw (Nat.le_of_ble_eq_true rfl) (ceC_24 ad cy _) rfl inX1 9 (by decide) k2_26 (fun _ h => h) rfl dX1_copy_98 ?_
  refine lv_iconst (v := 0) hx hb dX1_copy_101 (by decide) ?_
  refine lv_bipush (v := 6) hx hb dX1_copy_102 (by decide) ?_
  refine zcopy E hw hl.1 (E.ht _ k5_210) (E.ht _ k4_22) (E.ht _ k4_21) (E.ht _ k1_20) (Nat.le_of_ble_eq_true rfl) (ceC_49 ad cy) (Nat.le_of_ble_eq_true rfl) (ceC_29 ad cy) 6 ⟨by rfl, by decide⟩ (Nat.le_of_ble_eq_true rfl) (Nat.le_of_ble_eq_true rfl) (Nat.le_of_ble_eq_true rfl) (Nat.le_of_ble_eq_true rfl) dX1_copy_104 (fun σ9 eσ9 H locs hw => ?_)
  replace hf := lt_i eσ9 hf
  refine lv_aload_n hx hb dX1_copy_107 rfl (lv_at hl 1 rfl) ?_
  refine zget E hw (Nat.le_of_ble_eq_true rfl) (ceC_44 ad cy _) rfl inX1 10 (by decide) k2_28 (fun _ h => h) rfl dX1_copy_108 ?_
  refine lv_iconst (v := 0) hx hb dX1_copy_111 (by decide) ?_
  refine lv_aload_n hx hb dX1_copy_112 rfl (lv_at hl 0 rfl) ?_
  refine zget E hw (Nat.le_of_ble_eq_true rfl) (ceC_24 ad cy _) rfl inX1 10 (by decide) k2_28 (fun _ h => h) rfl dX1_copy_113 ?_
  refine lv_iconst (v := 0) hx hb dX1_copy_116 (by decide) ?_
  refine lv_bipush (v := 6) hx hb dX1_copy_117 (by decide) ?_
  refine zcopy E hw hl.1 (E.ht _ k5_210) (E.ht _ k4_22) (E.ht _ k4_21) (E.ht _ k1_20) (Nat.le_of_ble_eq_true rfl) (ceC_50 ad cy) (Nat.le_of_ble_eq_true rfl) (ceC_30 ad cy) 6 ⟨by rfl, by decide⟩ (Nat.le_of_ble_eq_true rfl) (Nat.le_of_ble_eq_true rfl) (Nat.le_of_ble_eq_true rfl) (Nat.le_of_ble_eq_true rfl) dX1_copy_119 (fun σ10 eσ10 H locs hw => ?_)
  replace hf := lt_i eσ10 hf
  refine lv_aload_n hx hb dX1_copy_122 rfl (lv_at hl 1 rfl) ?_
  refine zget E hw (Nat.le_of_ble_eq_true rfl) (ceC_44 ad cy _) rfl inX1 11 (by decide) k2_29 (fun _ h => h) rfl dX1_copy_123 ?_
  refine lv_iconst (v := 0) hx hb dX1_copy_126 (by decide) ?_
  refine lv_aload_n hx hb dX1_copy_127 rfl (lv_at hl 0 rfl) ?_
  refine zget E hw (Nat.le_of_ble_eq_true rfl) (ceC_24 ad cy _) rfl inX1 11 (by decide) k2_29 (fun _ h => h) rfl dX1_copy_128 ?_
  refine lv_iconst (v := 0) hx hb dX1_copy_131 (by decide) ?_
  refine lv_bipush (v := 6) hx hb dX1_copy_132 (by decide) ?_
  refine zcopy E hw hl.1 (E.ht _ k5_210) (E.ht _ k4_22) (E.ht _ k4_21) (E.ht _ k1_20) (Nat.le_of_ble_eq_true rfl) (ceC_51 ad cy) (Nat.le_of_ble_eq_true rfl) (ceC_31 ad cy) 6 ⟨by rfl, by decide⟩ (Nat.le_of_ble_eq_true rfl) (Nat.le_of_ble_eq_true rfl) (Nat.le_of_ble_eq_true rfl) (Nat.le_of_ble_eq_true rfl) dX1_copy_134 (fun σ11 eσ11 H locs hw => ?_)
  replace hf := lt_i eσ11 hf
  refine lv_aload_n hx hb dX1_copy_137 rfl (lv_at hl 1 rfl) ?_
  refine zget E hw (Nat.le_of_ble_eq_true rfl) (ceC_44 ad cy _) rfl inX1 12 (by decide) k2_30 (fun _ h => h) rfl dX1_copy_138 ?_
  refine lv_iconst (v := 0) hx hb dX1_copy_141 (by decide) ?_
  refine lv_aload_n hx hb dX1_copy_142 rfl (lv_at hl 0 rfl) ?_
  refine zget E hw (Nat.le_of_ble_eq_true rfl) (ceC_24 ad cy _) rfl inX1 12 (by decide) k2_30 (fun _ h => h) rfl dX1_copy_143 ?_
  refine lv_iconst (v := 0) hx hb dX1_copy_146 (by decide) ?_
  refine lv_bipush (v := 6) hx hb dX1_copy_147 (by decide) ?_
  refine zcopy E hw hl.1 (E.ht _ k5_210) (E.ht _ k4_22) (E.ht _ k4_21) (E.ht _ k1_20) (Nat.le_of_ble_eq_true rfl) (ceC_52 ad cy) (Nat.le_of_ble_eq_true rfl) (ceC_32 ad cy) 6 ⟨by rfl, by decide⟩ (Nat.le_of_ble_eq_true rfl) (Nat.le_of_ble_eq_true rfl) (Nat.le_of_ble_eq_true rfl) (Nat.le_of_ble_eq_true rfl) dX1_copy_149 (fun σ12 eσ12 H locs hw => ?_)
  replace hf := lt_i eσ12 hf
  refine lv_aload_n hx hb dX1_copy_152 rfl (lv_at hl 1 rfl) ?_
  refine zget E hw (Nat.le_of_ble_eq_true rfl) (ceC_44 ad cy _) rfl inX1 13 (by decide) k2_31 (fun _ h => h) rfl dX1_copy_153 ?_
  refine lv_iconst (v := 0) hx hb dX1_copy_156 (by decide) ?_
  refine lv_aload_n hx hb dX1_copy_157 rfl (lv_at hl 0 rfl) ?_
  refine zget E hw (Nat.le_of_ble_eq_true rfl) (ceC_24 ad cy _) rfl inX1 13 (by decide) k2_31 (fun _ h => h) rfl dX1_copy_158 ?_
  refine lv_iconst (v := 0) hx hb dX1_copy_161 (by decide) ?_
  refine lv_bipush (v := 6) hx hb dX1_copy_162 (by decide) ?_
  refine zcopy E hw hl.1 (E.ht _ k5_210) (E.ht _ k4_22) (E.ht _ k4_21) (E.ht _ k1_20) (Nat.le_of_ble_eq_true rfl) (ceC_53 ad cy) (Nat.le_of_ble_eq_true rfl) (ceC_33 ad cy) 6 ⟨by rfl, by decide⟩ (Nat.le_of_ble_eq_true rfl) (Nat.le_of_ble_eq_true rfl) (Nat.le_of_ble_eq_true rfl) (Nat.le_of_ble_eq_true rfl) dX1_copy_164 (fun σ13 eσ13 H locs hw => ?_)
  replace hf := lt_i eσ13 hf
  refine lv_aload_n hx hb dX1_copy_167 rfl (lv_at hl 0 rfl) ?_
  refine zget E hw (Nat.le_of_ble_eq_true rfl) (ceC_24 ad cy _) rfl inX1 14 (by decide) k2_32 (fun _ h => h) rfl dX1_copy_168 ?_
  refine lv_aload_n hx hb dX1_copy_171 rfl (lv_at hl 1 rfl) ?_
  refine zget E hw (Nat.le_of_ble_eq_true rfl) (ceC_44 ad cy _) rfl inX1 14 (by decide) k2_32 (fun _ h => h) rfl dX1_copy_172 ?_
  obtain ⟨σ14, hc, hf⟩ := lt_e hf
  refine zcalv hw (va_runV (As := [.ref (ad 54)]) (rest := []) E.fix (c_X9_copy_p34_p54 (l := l) hA σ13 hc) (zcV E k4_19 k1_3 k5_211 k4_17 k4_18 mf_X9_copy rfl rfl ⟨Nat.le_of_ble_eq_true rfl, Nat.le_of_ble_eq_true rfl⟩) (zPreV E hw (Nat.le_of_ble_eq_true rfl) (ceC_34 ad cy _) rfl _) rfl rfl hl.1 rfl (lv_room (Nat.le_of_ble_eq_true rfl)) dX1_copy_175 ⟨Nat.zero_le _, Nat.zero_le _⟩) (fun H locs hw => ?_)
  refine lv_aload_n hx hb dX1_copy_178 rfl (lv_at hl 0 rfl) ?_
  refine zget E hw (Nat.le_of_ble_eq_true rfl) (ceC_24 ad cy _) rfl inX1 15 (by decide) k2_34 (fun _ h => h) rfl dX1_copy_179 ?_
  refine lv_aload_n hx hb dX1_copy_182 rfl (lv_at hl 1 rfl) ?_
  refine zget E hw (Nat.le_of_ble_eq_true rfl) (ceC_44 ad cy _) rfl inX1 15 (by decide) k2_34 (fun _ h => h) rfl dX1_copy_183 ?_
  obtain ⟨σ15, hc, hf⟩ := lt_e hf
  refine zcalv hw (va_runV (As := [.ref (ad 61)]) (rest := []) E.fix (c_X10_copy (l := l) hA 41 (by unfold isSky; omega) 61 (by unfold isSky; omega) σ14 hc) (zcV E k4_63 k1_4 k5_212 k4_61 k4_62 mf_X10_copy rfl rfl ⟨Nat.le_of_ble_eq_true rfl, Nat.le_of_ble_eq_true rfl⟩) (zPreV E hw (Nat.le_of_ble_eq_true rfl) (ceC_41 ad cy _) rfl _) rfl rfl hl.1 rfl (lv_room (Nat.le_of_ble_eq_true rfl)) dX1_copy_186 ⟨Nat.zero_le _, Nat.zero_le _⟩) (fun H locs hw => ?_)
  exact zretv E hw hr hlk hf dX1_copy_189
set_option maxRecDepth 100000 in
set_option maxHeartbeats 4000000 in
theorem c_X11_again {l : Launch} {D : va_G} {cy : Cy} {ad : Nat → Nat} {A : Nat → Prop} (hA : okAd 97 ad A) (σ : Sg) {r : Int32} {σ9 : Sg} (hf : f_X11_again σ = (r, σ9)) : Met l yX11_again (.code yX11_again cX11_again 1 (some .int) :: TT) ({ frames := 3, cells := 0, slots := 0, locals := 82 } : Room) (zPc D cy 97 (celC ad cy) ad A [.ref (ad 0)] σ) (zQi D 97 (celC ad cy) ad A r σ9) 0 0 A := by
  refine zofW (by decide) hA (Nat.le_of_ble_eq_true rfl) ?_
  intro p e s m args below meth c ls E hw hr hlk hl
  have E : ZE p s m args c cX11_again 1 "KiteSummons" D cy 97 ad A := E
  have hx := E.hx
  have hb := E.hb
  have hl : lv_has ls 1 [(0, .ref (ad 0))] := hl
  unfold f_X11_again at hf
  refine lv_aload_n hx hb dX11_again_0 rfl (lv_at hl 0 rfl) ?_
  refine zget E hw (Nat.le_of_ble_eq_true rfl) (ceC_0 ad cy _) rfl inX11 14 (by decide) k2_135 (fun _ h => h) rfl dX11_again_1 ?_
  refine lv_if_ne (tgt := 10) hx hb dX11_again_4 (by decide) (fun h => ?_) (fun h => ?_)
  · replace hf := it_t h hf
    refine lv_aload_n hx hb dX11_again_10 rfl (lv_at hl 0 rfl) ?_
    refine zget E hw (Nat.le_of_ble_eq_true rfl) (ceC_0 ad cy _) rfl inX11 2 (by decide) k2_123 (fun _ h => h) rfl dX11_again_11 ?_
    refine lv_aload_n hx hb dX11_again_14 rfl (lv_at hl 0 rfl) ?_
    refine zget E hw (Nat.le_of_ble_eq_true rfl) (ceC_0 ad cy _) rfl inX11 3 (by decide) k2_124 (fun _ h => h) rfl dX11_again_15 ?_
    obtain ⟨σ1, hc, hf⟩ := lt_e hf
    refine zcalv hw (va_runV (As := [.ref (ad 44)]) (rest := []) E.fix (c_X1_copy_p24_p44 (l := l) hA σ hc) (zcV E k5_209 k1_11 k5_206 k5_207 k5_208 mf_X1_copy rfl rfl ⟨Nat.le_of_ble_eq_true rfl, Nat.le_of_ble_eq_true rfl⟩) (zPreV E hw (Nat.le_of_ble_eq_true rfl) (ceC_24 ad cy _) rfl _) rfl rfl hl.1 rfl (lv_room (Nat.le_of_ble_eq_true rfl)) dX11_again_18 ⟨Nat.zero_le _, Nat.zero_le _⟩) (fun H locs hw => ?_)
    refine lv_aload_n hx hb dX11_again_21 rfl (lv_at hl 0 rfl) ?_
    refine zget E hw (Nat.le_of_ble_eq_true rfl) (ceC_0 ad cy _) rfl inX11 2 (by decide) k2_123 (fun _ h => h) rfl dX11_again_22 ?_
    refine zget E hw (Nat.le_of_ble_eq_true rfl) (ceC_24 ad cy _) rfl inX1 1 (by decide) k2_10 (fun _ h => h) rfl dX11_again_25 ?_
    exact zreti E hw hr hlk (rp_a hf) (rp_b hf) dX11_again_28
  · replace hf := it_n h hf
    refine lv_bipush (v := (-3)) hx hb dX11_again_7 (by decide) ?_
    exact zreti E hw hr hlk (rp_a hf) (rp_b hf) dX11_again_9
