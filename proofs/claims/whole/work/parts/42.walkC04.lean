set_option maxRecDepth 100000 in
set_option maxHeartbeats 4000000 in
theorem c_X6_extend_s {l : Launch} {D : va_G} {cy : Cy} {ad : Nat → Nat} {A : Nat → Prop} (hA : okAd 97 ad A) (rec : Int32 → Int32 → Int32 → Int32 → Sg → Option Sg) (d : Nat) (hrec : ∀ (xq1 : Int32) (xq2 : Int32) (xq3 : Int32) (xq4 : Int32) (σ : Sg) {σ9 : Sg}, rec xq1 xq2 xq3 xq4 σ = some σ9 → Met l yX6_extend (.code yX6_extend cX6_extend 9 none :: TT) ({ frames := 5 + 1 * d, cells := 0, slots := 0, locals := 118 + 28 * d } : Room) (zPc D cy 97 (celC ad cy) ad A [.ref (ad 78), .int xq1, .int xq2, .int xq3, .int xq4] σ) (zQv D 97 (celC ad cy) ad A σ9) 0 0 A) (xq1 : Int32) (xq2 : Int32) (xq3 : Int32) (xq4 : Int32) (σ : Sg) {σ9 : Sg} (hf : f_X6_extend_s rec xq1 xq2 xq3 xq4 σ = some σ9) : Met l yX6_extend (.code yX6_extend cX6_extend 9 none :: TT) ({ frames := 5 + 1 * (d + 1), cells := 0, slots := 0, locals := 118 + 28 * (d + 1) } : Room) (zPc D cy 97 (celC ad cy) ad A [.ref (ad 78), .int xq1, .int xq2, .int xq3, .int xq4] σ) (zQv D 97 (celC ad cy) ad A σ9) 0 0 A := by
  refine zofW (by decide) hA (Nat.le_of_ble_eq_true rfl) ?_
  intro p e s m args below meth c ls E hw hr hlk hl
  have E : ZE p s m args c cX6_extend 9 "KiteSummons$Plans" D cy 97 ad A := E
  have hx := E.hx
  have hb := E.hb
  have hl : lv_has ls 9 [(0, .ref (ad 78)), (1, .int xq1), (2, .int xq2), (3, .int xq3), (4, .int xq4)] := hl
  have hB52 : ∀ (xq1 : Int32) (xq2 : Int32) (xq3 : Int32) (xq4 : Int32) (nq5 : Nat) (hnq5 : isSky nq5) (nq6 : Nat) (hnq6 : isSky nq6) (kq52 : Int32 → Sg → Option Sg) (hkq52 : ∀ (xq7 : Int32) (σ : Sg) (H : Heap) (locs : List Loc) (ls : Array Slot), ZS D 97 (celC ad cy) ad A s σ H locs → lv_has ls 9 [(0, .ref (ad 78)), (1, .int xq1), (2, .int xq2), (3, .int xq3), (4, .int xq4), (5, .ref (ad nq5)), (6, .ref (ad nq6)), (7, .int xq7)] → kq52 xq7 σ = some σ9 → W p l e ({ frames := 5 + 1 * (d + 1), cells := 0, slots := 0, locals := 118 + 28 * (d + 1) } : Room) s m args below meth c H locs 0 0 (MQ below (zQv D 97 (celC ad cy) ad A σ9) args s 0 0 A) (F0 m 52 ls [])) (xq7 : Int32) (σ : Sg) (H : Heap) (locs : List Loc) (ls : Array Slot), ZS D 97 (celC ad cy) ad A s σ H locs → lv_has ls 9 [(0, .ref (ad 78)), (1, .int xq1), (2, .int xq2), (3, .int xq3), (4, .int xq4), (5, .ref (ad nq5)), (6, .ref (ad nq6)), (7, .int xq7)] → f_X6_extend_b52 rec kq52 xq1 xq2 xq3 xq4 nq5 nq6 xq7 σ = some σ9 → W p l e ({ frames := 5 + 1 * (d + 1), cells := 0, slots := 0, locals := 118 + 28 * (d + 1) } : Room) s m args below meth c H locs 0 0 (MQ below (zQv D 97 (celC ad cy) ad A σ9) args s 0 0 A) (F0 m 52 ls []) := by
    intro xq1 xq2 xq3 xq4 nq5 hnq5 nq6 hnq6 kq52 hkq52 xq7 σ H locs ls hw hl hf
    unfold f_X6_extend_b52 at hf
    refine lv_iload hx hb dX6_extend_52 (lv_at hl 7 rfl) ?_
    refine lv_aload_n hx hb dX6_extend_54 rfl (lv_at hl 0 rfl) ?_
    refine zget E hw (Nat.le_of_ble_eq_true rfl) (ceC_78 ad cy _) rfl inX6 0 (by decide) k2_79 (fun _ h => h) rfl dX6_extend_55 ?_
    refine zget E hw (Nat.le_of_ble_eq_true rfl) (ceC_24 ad cy _) rfl inX1 1 (by decide) k2_11 (fun _ h => h) rfl dX6_extend_58 ?_
    refine lv_icmp_gt (tgt := 124) hx hb dX6_extend_61 (by decide) (fun h => ?_) (fun h => ?_)
    · replace hf := it_t h hf
      exact zretv E hw hr hlk (rt_1 hf) dX6_extend_124
    · replace hf := it_f h hf
      refine lv_aload hx hb dX6_extend_64 (lv_at hl 6 rfl) ?_
      refine lv_aload hx hb dX6_extend_66 (lv_at hl 5 rfl) ?_
      obtain ⟨σ6, hc, hf⟩ := lt_e hf
      refine zcalv hw (va_runV (As := [.ref (ad nq5)]) (rest := []) E.fix (c_X10_copy (l := l) hA nq6 hnq6 nq5 hnq5 σ hc) (zcV E k4_63 k1_4 k4_135 k4_61 k4_62 mf_X10_copy rfl rfl ⟨by dsimp only; omega, by dsimp only; omega⟩) (zPreV E hw (ltSky hnq6) (ceSky ad cy _ hnq6) rfl _) rfl rfl hl.1 rfl (lv_room (Nat.le_of_ble_eq_true rfl)) dX6_extend_68 ⟨Nat.zero_le _, Nat.zero_le _⟩) (fun H locs hw => ?_)
      refine lv_aload_n hx hb dX6_extend_71 rfl (lv_at hl 0 rfl) ?_
      refine zget E hw (Nat.le_of_ble_eq_true rfl) (ceC_78 ad cy _) rfl inX6 2 (by decide) k2_81 (fun _ h => h) rfl dX6_extend_72 ?_
      refine lv_iload_n hx hb dX6_extend_75 rfl (lv_at hl 1 rfl) ?_
      refine lv_iload hx hb dX6_extend_76 (lv_at hl 7 rfl) ?_
      obtain ⟨σ7, hσ7, hf⟩ := bd_e hf
      refine zastr E hw (Nat.le_of_ble_eq_true rfl) (ceC_80 ad cy) hσ7 dX6_extend_78 (fun H locs hw => ?_)
      refine lv_aload_n hx hb dX6_extend_79 rfl (lv_at hl 0 rfl) ?_
      refine zget E hw (Nat.le_of_ble_eq_true rfl) (ceC_78 ad cy _) rfl inX6 0 (by decide) k2_79 (fun _ h => h) rfl dX6_extend_80 ?_
      refine lv_aload hx hb dX6_extend_83 (lv_at hl 6 rfl) ?_
      refine lv_iload hx hb dX6_extend_85 (lv_at hl 7 rfl) ?_
      obtain ⟨vq8, σ9, hc, hf⟩ := bd2_e hf
      refine zcali hw (va_runV (As := [.ref (ad nq6), .int xq7]) (rest := []) E.fix (c_X1_goByAct (l := l) hA nq6 hnq6 xq7 σ7 hc) (zcV E k4_88 k1_11 k4_146 k4_86 k4_87 mf_X1_goByAct rfl rfl ⟨by dsimp only; omega, by dsimp only; omega⟩) (zPreV E hw (Nat.le_of_ble_eq_true rfl) (ceC_24 ad cy _) rfl _) rfl rfl hl.1 rfl (lv_room (Nat.le_of_ble_eq_true rfl)) dX6_extend_87 ⟨Nat.zero_le _, Nat.zero_le _⟩) (fun H locs hw => ?_)
      refine lv_istore (lv' := [(8, .int vq8), (0, .ref (ad 78)), (1, .int xq1), (2, .int xq2), (3, .int xq3), (4, .int xq4), (5, .ref (ad nq5)), (6, .ref (ad nq6)), (7, .int xq7)]) hx hb dX6_extend_90 hl (by decide) rfl (fun ls hl => ?_)
      refine lv_aload_n hx hb dX6_extend_92 rfl (lv_at hl 1 rfl) ?_
      refine lv_iload_n hx hb dX6_extend_93 rfl (lv_at hl 2 rfl) ?_
      refine lv_iconst (v := 1) hx hb dX6_extend_94 (by decide) ?_
      refine lv_iadd hx hb dX6_extend_95 ?_
      refine lv_iload_n hx hb dX6_extend_96 rfl (lv_at hl 3 rfl) ?_
      refine lv_iload_n hx hb dX6_extend_97 rfl (lv_at hl 4 rfl) ?_
      refine lv_iload hx hb dX6_extend_98 (lv_at hl 0 rfl) ?_
      refine lv_iadd hx hb dX6_extend_100 ?_
      refine lv_iload hx hb dX6_extend_101 (lv_at hl 8 rfl) ?_
      refine lv_if_ne (tgt := 111) hx hb dX6_extend_103 (by decide) (fun h => ?_) (fun h => ?_)
      · replace hf := it_t h hf
        refine lv_iload hx hb dX6_extend_111 (lv_at hl 5 rfl) ?_
        refine lv_iconst (v := 1) hx hb dX6_extend_113 (by decide) ?_
        refine lv_iadd hx hb dX6_extend_114 ?_
        obtain ⟨σ10, hc, hf⟩ := bd_e hf
        refine zcalv hw (va_runV (As := [.int (xq1 + 1), .int xq2, .int (xq3 + vq8), .int (xq4 + 1)]) (rest := []) E.fix (hrec (xq1 + 1) xq2 (xq3 + vq8) (xq4 + 1) σ9 hc) (zcV E k4_139 k1_13 k4_136 k4_138 kp2_12 mf_X6_extend rfl rfl ⟨by dsimp only; omega, by dsimp only; omega⟩) (zPreV E hw (Nat.le_of_ble_eq_true rfl) (ceC_78 ad cy _) rfl _) rfl rfl hl.1 rfl (lv_room (Nat.le_of_ble_eq_true rfl)) dX6_extend_115 ⟨Nat.zero_le _, Nat.zero_le _⟩) (fun H locs hw => ?_)
        refine lv_iinc (v := (xq7 + 1)) (lv' := [(7, .int (xq7 + 1)), (8, .int vq8), (0, .ref (ad 78)), (1, .int xq1), (2, .int xq2), (3, .int xq3), (4, .int xq4), (5, .ref (ad nq5)), (6, .ref (ad nq6))]) hx hb dX6_extend_118 hl (k := 8) rfl (by rfl) (by decide) rfl (fun ls hl => ?_)
        refine lv_goto (tgt := 52) hx hb dX6_extend_121 (by decide) ?_
        exact hkq52 (xq7 + 1) σ10 _ _ _ hw (lv_sub hl [2, 3, 4, 5, 6, 7, 8, 0] rfl) hf
      · replace hf := it_n h hf
        refine lv_iload hx hb dX6_extend_106 (lv_at hl 5 rfl) ?_
        refine lv_goto (tgt := 115) hx hb dX6_extend_108 (by decide) ?_
        obtain ⟨σ11, hc, hf⟩ := bd_e hf
        refine zcalv hw (va_runV (As := [.int (xq1 + 1), .int xq2, .int (xq3 + vq8), .int xq4]) (rest := []) E.fix (hrec (xq1 + 1) xq2 (xq3 + vq8) xq4 σ9 hc) (zcV E k4_139 k1_13 k4_136 k4_138 kp2_12 mf_X6_extend rfl rfl ⟨by dsimp only; omega, by dsimp only; omega⟩) (zPreV E hw (Nat.le_of_ble_eq_true rfl) (ceC_78 ad cy _) rfl _) rfl rfl hl.1 rfl (lv_room (Nat.le_of_ble_eq_true rfl)) dX6_extend_115 ⟨Nat.zero_le _, Nat.zero_le _⟩) (fun H locs hw => ?_)
        refine lv_iinc (v := (xq7 + 1)) (lv' := [(7, .int (xq7 + 1)), (8, .int vq8), (0, .ref (ad 78)), (1, .int xq1), (2, .int xq2), (3, .int xq3), (4, .int xq4), (5, .ref (ad nq5)), (6, .ref (ad nq6))]) hx hb dX6_extend_118 hl (k := 8) rfl (by rfl) (by decide) rfl (fun ls hl => ?_)
        refine lv_goto (tgt := 52) hx hb dX6_extend_121 (by decide) ?_
        exact hkq52 (xq7 + 1) σ11 _ _ _ hw (lv_sub hl [2, 3, 4, 5, 6, 7, 8, 0] rfl) hf
  have hL52 : ∀ (xq1 : Int32) (xq2 : Int32) (xq3 : Int32) (xq4 : Int32) (nq5 : Nat) (hnq5 : isSky nq5) (nq6 : Nat) (hnq6 : isSky nq6) (n : Nat) (xq7 : Int32) (σ : Sg) (H : Heap) (locs : List Loc) (ls : Array Slot), ZS D 97 (celC ad cy) ad A s σ H locs → lv_has ls 9 [(0, .ref (ad 78)), (1, .int xq1), (2, .int xq2), (3, .int xq3), (4, .int xq4), (5, .ref (ad nq5)), (6, .ref (ad nq6)), (7, .int xq7)] → f_X6_extend_l52 rec xq1 xq2 xq3 xq4 nq5 nq6 n xq7 σ = some σ9 → W p l e ({ frames := 5 + 1 * (d + 1), cells := 0, slots := 0, locals := 118 + 28 * (d + 1) } : Room) s m args below meth c H locs 0 0 (MQ below (zQv D 97 (celC ad cy) ad A σ9) args s 0 0 A) (F0 m 52 ls []) := by
    intro xq1 xq2 xq3 xq4 nq5 hnq5 nq6 hnq6 n
    induction n with
    | zero =>
      intro xq7 σ H locs ls hw hl hf
      exact nn_e hf
    | succ n ih =>
      intro xq7 σ H locs ls hw hl hf
      exact hB52 xq1 xq2 xq3 xq4 nq5 hnq5 nq6 hnq6 (f_X6_extend_l52 rec xq1 xq2 xq3 xq4 nq5 nq6 n) ih xq7 σ H locs ls hw hl hf
  unfold f_X6_extend_s at hf
  refine lv_aload_n hx hb dX6_extend_0 rfl (lv_at hl 0 rfl) ?_
  refine zget E hw (Nat.le_of_ble_eq_true rfl) (ceC_78 ad cy _) rfl inX6 1 (by decide) k2_80 (fun _ h => h) rfl dX6_extend_1 ?_
  refine lv_iload_n hx hb dX6_extend_4 rfl (lv_at hl 1 rfl) ?_
  obtain ⟨hiq1, hf⟩ := gd_e hf
  refine zaldq E hw (Nat.le_of_ble_eq_true rfl) 4 rfl rfl (ceC_79 ad cy _) hiq1 dX6_extend_5 ?_
  refine lv_astore (lv' := [(5, .ref (ad (82 + 3 * xq1.toNatClampNeg))), (0, .ref (ad 78)), (1, .int xq1), (2, .int xq2), (3, .int xq3), (4, .int xq4)]) hx hb dX6_extend_6 hl (by decide) rfl (fun ls hl => ?_)
  refine lv_iload_n hx hb dX6_extend_8 rfl (lv_at hl 2 rfl) ?_
  refine lv_iload_n hx hb dX6_extend_9 rfl (lv_at hl 3 rfl) ?_
  refine lv_icmp_ge (tgt := 30) hx hb dX6_extend_10 (by decide) (fun h => ?_) (fun h => ?_)
  · replace hf := it_t h hf
    refine lv_aload_n hx hb dX6_extend_30 rfl (lv_at hl 1 rfl) ?_
    refine lv_iload_n hx hb dX6_extend_31 rfl (lv_at hl 2 rfl) ?_
    refine lv_iload_n hx hb dX6_extend_32 rfl (lv_at hl 4 rfl) ?_
    refine lv_iload hx hb dX6_extend_33 (lv_at hl 5 rfl) ?_
    obtain ⟨σ2, hc, hf⟩ := bd_e hf
    refine zcalv hw (va_runV (As := [.int xq1, .int xq3, .int xq4]) (rest := []) E.fix (c_X6_weigh (l := l) hA xq1 xq3 xq4 σ hc) (zcV E k4_144 k1_13 k4_141 k4_143 kp2_13 mf_X6_weigh rfl rfl ⟨by dsimp only; omega, by dsimp only; omega⟩) (zPreV E hw (Nat.le_of_ble_eq_true rfl) (ceC_78 ad cy _) rfl _) rfl rfl hl.1 rfl (lv_room (Nat.le_of_ble_eq_true rfl)) dX6_extend_35 ⟨Nat.zero_le _, Nat.zero_le _⟩) (fun H locs hw => ?_)
    exact zretv E hw hr hlk (rt_1 hf) dX6_extend_38
  · replace hf := it_f h hf
    refine lv_iload_n hx hb dX6_extend_13 rfl (lv_at hl 2 rfl) ?_
    refine lv_iconst (v := 4) hx hb dX6_extend_14 (by decide) ?_
    refine lv_icmp_ge (tgt := 30) hx hb dX6_extend_15 (by decide) (fun h => ?_) (fun h => ?_)
    · replace hf := it_t h hf
      refine lv_aload_n hx hb dX6_extend_30 rfl (lv_at hl 1 rfl) ?_
      refine lv_iload_n hx hb dX6_extend_31 rfl (lv_at hl 2 rfl) ?_
      refine lv_iload_n hx hb dX6_extend_32 rfl (lv_at hl 4 rfl) ?_
      refine lv_iload hx hb dX6_extend_33 (lv_at hl 5 rfl) ?_
      obtain ⟨σ3, hc, hf⟩ := bd_e hf
      refine zcalv hw (va_runV (As := [.int xq1, .int xq3, .int xq4]) (rest := []) E.fix (c_X6_weigh (l := l) hA xq1 xq3 xq4 σ hc) (zcV E k4_144 k1_13 k4_141 k4_143 kp2_13 mf_X6_weigh rfl rfl ⟨by dsimp only; omega, by dsimp only; omega⟩) (zPreV E hw (Nat.le_of_ble_eq_true rfl) (ceC_78 ad cy _) rfl _) rfl rfl hl.1 rfl (lv_room (Nat.le_of_ble_eq_true rfl)) dX6_extend_35 ⟨Nat.zero_le _, Nat.zero_le _⟩) (fun H locs hw => ?_)
      exact zretv E hw hr hlk (rt_1 hf) dX6_extend_38
    · replace hf := it_f h hf
      refine lv_aload_n hx hb dX6_extend_18 rfl (lv_at hl 1 rfl) ?_
      refine zget E hw (Nat.le_of_ble_eq_true rfl) (ceC_78 ad cy _) rfl inX6 0 (by decide) k2_79 (fun _ h => h) rfl dX6_extend_19 ?_
      refine lv_aload hx hb dX6_extend_22 (lv_at hl 0 rfl) ?_
      refine zcali hw (va_runV (As := [.ref (ad (82 + 3 * xq1.toNatClampNeg))]) (rest := []) E.fix (c_X1_isOver (l := l) hA (82 + 3 * xq1.toNatClampNeg) (skyOf (nlt hiq1)) σ rfl) (zcV E k3_106 k1_11 k4_140 k3_104 k3_105 mf_X1_isOver rfl rfl ⟨by dsimp only; omega, by dsimp only; omega⟩) (zPreV E hw (Nat.le_of_ble_eq_true rfl) (ceC_24 ad cy _) rfl _) rfl rfl hl.1 rfl (lv_room (Nat.le_of_ble_eq_true rfl)) dX6_extend_24 ⟨Nat.zero_le _, Nat.zero_le _⟩) (fun H locs hw => ?_)
      refine lv_if_eq (tgt := 39) hx hb dX6_extend_27 (by decide) (fun h => ?_) (fun h => ?_)
      · replace hf := it_f (b2i_0 h) hf
        refine lv_aload_n hx hb dX6_extend_39 rfl (lv_at hl 1 rfl) ?_
        refine zget E hw (Nat.le_of_ble_eq_true rfl) (ceC_78 ad cy _) rfl inX6 1 (by decide) k2_80 (fun _ h => h) rfl dX6_extend_40 ?_
        refine lv_iload_n hx hb dX6_extend_43 rfl (lv_at hl 2 rfl) ?_
        refine lv_iconst (v := 1) hx hb dX6_extend_44 (by decide) ?_
        refine lv_iadd hx hb dX6_extend_45 ?_
        obtain ⟨hiq4, hf⟩ := gd_e hf
        refine zaldq E hw (Nat.le_of_ble_eq_true rfl) 4 rfl rfl (ceC_79 ad cy _) hiq4 dX6_extend_46 ?_
        refine lv_astore (lv' := [(6, .ref (ad (82 + 3 * (xq1 + 1).toNatClampNeg))), (5, .ref (ad (82 + 3 * xq1.toNatClampNeg))), (0, .ref (ad 78)), (1, .int xq1), (2, .int xq2), (3, .int xq3), (4, .int xq4)]) hx hb dX6_extend_47 hl (by decide) rfl (fun ls hl => ?_)
        refine lv_iconst (v := 0) hx hb dX6_extend_49 (by decide) ?_
        refine lv_istore (lv' := [(7, .int 0), (6, .ref (ad (82 + 3 * (xq1 + 1).toNatClampNeg))), (5, .ref (ad (82 + 3 * xq1.toNatClampNeg))), (0, .ref (ad 78)), (1, .int xq1), (2, .int xq2), (3, .int xq3), (4, .int xq4)]) hx hb dX6_extend_50 hl (by decide) rfl (fun ls hl => ?_)
        exact hL52 xq1 xq2 xq3 xq4 (82 + 3 * xq1.toNatClampNeg) (skyOf (nlt hiq1)) (82 + 3 * (xq1 + 1).toNatClampNeg) (skyOf (nlt hiq4)) 400 0 σ _ _ _ hw (lv_sub hl [3, 4, 5, 6, 7, 2, 1, 0] rfl) hf
      · replace hf := it_t (b2i_n h) hf
        refine lv_aload_n hx hb dX6_extend_30 rfl (lv_at hl 1 rfl) ?_
        refine lv_iload_n hx hb dX6_extend_31 rfl (lv_at hl 2 rfl) ?_
        refine lv_iload_n hx hb dX6_extend_32 rfl (lv_at hl 4 rfl) ?_
        refine lv_iload hx hb dX6_extend_33 (lv_at hl 5 rfl) ?_
        obtain ⟨σ5, hc, hf⟩ := bd_e hf
        refine zcalv hw (va_runV (As := [.int xq1, .int xq3, .int xq4]) (rest := []) E.fix (c_X6_weigh (l := l) hA xq1 xq3 xq4 σ hc) (zcV E k4_144 k1_13 k4_141 k4_143 kp2_13 mf_X6_weigh rfl rfl ⟨by dsimp only; omega, by dsimp only; omega⟩) (zPreV E hw (Nat.le_of_ble_eq_true rfl) (ceC_78 ad cy _) rfl _) rfl rfl hl.1 rfl (lv_room (Nat.le_of_ble_eq_true rfl)) dX6_extend_35 ⟨Nat.zero_le _, Nat.zero_le _⟩) (fun H locs hw => ?_)
        exact zretv E hw hr hlk (rt_1 hf) dX6_extend_38
theorem c_X6_extend {l : Launch} {D : va_G} {cy : Cy} {ad : Nat → Nat} {A : Nat → Prop} (hA : okAd 97 ad A) : ∀ (d : Nat) (xq1 : Int32) (xq2 : Int32) (xq3 : Int32) (xq4 : Int32) (σ : Sg) {σ9 : Sg}, f_X6_extend d xq1 xq2 xq3 xq4 σ = some σ9 → Met l yX6_extend (.code yX6_extend cX6_extend 9 none :: TT) ({ frames := 5 + 1 * d, cells := 0, slots := 0, locals := 118 + 28 * d } : Room) (zPc D cy 97 (celC ad cy) ad A [.ref (ad 78), .int xq1, .int xq2, .int xq3, .int xq4] σ) (zQv D 97 (celC ad cy) ad A σ9) 0 0 A := by
  intro d
  induction d with
  | zero =>
    intro xq1 xq2 xq3 xq4 σ σ9 hf
    exact nn_e hf
  | succ d ih =>
    intro xq1 xq2 xq3 xq4 σ σ9 hf
    exact c_X6_extend_s hA (f_X6_extend d) d ih xq1 xq2 xq3 xq4 σ hf
set_option maxRecDepth 100000 in
set_option maxHeartbeats 4000000 in
theorem c_X6_search {l : Launch} {D : va_G} {cy : Cy} {ad : Nat → Nat} {A : Nat → Prop} (hA : okAd 97 ad A) (xq1 : Int32) (xq2 : Int32) (σ : Sg) {σ9 : Sg} (hf : f_X6_search xq1 xq2 σ = some σ9) : Met l yX6_search (.code yX6_search cX6_search 3 none :: TT) ({ frames := 12, cells := 0, slots := 0, locals := 314 } : Room) (zPc D cy 97 (celC ad cy) ad A [.ref (ad 78), .int xq1, .int xq2] σ) (zQv D 97 (celC ad cy) ad A σ9) 0 0 A := by
  refine zofW (by decide) hA (Nat.le_of_ble_eq_true rfl) ?_
  intro p e s m args below meth c ls E hw hr hlk hl
  have E : ZE p s m args c cX6_search 3 "KiteSummons$Plans" D cy 97 ad A := E
  have hx := E.hx
  have hb := E.hb
  have hl : lv_has ls 3 [(0, .ref (ad 78)), (1, .int xq1), (2, .int xq2)] := hl
  unfold f_X6_search at hf
  refine lv_aload_n hx hb dX6_search_0 rfl (lv_at hl 0 rfl) ?_
  refine lv_iload_n hx hb dX6_search_1 rfl (lv_at hl 2 rfl) ?_
  refine zputs E hw (Nat.le_of_ble_eq_true rfl) (ceC_78 ad cy _) rfl inX6 tyX6 tyX6_ok nmX6 8 (by decide) k2_92 (fun _ h => h) rfl rfl rfl (Nat.le_of_ble_eq_true rfl) (j := 8) (Eq.trans (ceC_78 ad cy _) (by rfl)) dX6_search_2 (fun σ1 eσ1 H locs hw => ?_)
  replace hf := lt_i eσ1 hf
  refine lv_aload_n hx hb dX6_search_5 rfl (lv_at hl 0 rfl) ?_
  refine lv_iconst (v := (-1)) hx hb dX6_search_6 (by decide) ?_
  refine zputs E hw (Nat.le_of_ble_eq_true rfl) (ceC_78 ad cy _) rfl inX6 tyX6 tyX6_ok nmX6 5 (by decide) k2_86 (fun _ h => h) rfl rfl rfl (Nat.le_of_ble_eq_true rfl) (j := 5) (Eq.trans (ceC_78 ad cy _) (by rfl)) dX6_search_7 (fun σ2 eσ2 H locs hw => ?_)
  replace hf := lt_i eσ2 hf
  refine lv_aload_n hx hb dX6_search_10 rfl (lv_at hl 0 rfl) ?_
  refine lv_bipush (v := (-3)) hx hb dX6_search_11 (by decide) ?_
  refine zputs E hw (Nat.le_of_ble_eq_true rfl) (ceC_78 ad cy _) rfl inX6 tyX6 tyX6_ok nmX6 7 (by decide) k2_90 (fun _ h => h) rfl rfl rfl (Nat.le_of_ble_eq_true rfl) (j := 7) (Eq.trans (ceC_78 ad cy _) (by rfl)) dX6_search_13 (fun σ3 eσ3 H locs hw => ?_)
  replace hf := lt_i eσ3 hf
  refine lv_aload_n hx hb dX6_search_16 rfl (lv_at hl 0 rfl) ?_
  refine lv_iconst (v := 0) hx hb dX6_search_17 (by decide) ?_
  refine zputs E hw (Nat.le_of_ble_eq_true rfl) (ceC_78 ad cy _) rfl inX6 tyX6 tyX6_ok nmX6 9 (by decide) k2_93 (fun _ h => h) rfl rfl rfl (Nat.le_of_ble_eq_true rfl) (j := 9) (Eq.trans (ceC_78 ad cy _) (by rfl)) dX6_search_18 (fun σ4 eσ4 H locs hw => ?_)
  replace hf := lt_i eσ4 hf
  refine lv_aload_n hx hb dX6_search_21 rfl (lv_at hl 0 rfl) ?_
  refine zget E hw (Nat.le_of_ble_eq_true rfl) (ceC_78 ad cy _) rfl inX6 1 (by decide) k2_80 (fun _ h => h) rfl dX6_search_22 ?_
  refine lv_iconst (v := 0) hx hb dX6_search_25 (by decide) ?_
  refine zaldq E hw (Nat.le_of_ble_eq_true rfl) 4 rfl rfl (ceC_79 ad cy _) (by decide) dX6_search_26 ?_
  refine W.eq (g2 := F0 m 27 _ (.ref (ad 82) :: [])) rfl ?_
  refine lv_aload_n hx hb dX6_search_27 rfl (lv_at hl 0 rfl) ?_
  refine zget E hw (Nat.le_of_ble_eq_true rfl) (ceC_78 ad cy _) rfl inX6 0 (by decide) k2_79 (fun _ h => h) rfl dX6_search_28 ?_
  refine zget E hw (Nat.le_of_ble_eq_true rfl) (ceC_24 ad cy _) rfl inX1 15 (by decide) k2_35 (fun _ h => h) rfl dX6_search_31 ?_
  obtain ⟨σ5, hc, hf⟩ := lt_e hf
  refine zcalv hw (va_runV (As := [.ref (ad 41)]) (rest := []) E.fix (c_X10_copy (l := l) hA 82 (by unfold isSky; omega) 41 (by unfold isSky; omega) σ4 hc) (zcV E k4_63 k1_4 k4_135 k4_61 k4_62 mf_X10_copy rfl rfl ⟨Nat.le_of_ble_eq_true rfl, Nat.le_of_ble_eq_true rfl⟩) (zPreV E hw (Nat.le_of_ble_eq_true rfl) (ceC_82 ad cy _) rfl _) rfl rfl hl.1 rfl (lv_room (Nat.le_of_ble_eq_true rfl)) dX6_search_34 ⟨Nat.zero_le _, Nat.zero_le _⟩) (fun H locs hw => ?_)
  refine lv_aload_n hx hb dX6_search_37 rfl (lv_at hl 0 rfl) ?_
  refine lv_iconst (v := 0) hx hb dX6_search_38 (by decide) ?_
  refine lv_iload_n hx hb dX6_search_39 rfl (lv_at hl 1 rfl) ?_
  refine lv_iconst (v := 0) hx hb dX6_search_40 (by decide) ?_
  refine lv_iconst (v := 0) hx hb dX6_search_41 (by decide) ?_
  obtain ⟨σ6, hc, hf⟩ := bd_e hf
  refine zcalv hw (va_runV (As := [.int 0, .int xq1, .int 0, .int 0]) (rest := []) E.fix (c_X6_extend (l := l) hA 6 0 xq1 0 0 σ5 hc) (zcV E k4_139 k1_13 k4_136 k4_138 kp2_12 mf_X6_extend rfl rfl ⟨Nat.le_of_ble_eq_true rfl, Nat.le_of_ble_eq_true rfl⟩) (zPreV E hw (Nat.le_of_ble_eq_true rfl) (ceC_78 ad cy _) rfl _) rfl rfl hl.1 rfl (lv_room (Nat.le_of_ble_eq_true rfl)) dX6_search_42 ⟨Nat.zero_le _, Nat.zero_le _⟩) (fun H locs hw => ?_)
  exact zretv E hw hr hlk (rt_1 hf) dX6_search_45
set_option maxRecDepth 100000 in
set_option maxHeartbeats 4000000 in
theorem c_X11_best {l : Launch} {D : va_G} {cy : Cy} {ad : Nat → Nat} {A : Nat → Prop} (hA : okAd 97 ad A) (xq1 : Int32) (σ : Sg) {r : Int32} {σ9 : Sg} (hf : f_X11_best xq1 σ = some (r, σ9)) : Met l yX11_best (.code yX11_best cX11_best 2 (some .int) :: TT) ({ frames := 13, cells := 0, slots := 0, locals := 336 } : Room) (zPc D cy 97 (celC ad cy) ad A [.ref (ad 0), .int xq1] σ) (zQi D 97 (celC ad cy) ad A r σ9) 0 0 A := by
  refine zofW (by decide) hA (Nat.le_of_ble_eq_true rfl) ?_
  intro p e s m args below meth c ls E hw hr hlk hl
  have E : ZE p s m args c cX11_best 2 "KiteSummons" D cy 97 ad A := E
  have hx := E.hx
  have hb := E.hb
  have hl : lv_has ls 2 [(0, .ref (ad 0)), (1, .int xq1)] := hl
  unfold f_X11_best at hf
  refine lv_iload_n hx hb dX11_best_0 rfl (lv_at hl 1 rfl) ?_
  refine zcali hw (va_runS (As := [.int xq1]) (rest := []) E.fix (c_X11_isPlanLength (l := l) hA xq1 σ rfl) (zcS E k4_130 k1_1 k4_128 k4_129 mf_X11_isPlanLength rfl rfl ⟨Nat.le_of_ble_eq_true rfl, Nat.le_of_ble_eq_true rfl⟩) (zPre E hw _) rfl rfl hl.1 rfl (lv_room (Nat.le_of_ble_eq_true rfl)) dX11_best_1 ⟨Nat.zero_le _, Nat.zero_le _⟩) (fun H locs hw => ?_)
  refine lv_if_ne (tgt := 9) hx hb dX11_best_4 (by decide) (fun h => ?_) (fun h => ?_)
  · replace hf := it_t (b2i_n h) hf
    refine lv_aload_n hx hb dX11_best_9 rfl (lv_at hl 0 rfl) ?_
    refine zget E hw (Nat.le_of_ble_eq_true rfl) (ceC_0 ad cy _) rfl inX11 5 (by decide) k2_126 (fun _ h => h) rfl dX11_best_10 ?_
    refine lv_iload_n hx hb dX11_best_13 rfl (lv_at hl 1 rfl) ?_
    refine lv_iconst (v := 0) hx hb dX11_best_14 (by decide) ?_
    obtain ⟨σ1, hc, hf⟩ := bd_e hf
    refine zcalv hw (va_runV (As := [.int xq1, .int 0]) (rest := []) E.fix (c_X6_search (l := l) hA xq1 0 σ hc) (zcV E k4_134 k1_13 k4_131 k4_132 k4_133 mf_X6_search rfl rfl ⟨Nat.le_of_ble_eq_true rfl, Nat.le_of_ble_eq_true rfl⟩) (zPreV E hw (Nat.le_of_ble_eq_true rfl) (ceC_78 ad cy _) rfl _) rfl rfl hl.1 rfl (lv_room (Nat.le_of_ble_eq_true rfl)) dX11_best_15 ⟨Nat.zero_le _, Nat.zero_le _⟩) (fun H locs hw => ?_)
    refine lv_aload_n hx hb dX11_best_18 rfl (lv_at hl 0 rfl) ?_
    refine zget E hw (Nat.le_of_ble_eq_true rfl) (ceC_0 ad cy _) rfl inX11 5 (by decide) k2_126 (fun _ h => h) rfl dX11_best_19 ?_
    refine zget E hw (Nat.le_of_ble_eq_true rfl) (ceC_78 ad cy _) rfl inX6 5 (by decide) k2_87 (fun _ h => h) rfl dX11_best_22 ?_
    exact zreti E hw hr hlk (rt_a hf) (rt_b hf) dX11_best_25
  · replace hf := it_f (b2i_0 h) hf
    refine lv_iconst (v := (-1)) hx hb dX11_best_7 (by decide) ?_
    exact zreti E hw hr hlk (rt_a hf) (rt_b hf) dX11_best_8
set_option maxRecDepth 100000 in
set_option maxHeartbeats 4000000 in
theorem c_X11_ith {l : Launch} {D : va_G} {cy : Cy} {ad : Nat → Nat} {A : Nat → Prop} (hA : okAd 97 ad A) (xq1 : Int32) (xq2 : Int32) (σ : Sg) {r : Int32} {σ9 : Sg} (hf : f_X11_ith xq1 xq2 σ = some (r, σ9)) : Met l yX11_ith (.code yX11_ith cX11_ith 3 (some .int) :: TT) ({ frames := 13, cells := 0, slots := 0, locals := 336 } : Room) (zPc D cy 97 (celC ad cy) ad A [.ref (ad 0), .int xq1, .int xq2] σ) (zQi D 97 (celC ad cy) ad A r σ9) 0 0 A := by
  refine zofW (by decide) hA (Nat.le_of_ble_eq_true rfl) ?_
  intro p e s m args below meth c ls E hw hr hlk hl
  have E : ZE p s m args c cX11_ith 3 "KiteSummons" D cy 97 ad A := E
  have hx := E.hx
  have hb := E.hb
  have hl : lv_has ls 3 [(0, .ref (ad 0)), (1, .int xq1), (2, .int xq2)] := hl
  unfold f_X11_ith at hf
  refine lv_iload_n hx hb dX11_ith_0 rfl (lv_at hl 1 rfl) ?_
  refine zcali hw (va_runS (As := [.int xq1]) (rest := []) E.fix (c_X11_isPlanLength (l := l) hA xq1 σ rfl) (zcS E k4_130 k1_1 k4_128 k4_129 mf_X11_isPlanLength rfl rfl ⟨Nat.le_of_ble_eq_true rfl, Nat.le_of_ble_eq_true rfl⟩) (zPre E hw _) rfl rfl hl.1 rfl (lv_room (Nat.le_of_ble_eq_true rfl)) dX11_ith_1 ⟨Nat.zero_le _, Nat.zero_le _⟩) (fun H locs hw => ?_)
  refine lv_if_eq (tgt := 16) hx hb dX11_ith_4 (by decide) (fun h => ?_) (fun h => ?_)
  · replace hf := it_f (b2i_0 h) hf
    refine lv_iconst (v := (-1)) hx hb dX11_ith_16 (by decide) ?_
    exact zreti E hw hr hlk (rt_a hf) (rt_b hf) dX11_ith_17
  · replace hf := it_t (b2i_n h) hf
    refine lv_iload_n hx hb dX11_ith_7 rfl (lv_at hl 2 rfl) ?_
    refine lv_iconst (v := 0) hx hb dX11_ith_8 (by decide) ?_
    refine lv_iconst (v := 3) hx hb dX11_ith_9 (by decide) ?_
    refine zcali hw (va_runS (As := [.int xq2, .int 0, .int 3]) (rest := []) E.fix (c_X11_within (l := l) hA xq2 0 3 σ rfl) (zcS E k2_179 k1_1 k2_177 k2_178 mf_X11_within rfl rfl ⟨Nat.le_of_ble_eq_true rfl, Nat.le_of_ble_eq_true rfl⟩) (zPre E hw _) rfl rfl hl.1 rfl (lv_room (Nat.le_of_ble_eq_true rfl)) dX11_ith_10 ⟨Nat.zero_le _, Nat.zero_le _⟩) (fun H locs hw => ?_)
    refine lv_if_ne (tgt := 18) hx hb dX11_ith_13 (by decide) (fun h => ?_) (fun h => ?_)
    · replace hf := it_t (b2i_n h) hf
      refine lv_aload_n hx hb dX11_ith_18 rfl (lv_at hl 0 rfl) ?_
      refine zget E hw (Nat.le_of_ble_eq_true rfl) (ceC_0 ad cy _) rfl inX11 5 (by decide) k2_126 (fun _ h => h) rfl dX11_ith_19 ?_
      refine lv_iload_n hx hb dX11_ith_22 rfl (lv_at hl 1 rfl) ?_
      refine lv_iconst (v := 0) hx hb dX11_ith_23 (by decide) ?_
      obtain ⟨σ1, hc, hf⟩ := bd_e hf
      refine zcalv hw (va_runV (As := [.int xq1, .int 0]) (rest := []) E.fix (c_X6_search (l := l) hA xq1 0 σ hc) (zcV E k4_134 k1_13 k4_131 k4_132 k4_133 mf_X6_search rfl rfl ⟨Nat.le_of_ble_eq_true rfl, Nat.le_of_ble_eq_true rfl⟩) (zPreV E hw (Nat.le_of_ble_eq_true rfl) (ceC_78 ad cy _) rfl _) rfl rfl hl.1 rfl (lv_room (Nat.le_of_ble_eq_true rfl)) dX11_ith_24 ⟨Nat.zero_le _, Nat.zero_le _⟩) (fun H locs hw => ?_)
      refine lv_iload_n hx hb dX11_ith_27 rfl (lv_at hl 2 rfl) ?_
      refine lv_aload_n hx hb dX11_ith_28 rfl (lv_at hl 0 rfl) ?_
      refine zget E hw (Nat.le_of_ble_eq_true rfl) (ceC_0 ad cy _) rfl inX11 5 (by decide) k2_126 (fun _ h => h) rfl dX11_ith_29 ?_
      refine zget E hw (Nat.le_of_ble_eq_true rfl) (ceC_78 ad cy _) rfl inX6 4 (by decide) k2_85 (fun _ h => h) rfl dX11_ith_32 ?_
      refine lv_icmp_ge (tgt := 50) hx hb dX11_ith_35 (by decide) (fun h => ?_) (fun h => ?_)
      · replace hf := it_t h hf
        refine lv_bipush (v := (-3)) hx hb dX11_ith_50 (by decide) ?_
        exact zreti E hw hr hlk (rt_a hf) (rt_b hf) dX11_ith_52
      · replace hf := it_f h hf
        refine lv_aload_n hx hb dX11_ith_38 rfl (lv_at hl 0 rfl) ?_
        refine zget E hw (Nat.le_of_ble_eq_true rfl) (ceC_0 ad cy _) rfl inX11 5 (by decide) k2_126 (fun _ h => h) rfl dX11_ith_39 ?_
        refine zget E hw (Nat.le_of_ble_eq_true rfl) (ceC_78 ad cy _) rfl inX6 3 (by decide) k2_83 (fun _ h => h) rfl dX11_ith_42 ?_
        refine lv_iload_n hx hb dX11_ith_45 rfl (lv_at hl 2 rfl) ?_
        obtain ⟨vq2, hvq2, hf⟩ := bd_e hf
        refine zaldr E hw (Nat.le_of_ble_eq_true rfl) (ceC_81 ad cy) hvq2 dX11_ith_46 ?_
        refine lv_goto (tgt := 52) hx hb dX11_ith_47 (by decide) ?_
        exact zreti E hw hr hlk (rt_a hf) (rt_b hf) dX11_ith_52
    · replace hf := it_f (b2i_0 h) hf
      refine lv_iconst (v := (-1)) hx hb dX11_ith_16 (by decide) ?_
      exact zreti E hw hr hlk (rt_a hf) (rt_b hf) dX11_ith_17
set_option maxRecDepth 100000 in
set_option maxHeartbeats 4000000 in
theorem c_X11_ways {l : Launch} {D : va_G} {cy : Cy} {ad : Nat → Nat} {A : Nat → Prop} (hA : okAd 97 ad A) (xq1 : Int32) (σ : Sg) {r : Int32} {σ9 : Sg} (hf : f_X11_ways xq1 σ = some (r, σ9)) : Met l yX11_ways (.code yX11_ways cX11_ways 2 (some .int) :: TT) ({ frames := 13, cells := 0, slots := 0, locals := 336 } : Room) (zPc D cy 97 (celC ad cy) ad A [.ref (ad 0), .int xq1] σ) (zQi D 97 (celC ad cy) ad A r σ9) 0 0 A := by
  refine zofW (by decide) hA (Nat.le_of_ble_eq_true rfl) ?_
  intro p e s m args below meth c ls E hw hr hlk hl
  have E : ZE p s m args c cX11_ways 2 "KiteSummons" D cy 97 ad A := E
  have hx := E.hx
  have hb := E.hb
  have hl : lv_has ls 2 [(0, .ref (ad 0)), (1, .int xq1)] := hl
  unfold f_X11_ways at hf
  refine lv_iload_n hx hb dX11_ways_0 rfl (lv_at hl 1 rfl) ?_
  refine zcali hw (va_runS (As := [.int xq1]) (rest := []) E.fix (c_X11_isPlanLength (l := l) hA xq1 σ rfl) (zcS E k4_130 k1_1 k4_128 k4_129 mf_X11_isPlanLength rfl rfl ⟨Nat.le_of_ble_eq_true rfl, Nat.le_of_ble_eq_true rfl⟩) (zPre E hw _) rfl rfl hl.1 rfl (lv_room (Nat.le_of_ble_eq_true rfl)) dX11_ways_1 ⟨Nat.zero_le _, Nat.zero_le _⟩) (fun H locs hw => ?_)
  refine lv_if_ne (tgt := 9) hx hb dX11_ways_4 (by decide) (fun h => ?_) (fun h => ?_)
  · replace hf := it_t (b2i_n h) hf
    refine lv_aload_n hx hb dX11_ways_9 rfl (lv_at hl 0 rfl) ?_
    refine zget E hw (Nat.le_of_ble_eq_true rfl) (ceC_0 ad cy _) rfl inX11 5 (by decide) k2_126 (fun _ h => h) rfl dX11_ways_10 ?_
    refine lv_iload_n hx hb dX11_ways_13 rfl (lv_at hl 1 rfl) ?_
    refine lv_iconst (v := 0) hx hb dX11_ways_14 (by decide) ?_
    obtain ⟨σ1, hc, hf⟩ := bd_e hf
    refine zcalv hw (va_runV (As := [.int xq1, .int 0]) (rest := []) E.fix (c_X6_search (l := l) hA xq1 0 σ hc) (zcV E k4_134 k1_13 k4_131 k4_132 k4_133 mf_X6_search rfl rfl ⟨Nat.le_of_ble_eq_true rfl, Nat.le_of_ble_eq_true rfl⟩) (zPreV E hw (Nat.le_of_ble_eq_true rfl) (ceC_78 ad cy _) rfl _) rfl rfl hl.1 rfl (lv_room (Nat.le_of_ble_eq_true rfl)) dX11_ways_15 ⟨Nat.zero_le _, Nat.zero_le _⟩) (fun H locs hw => ?_)
    refine lv_aload_n hx hb dX11_ways_18 rfl (lv_at hl 0 rfl) ?_
    refine zget E hw (Nat.le_of_ble_eq_true rfl) (ceC_0 ad cy _) rfl inX11 5 (by decide) k2_126 (fun _ h => h) rfl dX11_ways_19 ?_
    refine zget E hw (Nat.le_of_ble_eq_true rfl) (ceC_78 ad cy _) rfl inX6 6 (by decide) k2_89 (fun _ h => h) rfl dX11_ways_22 ?_
    exact zreti E hw hr hlk (rt_a hf) (rt_b hf) dX11_ways_25
  · replace hf := it_f (b2i_0 h) hf
    refine lv_iconst (v := (-1)) hx hb dX11_ways_7 (by decide) ?_
    exact zreti E hw hr hlk (rt_a hf) (rt_b hf) dX11_ways_8
set_option maxRecDepth 100000 in
set_option maxHeartbeats 4000000 in
theorem c_X11_writ {l : Launch} {D : va_G} {cy : Cy} {ad : Nat → Nat} {A : Nat → Prop} (hA : okAd 97 ad A) (xq1 : Int32) (xq2 : Int32) (σ : Sg) {r : Int32} {σ9 : Sg} (hf : f_X11_writ xq1 xq2 σ = some (r, σ9)) : Met l yX11_writ (.code yX11_writ cX11_writ 3 (some .int) :: TT) ({ frames := 13, cells := 0, slots := 0, locals := 336 } : Room) (zPc D cy 97 (celC ad cy) ad A [.ref (ad 0), .int xq1, .int xq2] σ) (zQi D 97 (celC ad cy) ad A r σ9) 0 0 A := by
  refine zofW (by decide) hA (Nat.le_of_ble_eq_true rfl) ?_
  intro p e s m args below meth c ls E hw hr hlk hl
  have E : ZE p s m args c cX11_writ 3 "KiteSummons" D cy 97 ad A := E
  have hx := E.hx
  have hb := E.hb
  have hl : lv_has ls 3 [(0, .ref (ad 0)), (1, .int xq1), (2, .int xq2)] := hl
  unfold f_X11_writ at hf
  refine lv_iload_n hx hb dX11_writ_0 rfl (lv_at hl 1 rfl) ?_
  refine zcali hw (va_runS (As := [.int xq1]) (rest := []) E.fix (c_X11_isPlanLength (l := l) hA xq1 σ rfl) (zcS E k4_130 k1_1 k4_128 k4_129 mf_X11_isPlanLength rfl rfl ⟨Nat.le_of_ble_eq_true rfl, Nat.le_of_ble_eq_true rfl⟩) (zPre E hw _) rfl rfl hl.1 rfl (lv_room (Nat.le_of_ble_eq_true rfl)) dX11_writ_1 ⟨Nat.zero_le _, Nat.zero_le _⟩) (fun H locs hw => ?_)
  refine lv_if_eq (tgt := 22) hx hb dX11_writ_4 (by decide) (fun h => ?_) (fun h => ?_)
  · replace hf := it_f (b2i_0 h) hf
    refine lv_iconst (v := (-1)) hx hb dX11_writ_22 (by decide) ?_
    exact zreti E hw hr hlk (rt_a hf) (rt_b hf) dX11_writ_23
  · replace hf := it_t (b2i_n h) hf
    refine lv_iload_n hx hb dX11_writ_7 rfl (lv_at hl 2 rfl) ?_
    refine lv_iconst (v := 0) hx hb dX11_writ_8 (by decide) ?_
    refine lv_aload_n hx hb dX11_writ_9 rfl (lv_at hl 0 rfl) ?_
    refine zget E hw (Nat.le_of_ble_eq_true rfl) (ceC_0 ad cy _) rfl inX11 2 (by decide) k2_123 (fun _ h => h) rfl dX11_writ_10 ?_
    refine zcali hw (va_runV (As := []) (rest := [.int 0, .int xq2]) E.fix (c_X1_allKites (l := l) hA σ rfl) (zcV E k3_98 k1_11 k3_95 k3_96 k3_97 mf_X1_allKites rfl rfl ⟨Nat.le_of_ble_eq_true rfl, Nat.le_of_ble_eq_true rfl⟩) (zPreV E hw (Nat.le_of_ble_eq_true rfl) (ceC_24 ad cy _) rfl _) rfl rfl hl.1 rfl (lv_room (Nat.le_of_ble_eq_true rfl)) dX11_writ_13 ⟨Nat.zero_le _, Nat.zero_le _⟩) (fun H locs hw => ?_)
    refine zcali hw (va_runS (As := [.int xq2, .int 0, .int (f_X1_allKites σ)]) (rest := []) E.fix (c_X11_within (l := l) hA xq2 0 (f_X1_allKites σ) σ rfl) (zcS E k2_179 k1_1 k2_177 k2_178 mf_X11_within rfl rfl ⟨Nat.le_of_ble_eq_true rfl, Nat.le_of_ble_eq_true rfl⟩) (zPre E hw _) rfl rfl hl.1 rfl (lv_room (Nat.le_of_ble_eq_true rfl)) dX11_writ_16 ⟨Nat.zero_le _, Nat.zero_le _⟩) (fun H locs hw => ?_)
    refine lv_if_ne (tgt := 24) hx hb dX11_writ_19 (by decide) (fun h => ?_) (fun h => ?_)
    · replace hf := it_t (b2i_n h) hf
      refine lv_aload_n hx hb dX11_writ_24 rfl (lv_at hl 0 rfl) ?_
      refine zget E hw (Nat.le_of_ble_eq_true rfl) (ceC_0 ad cy _) rfl inX11 5 (by decide) k2_126 (fun _ h => h) rfl dX11_writ_25 ?_
      refine lv_iload_n hx hb dX11_writ_28 rfl (lv_at hl 1 rfl) ?_
      refine lv_iload_n hx hb dX11_writ_29 rfl (lv_at hl 2 rfl) ?_
      obtain ⟨σ1, hc, hf⟩ := bd_e hf
      refine zcalv hw (va_runV (As := [.int xq1, .int xq2]) (rest := []) E.fix (c_X6_search (l := l) hA xq1 xq2 σ hc) (zcV E k4_134 k1_13 k4_131 k4_132 k4_133 mf_X6_search rfl rfl ⟨Nat.le_of_ble_eq_true rfl, Nat.le_of_ble_eq_true rfl⟩) (zPreV E hw (Nat.le_of_ble_eq_true rfl) (ceC_78 ad cy _) rfl _) rfl rfl hl.1 rfl (lv_room (Nat.le_of_ble_eq_true rfl)) dX11_writ_30 ⟨Nat.zero_le _, Nat.zero_le _⟩) (fun H locs hw => ?_)
      refine lv_aload_n hx hb dX11_writ_33 rfl (lv_at hl 0 rfl) ?_
      refine zget E hw (Nat.le_of_ble_eq_true rfl) (ceC_0 ad cy _) rfl inX11 5 (by decide) k2_126 (fun _ h => h) rfl dX11_writ_34 ?_
      refine zget E hw (Nat.le_of_ble_eq_true rfl) (ceC_78 ad cy _) rfl inX6 7 (by decide) k2_91 (fun _ h => h) rfl dX11_writ_37 ?_
      exact zreti E hw hr hlk (rt_a hf) (rt_b hf) dX11_writ_40
    · replace hf := it_f (b2i_0 h) hf
      refine lv_iconst (v := (-1)) hx hb dX11_writ_22 (by decide) ?_
      exact zreti E hw hr hlk (rt_a hf) (rt_b hf) dX11_writ_23
set_option maxRecDepth 100000 in
set_option maxHeartbeats 4000000 in
theorem c_X11_bars {l : Launch} {D : va_G} {cy : Cy} {ad : Nat → Nat} {A : Nat → Prop} (hA : okAd 97 ad A) (xq1 : Int32) (xq2 : Int32) (σ : Sg) {r : Int32} {σ9 : Sg} (hf : f_X11_bars xq1 xq2 σ = some (r, σ9)) : Met l yX11_bars (.code yX11_bars cX11_bars 4 (some .int) :: TT) ({ frames := 13, cells := 0, slots := 0, locals := 336 } : Room) (zPc D cy 97 (celC ad cy) ad A [.ref (ad 0), .int xq1, .int xq2] σ) (zQi D 97 (celC ad cy) ad A r σ9) 0 0 A := by
  refine zofW (by decide) hA (Nat.le_of_ble_eq_true rfl) ?_
  intro p e s m args below meth c ls E hw hr hlk hl
  have E : ZE p s m args c cX11_bars 4 "KiteSummons" D cy 97 ad A := E
  have hx := E.hx
  have hb := E.hb
  have hl : lv_has ls 4 [(0, .ref (ad 0)), (1, .int xq1), (2, .int xq2)] := hl
  have hB35 : ∀ (xq2 : Int32) (kq35 : Int32 → Sg → Option (Int32 × Sg)) (hkq35 : ∀ (xq3 : Int32) (σ : Sg) (H : Heap) (locs : List Loc) (ls : Array Slot), ZS D 97 (celC ad cy) ad A s σ H locs → lv_has ls 4 [(0, .ref (ad 0)), (2, .int xq2), (3, .int xq3)] → kq35 xq3 σ = some (r, σ9) → W p l e ({ frames := 13, cells := 0, slots := 0, locals := 336 } : Room) s m args below meth c H locs 0 0 (MQ below (zQi D 97 (celC ad cy) ad A r σ9) args s 0 0 A) (F0 m 35 ls [])) (xq3 : Int32) (σ : Sg) (H : Heap) (locs : List Loc) (ls : Array Slot), ZS D 97 (celC ad cy) ad A s σ H locs → lv_has ls 4 [(0, .ref (ad 0)), (2, .int xq2), (3, .int xq3)] → f_X11_bars_b35 kq35 xq2 xq3 σ = some (r, σ9) → W p l e ({ frames := 13, cells := 0, slots := 0, locals := 336 } : Room) s m args below meth c H locs 0 0 (MQ below (zQi D 97 (celC ad cy) ad A r σ9) args s 0 0 A) (F0 m 35 ls []) := by
    intro xq2 kq35 hkq35 xq3 σ H locs ls hw hl hf
    unfold f_X11_bars_b35 at hf
    refine lv_iload_n hx hb dX11_bars_35 rfl (lv_at hl 2 rfl) ?_
    refine lv_aload_n hx hb dX11_bars_36 rfl (lv_at hl 0 rfl) ?_
    refine zget E hw (Nat.le_of_ble_eq_true rfl) (ceC_0 ad cy _) rfl inX11 2 (by decide) k2_123 (fun _ h => h) rfl dX11_bars_37 ?_
    refine zget E hw (Nat.le_of_ble_eq_true rfl) (ceC_24 ad cy _) rfl inX1 1 (by decide) k2_10 (fun _ h => h) rfl dX11_bars_40 ?_
    refine lv_icmp_ge (tgt := 76) hx hb dX11_bars_43 (by decide) (fun h => ?_) (fun h => ?_)
    · replace hf := it_t h hf
      refine lv_bipush (v := (-3)) hx hb dX11_bars_76 (by decide) ?_
      exact zreti E hw hr hlk (rt_a hf) (rt_b hf) dX11_bars_78
    · replace hf := it_f h hf
      refine lv_iload_n hx hb dX11_bars_46 rfl (lv_at hl 1 rfl) ?_
      refine lv_iload_n hx hb dX11_bars_47 rfl (lv_at hl 2 rfl) ?_
      refine zcali hw (va_runS (As := [.int xq2, .int xq3]) (rest := []) E.fix (c_X11_isIn (l := l) hA xq2 xq3 σ rfl) (zcS E k2_197 k1_1 k2_195 k2_196 mf_X11_isIn rfl rfl ⟨Nat.le_of_ble_eq_true rfl, Nat.le_of_ble_eq_true rfl⟩) (zPre E hw _) rfl rfl hl.1 rfl (lv_room (Nat.le_of_ble_eq_true rfl)) dX11_bars_48 ⟨Nat.zero_le _, Nat.zero_le _⟩) (fun H locs hw => ?_)
      refine lv_if_eq (tgt := 70) hx hb dX11_bars_51 (by decide) (fun h => ?_) (fun h => ?_)
      · replace hf := it_f (b2i_0 h) hf
        refine lv_iinc (v := (xq3 + 1)) (lv' := [(3, .int (xq3 + 1)), (0, .ref (ad 0)), (2, .int xq2)]) hx hb dX11_bars_70 hl (k := 2) rfl (by rfl) (by decide) rfl (fun ls hl => ?_)
        refine lv_goto (tgt := 35) hx hb dX11_bars_73 (by decide) ?_
        exact hkq35 (xq3 + 1) σ _ _ _ hw (lv_sub hl [1, 2, 0] rfl) hf
      · replace hf := it_t (b2i_n h) hf
        refine lv_aload_n hx hb dX11_bars_54 rfl (lv_at hl 0 rfl) ?_
        refine zget E hw (Nat.le_of_ble_eq_true rfl) (ceC_0 ad cy _) rfl inX11 5 (by decide) k2_126 (fun _ h => h) rfl dX11_bars_55 ?_
        refine zget E hw (Nat.le_of_ble_eq_true rfl) (ceC_78 ad cy _) rfl inX6 9 (by decide) k2_94 (fun _ h => h) rfl dX11_bars_58 ?_
        refine lv_iload_n hx hb dX11_bars_61 rfl (lv_at hl 2 rfl) ?_
        refine zcali hw (va_runS (As := [.int (σ 78 9), .int xq3]) (rest := []) E.fix (c_X11_isIn (l := l) hA (σ 78 9) xq3 σ rfl) (zcS E k2_197 k1_1 k2_195 k2_196 mf_X11_isIn rfl rfl ⟨Nat.le_of_ble_eq_true rfl, Nat.le_of_ble_eq_true rfl⟩) (zPre E hw _) rfl rfl hl.1 rfl (lv_room (Nat.le_of_ble_eq_true rfl)) dX11_bars_62 ⟨Nat.zero_le _, Nat.zero_le _⟩) (fun H locs hw => ?_)
        refine lv_if_ne (tgt := 70) hx hb dX11_bars_65 (by decide) (fun h => ?_) (fun h => ?_)
        · replace hf := it_t (b2i_n h) hf
          refine lv_iinc (v := (xq3 + 1)) (lv' := [(3, .int (xq3 + 1)), (0, .ref (ad 0)), (2, .int xq2)]) hx hb dX11_bars_70 hl (k := 2) rfl (by rfl) (by decide) rfl (fun ls hl => ?_)
          refine lv_goto (tgt := 35) hx hb dX11_bars_73 (by decide) ?_
          exact hkq35 (xq3 + 1) σ _ _ _ hw (lv_sub hl [1, 2, 0] rfl) hf
        · replace hf := it_f (b2i_0 h) hf
          refine lv_iload_n hx hb dX11_bars_68 rfl (lv_at hl 2 rfl) ?_
          exact zreti E hw hr hlk (rt_a hf) (rt_b hf) dX11_bars_69
  have hL35 : ∀ (xq2 : Int32) (n : Nat) (xq3 : Int32) (σ : Sg) (H : Heap) (locs : List Loc) (ls : Array Slot), ZS D 97 (celC ad cy) ad A s σ H locs → lv_has ls 4 [(0, .ref (ad 0)), (2, .int xq2), (3, .int xq3)] → f_X11_bars_l35 xq2 n xq3 σ = some (r, σ9) → W p l e ({ frames := 13, cells := 0, slots := 0, locals := 336 } : Room) s m args below meth c H locs 0 0 (MQ below (zQi D 97 (celC ad cy) ad A r σ9) args s 0 0 A) (F0 m 35 ls []) := by
    intro xq2 n
    induction n with
    | zero =>
      intro xq3 σ H locs ls hw hl hf
      exact nn_e hf
    | succ n ih =>
      intro xq3 σ H locs ls hw hl hf
      exact hB35 xq2 (f_X11_bars_l35 xq2 n) ih xq3 σ H locs ls hw hl hf
  unfold f_X11_bars at hf
  refine lv_iload_n hx hb dX11_bars_0 rfl (lv_at hl 1 rfl) ?_
  refine zcali hw (va_runS (As := [.int xq1]) (rest := []) E.fix (c_X11_isPlanLength (l := l) hA xq1 σ rfl) (zcS E k4_130 k1_1 k4_128 k4_129 mf_X11_isPlanLength rfl rfl ⟨Nat.le_of_ble_eq_true rfl, Nat.le_of_ble_eq_true rfl⟩) (zPre E hw _) rfl rfl hl.1 rfl (lv_room (Nat.le_of_ble_eq_true rfl)) dX11_bars_1 ⟨Nat.zero_le _, Nat.zero_le _⟩) (fun H locs hw => ?_)
  refine lv_if_eq (tgt := 22) hx hb dX11_bars_4 (by decide) (fun h => ?_) (fun h => ?_)
  · replace hf := it_f (b2i_0 h) hf
    refine lv_iconst (v := (-1)) hx hb dX11_bars_22 (by decide) ?_
    exact zreti E hw hr hlk (rt_a hf) (rt_b hf) dX11_bars_23
  · replace hf := it_t (b2i_n h) hf
    refine lv_iload_n hx hb dX11_bars_7 rfl (lv_at hl 2 rfl) ?_
    refine lv_iconst (v := 0) hx hb dX11_bars_8 (by decide) ?_
    refine lv_aload_n hx hb dX11_bars_9 rfl (lv_at hl 0 rfl) ?_
    refine zget E hw (Nat.le_of_ble_eq_true rfl) (ceC_0 ad cy _) rfl inX11 2 (by decide) k2_123 (fun _ h => h) rfl dX11_bars_10 ?_
    refine zcali hw (va_runV (As := []) (rest := [.int 0, .int xq2]) E.fix (c_X1_allKites (l := l) hA σ rfl) (zcV E k3_98 k1_11 k3_95 k3_96 k3_97 mf_X1_allKites rfl rfl ⟨Nat.le_of_ble_eq_true rfl, Nat.le_of_ble_eq_true rfl⟩) (zPreV E hw (Nat.le_of_ble_eq_true rfl) (ceC_24 ad cy _) rfl _) rfl rfl hl.1 rfl (lv_room (Nat.le_of_ble_eq_true rfl)) dX11_bars_13 ⟨Nat.zero_le _, Nat.zero_le _⟩) (fun H locs hw => ?_)
    refine zcali hw (va_runS (As := [.int xq2, .int 0, .int (f_X1_allKites σ)]) (rest := []) E.fix (c_X11_within (l := l) hA xq2 0 (f_X1_allKites σ) σ rfl) (zcS E k2_179 k1_1 k2_177 k2_178 mf_X11_within rfl rfl ⟨Nat.le_of_ble_eq_true rfl, Nat.le_of_ble_eq_true rfl⟩) (zPre E hw _) rfl rfl hl.1 rfl (lv_room (Nat.le_of_ble_eq_true rfl)) dX11_bars_16 ⟨Nat.zero_le _, Nat.zero_le _⟩) (fun H locs hw => ?_)
    refine lv_if_ne (tgt := 24) hx hb dX11_bars_19 (by decide) (fun h => ?_) (fun h => ?_)
    · replace hf := it_t (b2i_n h) hf
      refine lv_aload_n hx hb dX11_bars_24 rfl (lv_at hl 0 rfl) ?_
      refine zget E hw (Nat.le_of_ble_eq_true rfl) (ceC_0 ad cy _) rfl inX11 5 (by decide) k2_126 (fun _ h => h) rfl dX11_bars_25 ?_
      refine lv_iload_n hx hb dX11_bars_28 rfl (lv_at hl 1 rfl) ?_
      refine lv_iconst (v := 0) hx hb dX11_bars_29 (by decide) ?_
      obtain ⟨σ1, hc, hf⟩ := bd_e hf
      refine zcalv hw (va_runV (As := [.int xq1, .int 0]) (rest := []) E.fix (c_X6_search (l := l) hA xq1 0 σ hc) (zcV E k4_134 k1_13 k4_131 k4_132 k4_133 mf_X6_search rfl rfl ⟨Nat.le_of_ble_eq_true rfl, Nat.le_of_ble_eq_true rfl⟩) (zPreV E hw (Nat.le_of_ble_eq_true rfl) (ceC_78 ad cy _) rfl _) rfl rfl hl.1 rfl (lv_room (Nat.le_of_ble_eq_true rfl)) dX11_bars_30 ⟨Nat.zero_le _, Nat.zero_le _⟩) (fun H locs hw => ?_)
      refine lv_iconst (v := 0) hx hb dX11_bars_33 (by decide) ?_
      refine lv_istore_n (lv' := [(3, .int 0), (0, .ref (ad 0)), (1, .int xq1), (2, .int xq2)]) hx hb dX11_bars_34 rfl hl (by decide) rfl (fun ls hl => ?_)
      exact hL35 xq2 400 0 σ1 _ _ _ hw (lv_sub hl [1, 3, 0] rfl) hf
    · replace hf := it_f (b2i_0 h) hf
      refine lv_iconst (v := (-1)) hx hb dX11_bars_22 (by decide) ?_
      exact zreti E hw hr hlk (rt_a hf) (rt_b hf) dX11_bars_23
set_option maxRecDepth 100000 in
set_option maxHeartbeats 4000000 in
theorem c_X6_valueFrom_s {l : Launch} {D : va_G} {cy : Cy} {ad : Nat → Nat} {A : Nat → Prop} (hA : okAd 97 ad A) (rec : Int32 → Int32 → Sg → Option (Int32 × Sg)) (d : Nat) (hrec : ∀ (xq1 : Int32) (xq2 : Int32) (σ : Sg) {r : Int32} {σ9 : Sg}, rec xq1 xq2 σ = some (r, σ9) → Met l yX6_valueFrom (.code yX6_valueFrom cX6_valueFrom 9 (some .int) :: TT) ({ frames := 5 + 1 * d, cells := 0, slots := 0, locals := 118 + 28 * d } : Room) (zPc D cy 97 (celC ad cy) ad A [.ref (ad 78), .int xq1, .int xq2] σ) (zQi D 97 (celC ad cy) ad A r σ9) 0 0 A) (xq1 : Int32) (xq2 : Int32) (σ : Sg) {r : Int32} {σ9 : Sg} (hf : f_X6_valueFrom_s rec xq1 xq2 σ = some (r, σ9)) : Met l yX6_valueFrom (.code yX6_valueFrom cX6_valueFrom 9 (some .int) :: TT) ({ frames := 5 + 1 * (d + 1), cells := 0, slots := 0, locals := 118 + 28 * (d + 1) } : Room) (zPc D cy 97 (celC ad cy) ad A [.ref (ad 78), .int xq1, .int xq2] σ) (zQi D 97 (celC ad cy) ad A r σ9) 0 0 A := by
  refine zofW (by decide) hA (Nat.le_of_ble_eq_true rfl) ?_
  intro p e s m args below meth c ls E hw hr hlk hl
  have E : ZE p s m args c cX6_valueFrom 9 "KiteSummons$Plans" D cy 97 ad A := E
  have hx := E.hx
  have hb := E.hb
  have hl : lv_has ls 9 [(0, .ref (ad 78)), (1, .int xq1), (2, .int xq2)] := hl
  have hB130 : ∀ (xq1 : Int32) (xq2 : Int32) (nq3 : Nat) (hnq3 : isSky nq3) (xq4 : Int32) (nq5 : Nat) (hnq5 : isSky nq5) (xq7 : Int32) (xq8 : Int32) (kq59 : Int32 → Int32 → Sg → Option (Int32 × Sg)) (hkq59 : ∀ (xq6 : Int32) (xq7 : Int32) (σ : Sg) (H : Heap) (locs : List Loc) (ls : Array Slot), ZS D 97 (celC ad cy) ad A s σ H locs → lv_has ls 9 [(0, .ref (ad 78)), (1, .int xq1), (2, .int xq2), (3, .ref (ad nq3)), (4, .int xq4), (5, .ref (ad nq5)), (6, .int xq6), (7, .int xq7)] → kq59 xq6 xq7 σ = some (r, σ9) → W p l e ({ frames := 5 + 1 * (d + 1), cells := 0, slots := 0, locals := 118 + 28 * (d + 1) } : Room) s m args below meth c H locs 0 0 (MQ below (zQi D 97 (celC ad cy) ad A r σ9) args s 0 0 A) (F0 m 59 ls [])) (σ : Sg) (H : Heap) (locs : List Loc) (ls : Array Slot), ZS D 97 (celC ad cy) ad A s σ H locs → lv_has ls 9 [(0, .ref (ad 78)), (1, .int xq1), (2, .int xq2), (3, .ref (ad nq3)), (4, .int xq4), (5, .ref (ad nq5)), (7, .int xq7), (8, .int xq8)] → f_X6_valueFrom_b130 rec kq59 xq1 xq2 nq3 xq4 nq5 xq7 xq8 σ = some (r, σ9) → W p l e ({ frames := 5 + 1 * (d + 1), cells := 0, slots := 0, locals := 118 + 28 * (d + 1) } : Room) s m args below meth c H locs 0 0 (MQ below (zQi D 97 (celC ad cy) ad A r σ9) args s 0 0 A) (F0 m 130 ls []) := by
    intro xq1 xq2 nq3 hnq3 xq4 nq5 hnq5 xq7 xq8 kq59 hkq59 σ H locs ls hw hl hf
    unfold f_X6_valueFrom_b130 at hf
    refine lv_iload hx hb dX6_valueFrom_130 (lv_at hl 7 rfl) ?_
    refine lv_istore (lv' := [(6, .int xq8), (0, .ref (ad 78)), (1, .int xq1), (2, .int xq2), (3, .ref (ad nq3)), (4, .int xq4), (5, .ref (ad nq5)), (7, .int xq7), (8, .int xq8)]) hx hb dX6_valueFrom_132 hl (by decide) rfl (fun ls hl => ?_)
    refine lv_iload_n hx hb dX6_valueFrom_134 rfl (lv_at hl 2 rfl) ?_
    refine lv_if_ne (tgt := 144) hx hb dX6_valueFrom_135 (by decide) (fun h => ?_) (fun h => ?_)
    · replace hf := it_t h hf
      refine lv_iinc (v := (xq7 + 1)) (lv' := [(7, .int (xq7 + 1)), (6, .int xq8), (0, .ref (ad 78)), (1, .int xq1), (2, .int xq2), (3, .ref (ad nq3)), (4, .int xq4), (5, .ref (ad nq5)), (8, .int xq8)]) hx hb dX6_valueFrom_144 hl (k := 7) rfl (by rfl) (by decide) rfl (fun ls hl => ?_)
      refine lv_goto (tgt := 59) hx hb dX6_valueFrom_147 (by decide) ?_
      exact hkq59 xq8 (xq7 + 1) σ _ _ _ hw (lv_sub hl [2, 3, 4, 5, 6, 7, 1, 0] rfl) hf
    · replace hf := it_n h hf
      refine lv_aload_n hx hb dX6_valueFrom_138 rfl (lv_at hl 1 rfl) ?_
      refine lv_iload hx hb dX6_valueFrom_139 (lv_at hl 7 rfl) ?_
      refine zputs E hw (Nat.le_of_ble_eq_true rfl) (ceC_78 ad cy _) rfl inX6 tyX6 tyX6_ok nmX6 10 (by decide) k2_95 (fun _ h => h) rfl rfl rfl (Nat.le_of_ble_eq_true rfl) (j := 10) (Eq.trans (ceC_78 ad cy _) (by rfl)) dX6_valueFrom_141 (fun σ9 eσ9 H locs hw => ?_)
      replace hf := lt_i eσ9 hf
      refine lv_iinc (v := (xq7 + 1)) (lv' := [(7, .int (xq7 + 1)), (6, .int xq8), (0, .ref (ad 78)), (1, .int xq1), (2, .int xq2), (3, .ref (ad nq3)), (4, .int xq4), (5, .ref (ad nq5)), (8, .int xq8)]) hx hb dX6_valueFrom_144 hl (k := 7) rfl (by rfl) (by decide) rfl (fun ls hl => ?_)
      refine lv_goto (tgt := 59) hx hb dX6_valueFrom_147 (by decide) ?_
      exact hkq59 xq8 (xq7 + 1) σ9 _ _ _ hw (lv_sub hl [2, 3, 4, 5, 6, 7, 1, 0] rfl) hf
  have hB59 : ∀ (xq1 : Int32) (xq2 : Int32) (nq3 : Nat) (hnq3 : isSky nq3) (xq4 : Int32) (nq5 : Nat) (hnq5 : isSky nq5) (kq59 : Int32 → Int32 → Sg → Option (Int32 × Sg)) (hkq59 : ∀ (xq6 : Int32) (xq7 : Int32) (σ : Sg) (H : Heap) (locs : List Loc) (ls : Array Slot), ZS D 97 (celC ad cy) ad A s σ H locs → lv_has ls 9 [(0, .ref (ad 78)), (1, .int xq1), (2, .int xq2), (3, .ref (ad nq3)), (4, .int xq4), (5, .ref (ad nq5)), (6, .int xq6), (7, .int xq7)] → kq59 xq6 xq7 σ = some (r, σ9) → W p l e ({ frames := 5 + 1 * (d + 1), cells := 0, slots := 0, locals := 118 + 28 * (d + 1) } : Room) s m args below meth c H locs 0 0 (MQ below (zQi D 97 (celC ad cy) ad A r σ9) args s 0 0 A) (F0 m 59 ls [])) (xq6 : Int32) (xq7 : Int32) (σ : Sg) (H : Heap) (locs : List Loc) (ls : Array Slot), ZS D 97 (celC ad cy) ad A s σ H locs → lv_has ls 9 [(0, .ref (ad 78)), (1, .int xq1), (2, .int xq2), (3, .ref (ad nq3)), (4, .int xq4), (5, .ref (ad nq5)), (6, .int xq6), (7, .int xq7)] → f_X6_valueFrom_b59 rec kq59 xq1 xq2 nq3 xq4 nq5 xq6 xq7 σ = some (r, σ9) → W p l e ({ frames := 5 + 1 * (d + 1), cells := 0, slots := 0, locals := 118 + 28 * (d + 1) } : Room) s m args below meth c H locs 0 0 (MQ below (zQi D 97 (celC ad cy) ad A r σ9) args s 0 0 A) (F0 m 59 ls []) := by
    intro xq1 xq2 nq3 hnq3 xq4 nq5 hnq5 kq59 hkq59 xq6 xq7 σ H locs ls hw hl hf
    unfold f_X6_valueFrom_b59 at hf
    refine lv_iload hx hb dX6_valueFrom_59 (lv_at hl 7 rfl) ?_
    refine lv_aload_n hx hb dX6_valueFrom_61 rfl (lv_at hl 0 rfl) ?_
    refine zget E hw (Nat.le_of_ble_eq_true rfl) (ceC_78 ad cy _) rfl inX6 0 (by decide) k2_79 (fun _ h => h) rfl dX6_valueFrom_62 ?_
    refine zget E hw (Nat.le_of_ble_eq_true rfl) (ceC_24 ad cy _) rfl inX1 1 (by decide) k2_11 (fun _ h => h) rfl dX6_valueFrom_65 ?_
    refine lv_icmp_gt (tgt := 150) hx hb dX6_valueFrom_68 (by decide) (fun h => ?_) (fun h => ?_)
    · replace hf := it_t h hf
      refine lv_iload hx hb dX6_valueFrom_150 (lv_at hl 6 rfl) ?_
      exact zreti E hw hr hlk (rt_a hf) (rt_b hf) dX6_valueFrom_152
    · replace hf := it_f h hf
      refine lv_aload hx hb dX6_valueFrom_71 (lv_at hl 5 rfl) ?_
      refine lv_aload_n hx hb dX6_valueFrom_73 rfl (lv_at hl 3 rfl) ?_
      obtain ⟨σ3, hc, hf⟩ := lt_e hf
      refine zcalv hw (va_runV (As := [.ref (ad nq3)]) (rest := []) E.fix (c_X10_copy (l := l) hA nq5 hnq5 nq3 hnq3 σ hc) (zcV E k4_63 k1_4 k4_135 k4_61 k4_62 mf_X10_copy rfl rfl ⟨by dsimp only; omega, by dsimp only; omega⟩) (zPreV E hw (ltSky hnq5) (ceSky ad cy _ hnq5) rfl _) rfl rfl hl.1 rfl (lv_room (Nat.le_of_ble_eq_true rfl)) dX6_valueFrom_74 ⟨Nat.zero_le _, Nat.zero_le _⟩) (fun H locs hw => ?_)
      refine lv_aload_n hx hb dX6_valueFrom_77 rfl (lv_at hl 0 rfl) ?_
      refine zget E hw (Nat.le_of_ble_eq_true rfl) (ceC_78 ad cy _) rfl inX6 0 (by decide) k2_79 (fun _ h => h) rfl dX6_valueFrom_78 ?_
      refine lv_aload hx hb dX6_valueFrom_81 (lv_at hl 5 rfl) ?_
      refine lv_iload hx hb dX6_valueFrom_83 (lv_at hl 7 rfl) ?_
      obtain ⟨vq4, σ5, hc, hf⟩ := bd2_e hf
      refine zcali hw (va_runV (As := [.ref (ad nq5), .int xq7]) (rest := []) E.fix (c_X1_goByAct (l := l) hA nq5 hnq5 xq7 σ3 hc) (zcV E k4_88 k1_11 k4_146 k4_86 k4_87 mf_X1_goByAct rfl rfl ⟨by dsimp only; omega, by dsimp only; omega⟩) (zPreV E hw (Nat.le_of_ble_eq_true rfl) (ceC_24 ad cy _) rfl _) rfl rfl hl.1 rfl (lv_room (Nat.le_of_ble_eq_true rfl)) dX6_valueFrom_85 ⟨Nat.zero_le _, Nat.zero_le _⟩) (fun H locs hw => ?_)
      refine lv_istore (lv' := [(8, .int vq4), (0, .ref (ad 78)), (1, .int xq1), (2, .int xq2), (3, .ref (ad nq3)), (4, .int xq4), (5, .ref (ad nq5)), (6, .int xq6), (7, .int xq7)]) hx hb dX6_valueFrom_88 hl (by decide) rfl (fun ls hl => ?_)
      refine lv_iload hx hb dX6_valueFrom_90 (lv_at hl 0 rfl) ?_
      refine lv_aload_n hx hb dX6_valueFrom_92 rfl (lv_at hl 1 rfl) ?_
      refine lv_iload_n hx hb dX6_valueFrom_93 rfl (lv_at hl 2 rfl) ?_
      refine lv_iconst (v := 1) hx hb dX6_valueFrom_94 (by decide) ?_
      refine lv_iadd hx hb dX6_valueFrom_95 ?_
      refine lv_iload_n hx hb dX6_valueFrom_96 rfl (lv_at hl 3 rfl) ?_
      obtain ⟨vq6, σ7, hc, hf⟩ := bd2_e hf
      refine zcali hw (va_runV (As := [.int (xq1 + 1), .int xq2]) (rest := [.int vq4]) E.fix (hrec (xq1 + 1) xq2 σ5 hc) (zcV E k4_174 k1_13 k4_171 k4_173 kp2_14 mf_X6_valueFrom rfl rfl ⟨by dsimp only; omega, by dsimp only; omega⟩) (zPreV E hw (Nat.le_of_ble_eq_true rfl) (ceC_78 ad cy _) rfl _) rfl rfl hl.1 rfl (lv_room (Nat.le_of_ble_eq_true rfl)) dX6_valueFrom_97 ⟨Nat.zero_le _, Nat.zero_le _⟩) (fun H locs hw => ?_)
      refine lv_iadd hx hb dX6_valueFrom_100 ?_
      refine lv_topi (fun vq8 evq8 => ?_)
      replace hf := lt_i evq8 hf
      refine lv_istore (lv' := [(8, .int vq8), (0, .ref (ad 78)), (1, .int xq1), (2, .int xq2), (3, .ref (ad nq3)), (4, .int xq4), (5, .ref (ad nq5)), (6, .int xq6), (7, .int xq7)]) hx hb dX6_valueFrom_101 hl (by decide) rfl (fun ls hl => ?_)
      refine lv_iload hx hb dX6_valueFrom_103 (lv_at hl 8 rfl) ?_
      refine lv_if_eq (tgt := 130) hx hb dX6_valueFrom_105 (by decide) (fun h => ?_) (fun h => ?_)
      · replace hf := it_t h hf
        exact hB130 xq1 xq2 nq3 hnq3 xq4 nq5 hnq5 xq7 vq8 kq59 hkq59 σ7 _ _ _ hw (lv_sub hl [1, 2, 3, 4, 5, 6, 8, 0] rfl) hf
      · replace hf := it_f h hf
        refine lv_iload hx hb dX6_valueFrom_108 (lv_at hl 5 rfl) ?_
        refine lv_if_eq (tgt := 123) hx hb dX6_valueFrom_110 (by decide) (fun h => ?_) (fun h => ?_)
        · replace hf := it_t h hf
          refine lv_iload hx hb dX6_valueFrom_123 (lv_at hl 0 rfl) ?_
          refine lv_iload hx hb dX6_valueFrom_125 (lv_at hl 7 rfl) ?_
          refine lv_icmp_ge (tgt := 144) hx hb dX6_valueFrom_127 (by decide) (fun h => ?_) (fun h => ?_)
          · replace hf := it_t h hf
            refine lv_iinc (v := (xq7 + 1)) (lv' := [(7, .int (xq7 + 1)), (8, .int vq8), (0, .ref (ad 78)), (1, .int xq1), (2, .int xq2), (3, .ref (ad nq3)), (4, .int xq4), (5, .ref (ad nq5)), (6, .int xq6)]) hx hb dX6_valueFrom_144 hl (k := 8) rfl (by rfl) (by decide) rfl (fun ls hl => ?_)
            refine lv_goto (tgt := 59) hx hb dX6_valueFrom_147 (by decide) ?_
            exact hkq59 xq6 (xq7 + 1) σ7 _ _ _ hw (lv_sub hl [2, 3, 4, 5, 6, 7, 8, 0] rfl) hf
          · replace hf := it_f h hf
            exact hB130 xq1 xq2 nq3 hnq3 xq4 nq5 hnq5 xq7 vq8 kq59 hkq59 σ7 _ _ _ hw (lv_sub hl [1, 2, 3, 4, 5, 6, 8, 0] rfl) hf
        · replace hf := it_f h hf
          refine lv_iload hx hb dX6_valueFrom_113 (lv_at hl 0 rfl) ?_
          refine lv_iload hx hb dX6_valueFrom_115 (lv_at hl 7 rfl) ?_
          refine lv_icmp_le (tgt := 144) hx hb dX6_valueFrom_117 (by decide) (fun h => ?_) (fun h => ?_)
          · replace hf := it_t h hf
            refine lv_iinc (v := (xq7 + 1)) (lv' := [(7, .int (xq7 + 1)), (8, .int vq8), (0, .ref (ad 78)), (1, .int xq1), (2, .int xq2), (3, .ref (ad nq3)), (4, .int xq4), (5, .ref (ad nq5)), (6, .int xq6)]) hx hb dX6_valueFrom_144 hl (k := 8) rfl (by rfl) (by decide) rfl (fun ls hl => ?_)
            refine lv_goto (tgt := 59) hx hb dX6_valueFrom_147 (by decide) ?_
            exact hkq59 xq6 (xq7 + 1) σ7 _ _ _ hw (lv_sub hl [2, 3, 4, 5, 6, 7, 8, 0] rfl) hf
          · replace hf := it_f h hf
            refine lv_goto (tgt := 130) hx hb dX6_valueFrom_120 (by decide) ?_
            exact hB130 xq1 xq2 nq3 hnq3 xq4 nq5 hnq5 xq7 vq8 kq59 hkq59 σ7 _ _ _ hw (lv_sub hl [1, 2, 3, 4, 5, 6, 8, 0] rfl) hf
  have hL59 : ∀ (xq1 : Int32) (xq2 : Int32) (nq3 : Nat) (hnq3 : isSky nq3) (xq4 : Int32) (nq5 : Nat) (hnq5 : isSky nq5) (n : Nat) (xq6 : Int32) (xq7 : Int32) (σ : Sg) (H : Heap) (locs : List Loc) (ls : Array Slot), ZS D 97 (celC ad cy) ad A s σ H locs → lv_has ls 9 [(0, .ref (ad 78)), (1, .int xq1), (2, .int xq2), (3, .ref (ad nq3)), (4, .int xq4), (5, .ref (ad nq5)), (6, .int xq6), (7, .int xq7)] → f_X6_valueFrom_l59 rec xq1 xq2 nq3 xq4 nq5 n xq6 xq7 σ = some (r, σ9) → W p l e ({ frames := 5 + 1 * (d + 1), cells := 0, slots := 0, locals := 118 + 28 * (d + 1) } : Room) s m args below meth c H locs 0 0 (MQ below (zQi D 97 (celC ad cy) ad A r σ9) args s 0 0 A) (F0 m 59 ls []) := by
    intro xq1 xq2 nq3 hnq3 xq4 nq5 hnq5 n
    induction n with
    | zero =>
      intro xq6 xq7 σ H locs ls hw hl hf
      exact nn_e hf
    | succ n ih =>
      intro xq6 xq7 σ H locs ls hw hl hf
      exact hB59 xq1 xq2 nq3 hnq3 xq4 nq5 hnq5 (f_X6_valueFrom_l59 rec xq1 xq2 nq3 xq4 nq5 n) ih xq6 xq7 σ H locs ls hw hl hf
  have hB41 : ∀ (xq1 : Int32) (xq2 : Int32) (nq3 : Nat) (hnq3 : isSky nq3) (tq0 : Int32) (σ : Sg) (H : Heap) (locs : List Loc) (ls : Array Slot), ZS D 97 (celC ad cy) ad A s σ H locs → lv_has ls 9 [(0, .ref (ad 78)), (1, .int xq1), (2, .int xq2), (3, .ref (ad nq3))] → f_X6_valueFrom_b41 rec xq1 xq2 nq3 tq0 σ = some (r, σ9) → W p l e ({ frames := 5 + 1 * (d + 1), cells := 0, slots := 0, locals := 118 + 28 * (d + 1) } : Room) s m args below meth c H locs 0 0 (MQ below (zQi D 97 (celC ad cy) ad A r σ9) args s 0 0 A) (F0 m 41 ls [.int tq0]) := by
    intro xq1 xq2 nq3 hnq3 tq0 σ H locs ls hw hl hf
    unfold f_X6_valueFrom_b41 at hf
    refine lv_istore (lv' := [(4, .int tq0), (0, .ref (ad 78)), (1, .int xq1), (2, .int xq2), (3, .ref (ad nq3))]) hx hb dX6_valueFrom_41 hl (by decide) rfl (fun ls hl => ?_)
    refine lv_aload_n hx hb dX6_valueFrom_43 rfl (lv_at hl 1 rfl) ?_
    refine zget E hw (Nat.le_of_ble_eq_true rfl) (ceC_78 ad cy _) rfl inX6 1 (by decide) k2_80 (fun _ h => h) rfl dX6_valueFrom_44 ?_
    refine lv_iload_n hx hb dX6_valueFrom_47 rfl (lv_at hl 2 rfl) ?_
    refine lv_iconst (v := 1) hx hb dX6_valueFrom_48 (by decide) ?_
    refine lv_iadd hx hb dX6_valueFrom_49 ?_
    obtain ⟨hiq2, hf⟩ := gd_e hf
    refine zaldq E hw (Nat.le_of_ble_eq_true rfl) 4 rfl rfl (ceC_79 ad cy _) hiq2 dX6_valueFrom_50 ?_
    refine lv_astore (lv' := [(5, .ref (ad (82 + 3 * (xq1 + 1).toNatClampNeg))), (4, .int tq0), (0, .ref (ad 78)), (1, .int xq1), (2, .int xq2), (3, .ref (ad nq3))]) hx hb dX6_valueFrom_51 hl (by decide) rfl (fun ls hl => ?_)
    refine lv_iconst (v := 0) hx hb dX6_valueFrom_53 (by decide) ?_
    refine lv_istore (lv' := [(6, .int 0), (5, .ref (ad (82 + 3 * (xq1 + 1).toNatClampNeg))), (4, .int tq0), (0, .ref (ad 78)), (1, .int xq1), (2, .int xq2), (3, .ref (ad nq3))]) hx hb dX6_valueFrom_54 hl (by decide) rfl (fun ls hl => ?_)
    refine lv_iconst (v := 0) hx hb dX6_valueFrom_56 (by decide) ?_
    refine lv_istore (lv' := [(7, .int 0), (6, .int 0), (5, .ref (ad (82 + 3 * (xq1 + 1).toNatClampNeg))), (4, .int tq0), (0, .ref (ad 78)), (1, .int xq1), (2, .int xq2), (3, .ref (ad nq3))]) hx hb dX6_valueFrom_57 hl (by decide) rfl (fun ls hl => ?_)
    exact hL59 xq1 xq2 nq3 hnq3 tq0 (82 + 3 * (xq1 + 1).toNatClampNeg) (skyOf (nlt hiq2)) 400 0 0 σ _ _ _ hw (lv_sub hl [4, 5, 6, 7, 3, 2, 1, 0] rfl) hf
  unfold f_X6_valueFrom_s at hf
  refine lv_aload_n hx hb dX6_valueFrom_0 rfl (lv_at hl 0 rfl) ?_
  refine zget E hw (Nat.le_of_ble_eq_true rfl) (ceC_78 ad cy _) rfl inX6 1 (by decide) k2_80 (fun _ h => h) rfl dX6_valueFrom_1 ?_
  refine lv_iload_n hx hb dX6_valueFrom_4 rfl (lv_at hl 1 rfl) ?_
  obtain ⟨hiq1, hf⟩ := gd_e hf
  refine zaldq E hw (Nat.le_of_ble_eq_true rfl) 4 rfl rfl (ceC_79 ad cy _) hiq1 dX6_valueFrom_5 ?_
  refine lv_astore_n (lv' := [(3, .ref (ad (82 + 3 * xq1.toNatClampNeg))), (0, .ref (ad 78)), (1, .int xq1), (2, .int xq2)]) hx hb dX6_valueFrom_6 rfl hl (by decide) rfl (fun ls hl => ?_)
  refine lv_iload_n hx hb dX6_valueFrom_7 rfl (lv_at hl 2 rfl) ?_
  refine lv_iload_n hx hb dX6_valueFrom_8 rfl (lv_at hl 3 rfl) ?_
  refine lv_icmp_ge (tgt := 28) hx hb dX6_valueFrom_9 (by decide) (fun h => ?_) (fun h => ?_)
  · replace hf := it_t h hf
    refine lv_iconst (v := 0) hx hb dX6_valueFrom_28 (by decide) ?_
    exact zreti E hw hr hlk (rt_a hf) (rt_b hf) dX6_valueFrom_29
  · replace hf := it_f h hf
    refine lv_iload_n hx hb dX6_valueFrom_12 rfl (lv_at hl 2 rfl) ?_
    refine lv_iconst (v := 4) hx hb dX6_valueFrom_13 (by decide) ?_
    refine lv_icmp_ge (tgt := 28) hx hb dX6_valueFrom_14 (by decide) (fun h => ?_) (fun h => ?_)
    · replace hf := it_t h hf
      refine lv_iconst (v := 0) hx hb dX6_valueFrom_28 (by decide) ?_
      exact zreti E hw hr hlk (rt_a hf) (rt_b hf) dX6_valueFrom_29
    · replace hf := it_f h hf
      refine lv_aload_n hx hb dX6_valueFrom_17 rfl (lv_at hl 1 rfl) ?_
      refine zget E hw (Nat.le_of_ble_eq_true rfl) (ceC_78 ad cy _) rfl inX6 0 (by decide) k2_79 (fun _ h => h) rfl dX6_valueFrom_18 ?_
      refine lv_aload_n hx hb dX6_valueFrom_21 rfl (lv_at hl 0 rfl) ?_
      refine zcali hw (va_runV (As := [.ref (ad (82 + 3 * xq1.toNatClampNeg))]) (rest := []) E.fix (c_X1_isOver (l := l) hA (82 + 3 * xq1.toNatClampNeg) (skyOf (nlt hiq1)) σ rfl) (zcV E k3_106 k1_11 k4_140 k3_104 k3_105 mf_X1_isOver rfl rfl ⟨by dsimp only; omega, by dsimp only; omega⟩) (zPreV E hw (Nat.le_of_ble_eq_true rfl) (ceC_24 ad cy _) rfl _) rfl rfl hl.1 rfl (lv_room (Nat.le_of_ble_eq_true rfl)) dX6_valueFrom_22 ⟨Nat.zero_le _, Nat.zero_le _⟩) (fun H locs hw => ?_)
      refine lv_if_eq (tgt := 30) hx hb dX6_valueFrom_25 (by decide) (fun h => ?_) (fun h => ?_)
      · replace hf := it_f (b2i_0 h) hf
        refine lv_iload_n hx hb dX6_valueFrom_30 rfl (lv_at hl 2 rfl) ?_
        refine lv_iconst (v := 2) hx hb dX6_valueFrom_31 (by decide) ?_
        refine zirem hx hb dX6_valueFrom_32 (by decide) ?_
        refine lv_if_ne (tgt := 40) hx hb dX6_valueFrom_33 (by decide) (fun h => ?_) (fun h => ?_)
        · replace hf := it_t h hf
          refine lv_iconst (v := 0) hx hb dX6_valueFrom_40 (by decide) ?_
          exact hB41 xq1 xq2 (82 + 3 * xq1.toNatClampNeg) (skyOf (nlt hiq1)) 0 σ _ _ _ hw (lv_sub hl [1, 2, 3, 0] rfl) hf
        · replace hf := it_n h hf
          refine lv_iconst (v := 1) hx hb dX6_valueFrom_36 (by decide) ?_
          refine lv_goto (tgt := 41) hx hb dX6_valueFrom_37 (by decide) ?_
          exact hB41 xq1 xq2 (82 + 3 * xq1.toNatClampNeg) (skyOf (nlt hiq1)) 1 σ _ _ _ hw (lv_sub hl [1, 2, 3, 0] rfl) hf
      · replace hf := it_t (b2i_n h) hf
        refine lv_iconst (v := 0) hx hb dX6_valueFrom_28 (by decide) ?_
        exact zreti E hw hr hlk (rt_a hf) (rt_b hf) dX6_valueFrom_29
theorem c_X6_valueFrom {l : Launch} {D : va_G} {cy : Cy} {ad : Nat → Nat} {A : Nat → Prop} (hA : okAd 97 ad A) : ∀ (d : Nat) (xq1 : Int32) (xq2 : Int32) (σ : Sg) {r : Int32} {σ9 : Sg}, f_X6_valueFrom d xq1 xq2 σ = some (r, σ9) → Met l yX6_valueFrom (.code yX6_valueFrom cX6_valueFrom 9 (some .int) :: TT) ({ frames := 5 + 1 * d, cells := 0, slots := 0, locals := 118 + 28 * d } : Room) (zPc D cy 97 (celC ad cy) ad A [.ref (ad 78), .int xq1, .int xq2] σ) (zQi D 97 (celC ad cy) ad A r σ9) 0 0 A := by
  intro d
  induction d with
  | zero =>
    intro xq1 xq2 σ r σ9 hf
    exact nn_e hf
  | succ d ih =>
    intro xq1 xq2 σ r σ9 hf
    exact c_X6_valueFrom_s hA (f_X6_valueFrom d) d ih xq1 xq2 σ hf
set_option maxRecDepth 100000 in
set_option maxHeartbeats 4000000 in
theorem c_X6_valueOfGame {l : Launch} {D : va_G} {cy : Cy} {ad : Nat → Nat} {A : Nat → Prop} (hA : okAd 97 ad A) (xq1 : Int32) (σ : Sg) {r : Int32} {σ9 : Sg} (hf : f_X6_valueOfGame xq1 σ = some (r, σ9)) : Met l yX6_valueOfGame (.code yX6_valueOfGame cX6_valueOfGame 2 (some .int) :: TT) ({ frames := 12, cells := 0, slots := 0, locals := 314 } : Room) (zPc D cy 97 (celC ad cy) ad A [.ref (ad 78), .int xq1] σ) (zQi D 97 (celC ad cy) ad A r σ9) 0 0 A := by
  refine zofW (by decide) hA (Nat.le_of_ble_eq_true rfl) ?_
  intro p e s m args below meth c ls E hw hr hlk hl
  have E : ZE p s m args c cX6_valueOfGame 2 "KiteSummons$Plans" D cy 97 ad A := E
  have hx := E.hx
  have hb := E.hb
  have hl : lv_has ls 2 [(0, .ref (ad 78)), (1, .int xq1)] := hl
  unfold f_X6_valueOfGame at hf
  refine lv_aload_n hx hb dX6_valueOfGame_0 rfl (lv_at hl 0 rfl) ?_
  refine zget E hw (Nat.le_of_ble_eq_true rfl) (ceC_78 ad cy _) rfl inX6 1 (by decide) k2_80 (fun _ h => h) rfl dX6_valueOfGame_1 ?_
  refine lv_iconst (v := 0) hx hb dX6_valueOfGame_4 (by decide) ?_
  refine zaldq E hw (Nat.le_of_ble_eq_true rfl) 4 rfl rfl (ceC_79 ad cy _) (by decide) dX6_valueOfGame_5 ?_
  refine W.eq (g2 := F0 m 6 _ (.ref (ad 82) :: [])) rfl ?_
  refine lv_aload_n hx hb dX6_valueOfGame_6 rfl (lv_at hl 0 rfl) ?_
  refine zget E hw (Nat.le_of_ble_eq_true rfl) (ceC_78 ad cy _) rfl inX6 0 (by decide) k2_79 (fun _ h => h) rfl dX6_valueOfGame_7 ?_
  refine zget E hw (Nat.le_of_ble_eq_true rfl) (ceC_24 ad cy _) rfl inX1 15 (by decide) k2_35 (fun _ h => h) rfl dX6_valueOfGame_10 ?_
  obtain ⟨σ1, hc, hf⟩ := lt_e hf
  refine zcalv hw (va_runV (As := [.ref (ad 41)]) (rest := []) E.fix (c_X10_copy (l := l) hA 82 (by unfold isSky; omega) 41 (by unfold isSky; omega) σ hc) (zcV E k4_63 k1_4 k4_135 k4_61 k4_62 mf_X10_copy rfl rfl ⟨Nat.le_of_ble_eq_true rfl, Nat.le_of_ble_eq_true rfl⟩) (zPreV E hw (Nat.le_of_ble_eq_true rfl) (ceC_82 ad cy _) rfl _) rfl rfl hl.1 rfl (lv_room (Nat.le_of_ble_eq_true rfl)) dX6_valueOfGame_13 ⟨Nat.zero_le _, Nat.zero_le _⟩) (fun H locs hw => ?_)
  refine lv_aload_n hx hb dX6_valueOfGame_16 rfl (lv_at hl 0 rfl) ?_
  refine lv_iconst (v := 0) hx hb dX6_valueOfGame_17 (by decide) ?_
  refine lv_iload_n hx hb dX6_valueOfGame_18 rfl (lv_at hl 1 rfl) ?_
  obtain ⟨vq2, σ3, hc, hf⟩ := bd2_e hf
  refine zcali hw (va_runV (As := [.int 0, .int xq1]) (rest := []) E.fix (c_X6_valueFrom (l := l) hA 6 0 xq1 σ1 hc) (zcV E k4_174 k1_13 k4_171 k4_173 kp2_14 mf_X6_valueFrom rfl rfl ⟨Nat.le_of_ble_eq_true rfl, Nat.le_of_ble_eq_true rfl⟩) (zPreV E hw (Nat.le_of_ble_eq_true rfl) (ceC_78 ad cy _) rfl _) rfl rfl hl.1 rfl (lv_room (Nat.le_of_ble_eq_true rfl)) dX6_valueOfGame_19 ⟨Nat.zero_le _, Nat.zero_le _⟩) (fun H locs hw => ?_)
  exact zreti E hw hr hlk (rt_a hf) (rt_b hf) dX6_valueOfGame_22
set_option maxRecDepth 100000 in
set_option maxHeartbeats 4000000 in
theorem c_X11_game {l : Launch} {D : va_G} {cy : Cy} {ad : Nat → Nat} {A : Nat → Prop} (hA : okAd 97 ad A) (xq1 : Int32) (σ : Sg) {r : Int32} {σ9 : Sg} (hf : f_X11_game xq1 σ = some (r, σ9)) : Met l yX11_game (.code yX11_game cX11_game 2 (some .int) :: TT) ({ frames := 13, cells := 0, slots := 0, locals := 335 } : Room) (zPc D cy 97 (celC ad cy) ad A [.ref (ad 0), .int xq1] σ) (zQi D 97 (celC ad cy) ad A r σ9) 0 0 A := by
  refine zofW (by decide) hA (Nat.le_of_ble_eq_true rfl) ?_
  intro p e s m args below meth c ls E hw hr hlk hl
  have E : ZE p s m args c cX11_game 2 "KiteSummons" D cy 97 ad A := E
  have hx := E.hx
  have hb := E.hb
  have hl : lv_has ls 2 [(0, .ref (ad 0)), (1, .int xq1)] := hl
  unfold f_X11_game at hf
  refine lv_iload_n hx hb dX11_game_0 rfl (lv_at hl 1 rfl) ?_
  refine lv_iconst (v := 1) hx hb dX11_game_1 (by decide) ?_
  refine lv_iconst (v := 4) hx hb dX11_game_2 (by decide) ?_
  refine zcali hw (va_runS (As := [.int xq1, .int 1, .int 4]) (rest := []) E.fix (c_X11_within (l := l) hA xq1 1 4 σ rfl) (zcS E k2_179 k1_1 k2_177 k2_178 mf_X11_within rfl rfl ⟨Nat.le_of_ble_eq_true rfl, Nat.le_of_ble_eq_true rfl⟩) (zPre E hw _) rfl rfl hl.1 rfl (lv_room (Nat.le_of_ble_eq_true rfl)) dX11_game_3 ⟨Nat.zero_le _, Nat.zero_le _⟩) (fun H locs hw => ?_)
  refine lv_if_eq (tgt := 20) hx hb dX11_game_6 (by decide) (fun h => ?_) (fun h => ?_)
  · replace hf := it_f (b2i_0 h) hf
    refine lv_iconst (v := (-1)) hx hb dX11_game_20 (by decide) ?_
    exact zreti E hw hr hlk (rt_a hf) (rt_b hf) dX11_game_21
  · replace hf := it_t (b2i_n h) hf
    refine lv_aload_n hx hb dX11_game_9 rfl (lv_at hl 0 rfl) ?_
    refine zget E hw (Nat.le_of_ble_eq_true rfl) (ceC_0 ad cy _) rfl inX11 5 (by decide) k2_126 (fun _ h => h) rfl dX11_game_10 ?_
    refine lv_iload_n hx hb dX11_game_13 rfl (lv_at hl 1 rfl) ?_
    obtain ⟨vq1, σ2, hc, hf⟩ := bd2_e hf
    refine zcali hw (va_runV (As := [.int xq1]) (rest := []) E.fix (c_X6_valueOfGame (l := l) hA xq1 σ hc) (zcV E k4_170 k1_13 k4_167 k4_168 k4_169 mf_X6_valueOfGame rfl rfl ⟨Nat.le_of_ble_eq_true rfl, Nat.le_of_ble_eq_true rfl⟩) (zPreV E hw (Nat.le_of_ble_eq_true rfl) (ceC_78 ad cy _) rfl _) rfl rfl hl.1 rfl (lv_room (Nat.le_of_ble_eq_true rfl)) dX11_game_14 ⟨Nat.zero_le _, Nat.zero_le _⟩) (fun H locs hw => ?_)
    refine lv_goto (tgt := 21) hx hb dX11_game_17 (by decide) ?_
    exact zreti E hw hr hlk (rt_a hf) (rt_b hf) dX11_game_21
set_option maxRecDepth 100000 in
set_option maxHeartbeats 4000000 in
theorem c_X11_play {l : Launch} {D : va_G} {cy : Cy} {ad : Nat → Nat} {A : Nat → Prop} (hA : okAd 97 ad A) (xq1 : Int32) (σ : Sg) {r : Int32} {σ9 : Sg} (hf : f_X11_play xq1 σ = some (r, σ9)) : Met l yX11_play (.code yX11_play cX11_play 2 (some .int) :: TT) ({ frames := 13, cells := 0, slots := 0, locals := 335 } : Room) (zPc D cy 97 (celC ad cy) ad A [.ref (ad 0), .int xq1] σ) (zQi D 97 (celC ad cy) ad A r σ9) 0 0 A := by
  refine zofW (by decide) hA (Nat.le_of_ble_eq_true rfl) ?_
  intro p e s m args below meth c ls E hw hr hlk hl
  have E : ZE p s m args c cX11_play 2 "KiteSummons" D cy 97 ad A := E
  have hx := E.hx
  have hb := E.hb
  have hl : lv_has ls 2 [(0, .ref (ad 0)), (1, .int xq1)] := hl
  unfold f_X11_play at hf
  refine lv_iload_n hx hb dX11_play_0 rfl (lv_at hl 1 rfl) ?_
  refine lv_iconst (v := 1) hx hb dX11_play_1 (by decide) ?_
  refine lv_iconst (v := 4) hx hb dX11_play_2 (by decide) ?_
  refine zcali hw (va_runS (As := [.int xq1, .int 1, .int 4]) (rest := []) E.fix (c_X11_within (l := l) hA xq1 1 4 σ rfl) (zcS E k2_179 k1_1 k2_177 k2_178 mf_X11_within rfl rfl ⟨Nat.le_of_ble_eq_true rfl, Nat.le_of_ble_eq_true rfl⟩) (zPre E hw _) rfl rfl hl.1 rfl (lv_room (Nat.le_of_ble_eq_true rfl)) dX11_play_3 ⟨Nat.zero_le _, Nat.zero_le _⟩) (fun H locs hw => ?_)
  refine lv_if_ne (tgt := 11) hx hb dX11_play_6 (by decide) (fun h => ?_) (fun h => ?_)
  · replace hf := it_t (b2i_n h) hf
    refine lv_aload_n hx hb dX11_play_11 rfl (lv_at hl 0 rfl) ?_
    refine zget E hw (Nat.le_of_ble_eq_true rfl) (ceC_0 ad cy _) rfl inX11 2 (by decide) k2_123 (fun _ h => h) rfl dX11_play_12 ?_
    refine lv_aload_n hx hb dX11_play_15 rfl (lv_at hl 0 rfl) ?_
    refine zget E hw (Nat.le_of_ble_eq_true rfl) (ceC_0 ad cy _) rfl inX11 2 (by decide) k2_123 (fun _ h => h) rfl dX11_play_16 ?_
    refine zget E hw (Nat.le_of_ble_eq_true rfl) (ceC_24 ad cy _) rfl inX1 15 (by decide) k2_36 (fun _ h => h) rfl dX11_play_19 ?_
    refine zcali hw (va_runV (As := [.ref (ad 41)]) (rest := []) E.fix (c_X1_isOver (l := l) hA 41 (by unfold isSky; omega) σ rfl) (zcV E k3_106 k1_11 k3_103 k3_104 k3_105 mf_X1_isOver rfl rfl ⟨Nat.le_of_ble_eq_true rfl, Nat.le_of_ble_eq_true rfl⟩) (zPreV E hw (Nat.le_of_ble_eq_true rfl) (ceC_24 ad cy _) rfl _) rfl rfl hl.1 rfl (lv_room (Nat.le_of_ble_eq_true rfl)) dX11_play_22 ⟨Nat.zero_le _, Nat.zero_le _⟩) (fun H locs hw => ?_)
    refine lv_if_eq (tgt := 31) hx hb dX11_play_25 (by decide) (fun h => ?_) (fun h => ?_)
    · replace hf := it_f (b2i_0 h) hf
      refine lv_aload_n hx hb dX11_play_31 rfl (lv_at hl 0 rfl) ?_
      refine zget E hw (Nat.le_of_ble_eq_true rfl) (ceC_0 ad cy _) rfl inX11 5 (by decide) k2_126 (fun _ h => h) rfl dX11_play_32 ?_
      refine lv_iload_n hx hb dX11_play_35 rfl (lv_at hl 1 rfl) ?_
      obtain ⟨vq1, σ2, hc, hf⟩ := bd2_e hf
      refine zcali hw (va_runV (As := [.int xq1]) (rest := []) E.fix (c_X6_valueOfGame (l := l) hA xq1 σ hc) (zcV E k4_170 k1_13 k4_167 k4_168 k4_169 mf_X6_valueOfGame rfl rfl ⟨Nat.le_of_ble_eq_true rfl, Nat.le_of_ble_eq_true rfl⟩) (zPreV E hw (Nat.le_of_ble_eq_true rfl) (ceC_78 ad cy _) rfl _) rfl rfl hl.1 rfl (lv_room (Nat.le_of_ble_eq_true rfl)) dX11_play_36 ⟨Nat.zero_le _, Nat.zero_le _⟩) (fun H locs hw => ?_)
      refine lv_pop hx hb dX11_play_39 rfl ?_
      refine lv_aload_n hx hb dX11_play_40 rfl (lv_at hl 0 rfl) ?_
      refine zget E hw (Nat.le_of_ble_eq_true rfl) (ceC_0 ad cy _) rfl inX11 5 (by decide) k2_126 (fun _ h => h) rfl dX11_play_41 ?_
      refine zget E hw (Nat.le_of_ble_eq_true rfl) (ceC_78 ad cy _) rfl inX6 10 (by decide) k2_96 (fun _ h => h) rfl dX11_play_44 ?_
      exact zreti E hw hr hlk (rt_a hf) (rt_b hf) dX11_play_47
    · replace hf := it_t (b2i_n h) hf
      refine lv_bipush (v := (-3)) hx hb dX11_play_28 (by decide) ?_
      exact zreti E hw hr hlk (rt_a hf) (rt_b hf) dX11_play_30
  · replace hf := it_f (b2i_0 h) hf
    refine lv_iconst (v := (-1)) hx hb dX11_play_9 (by decide) ?_
    exact zreti E hw hr hlk (rt_a hf) (rt_b hf) dX11_play_10
set_option maxRecDepth 100000 in
set_option maxHeartbeats 4000000 in
theorem c_X1_addReport {l : Launch} {D : va_G} {cy : Cy} {ad : Nat → Nat} {A : Nat → Prop} (hA : okAd 97 ad A) (xq1 : Int32) (xq2 : Int32) (xq3 : Int32) (xq4 : Int32) (σ : Sg) {r : Int32} {σ9 : Sg} (hf : f_X1_addReport xq1 xq2 xq3 xq4 σ = some (r, σ9)) : Met l yX1_addReport (.code yX1_addReport cX1_addReport 6 (some .int) :: TT) ({ frames := 0, cells := 0, slots := 0, locals := 0 } : Room) (zPc D cy 97 (celC ad cy) ad A [.ref (ad 24), .int xq1, .int xq2, .int xq3, .int xq4] σ) (zQi D 97 (celC ad cy) ad A r σ9) 0 0 A := by
  refine zofW (by decide) hA (Nat.le_of_ble_eq_true rfl) ?_
  intro p e s m args below meth c ls E hw hr hlk hl
  have E : ZE p s m args c cX1_addReport 6 "KiteSummons$County" D cy 97 ad A := E
  have hx := E.hx
  have hb := E.hb
  have hl : lv_has ls 6 [(0, .ref (ad 24)), (1, .int xq1), (2, .int xq2), (3, .int xq3), (4, .int xq4)] := hl
  unfold f_X1_addReport at hf
  refine lv_aload_n hx hb dX1_addReport_0 rfl (lv_at hl 0 rfl) ?_
  refine zget E hw (Nat.le_of_ble_eq_true rfl) (ceC_24 ad cy _) rfl inX1 4 (by decide) k2_16 (fun _ h => h) rfl dX1_addReport_1 ?_
  refine lv_topi (fun vq1 evq1 => ?_)
  replace hf := lt_i evq1 hf
  refine lv_istore (lv' := [(5, .int vq1), (0, .ref (ad 24)), (1, .int xq1), (2, .int xq2), (3, .int xq3), (4, .int xq4)]) hx hb dX1_addReport_4 hl (by decide) rfl (fun ls hl => ?_)
  refine lv_aload_n hx hb dX1_addReport_6 rfl (lv_at hl 1 rfl) ?_
  refine lv_dup hx hb dX1_addReport_7 rfl ?_
  refine zget E hw (Nat.le_of_ble_eq_true rfl) (ceC_24 ad cy _) rfl inX1 4 (by decide) k2_16 (fun _ h => h) rfl dX1_addReport_8 ?_
  refine lv_iconst (v := 1) hx hb dX1_addReport_11 (by decide) ?_
  refine lv_iadd hx hb dX1_addReport_12 ?_
  refine zputs E hw (Nat.le_of_ble_eq_true rfl) (ceC_24 ad cy _) rfl inX1 tyX1 tyX1_ok nmX1 4 (by decide) k2_16 (fun _ h => h) rfl rfl rfl (Nat.le_of_ble_eq_true rfl) (j := 4) (Eq.trans (ceC_24 ad cy _) (by rfl)) dX1_addReport_13 (fun σ2 eσ2 H locs hw => ?_)
  replace hf := lt_i eσ2 hf
  refine lv_aload_n hx hb dX1_addReport_16 rfl (lv_at hl 1 rfl) ?_
  refine zget E hw (Nat.le_of_ble_eq_true rfl) (ceC_24 ad cy _) rfl inX1 10 (by decide) k2_28 (fun _ h => h) rfl dX1_addReport_17 ?_
  refine lv_iload hx hb dX1_addReport_20 (lv_at hl 0 rfl) ?_
  refine lv_iload_n hx hb dX1_addReport_22 rfl (lv_at hl 2 rfl) ?_
  obtain ⟨σ3, hσ3, hf⟩ := bd_e hf
  refine zastr E hw (Nat.le_of_ble_eq_true rfl) (ceC_30 ad cy) hσ3 dX1_addReport_23 (fun H locs hw => ?_)
  refine lv_aload_n hx hb dX1_addReport_24 rfl (lv_at hl 1 rfl) ?_
  refine zget E hw (Nat.le_of_ble_eq_true rfl) (ceC_24 ad cy _) rfl inX1 11 (by decide) k2_29 (fun _ h => h) rfl dX1_addReport_25 ?_
  refine lv_iload hx hb dX1_addReport_28 (lv_at hl 0 rfl) ?_
  refine lv_iload_n hx hb dX1_addReport_30 rfl (lv_at hl 3 rfl) ?_
  obtain ⟨σ4, hσ4, hf⟩ := bd_e hf
  refine zastr E hw (Nat.le_of_ble_eq_true rfl) (ceC_31 ad cy) hσ4 dX1_addReport_31 (fun H locs hw => ?_)
  refine lv_aload_n hx hb dX1_addReport_32 rfl (lv_at hl 1 rfl) ?_
  refine zget E hw (Nat.le_of_ble_eq_true rfl) (ceC_24 ad cy _) rfl inX1 12 (by decide) k2_30 (fun _ h => h) rfl dX1_addReport_33 ?_
  refine lv_iload hx hb dX1_addReport_36 (lv_at hl 0 rfl) ?_
  refine lv_iload_n hx hb dX1_addReport_38 rfl (lv_at hl 4 rfl) ?_
  obtain ⟨σ5, hσ5, hf⟩ := bd_e hf
  refine zastr E hw (Nat.le_of_ble_eq_true rfl) (ceC_32 ad cy) hσ5 dX1_addReport_39 (fun H locs hw => ?_)
  refine lv_aload_n hx hb dX1_addReport_40 rfl (lv_at hl 1 rfl) ?_
  refine zget E hw (Nat.le_of_ble_eq_true rfl) (ceC_24 ad cy _) rfl inX1 13 (by decide) k2_31 (fun _ h => h) rfl dX1_addReport_41 ?_
  refine lv_iload hx hb dX1_addReport_44 (lv_at hl 0 rfl) ?_
  refine lv_iload hx hb dX1_addReport_46 (lv_at hl 5 rfl) ?_
  obtain ⟨σ6, hσ6, hf⟩ := bd_e hf
  refine zastr E hw (Nat.le_of_ble_eq_true rfl) (ceC_33 ad cy) hσ6 dX1_addReport_48 (fun H locs hw => ?_)
  refine lv_iload hx hb dX1_addReport_49 (lv_at hl 0 rfl) ?_
  exact zreti E hw hr hlk (rt_a hf) (rt_b hf) dX1_addReport_51
set_option maxRecDepth 100000 in
set_option maxHeartbeats 4000000 in
theorem c_X11_report {l : Launch} {D : va_G} {cy : Cy} {ad : Nat → Nat} {A : Nat → Prop} (hA : okAd 97 ad A) (xq1 : Int32) (xq2 : Int32) (xq3 : Int32) (xq4 : Int32) (σ : Sg) {r : Int32} {σ9 : Sg} (hf : f_X11_report xq1 xq2 xq3 xq4 σ = some (r, σ9)) : Met l yX11_report (.code yX11_report cX11_report 5 (some .int) :: TT) ({ frames := 1, cells := 0, slots := 0, locals := 25 } : Room) (zPc D cy 97 (celC ad cy) ad A [.ref (ad 0), .int xq1, .int xq2, .int xq3, .int xq4] σ) (zQi D 97 (celC ad cy) ad A r σ9) 0 0 A := by
  refine zofW (by decide) hA (Nat.le_of_ble_eq_true rfl) ?_
  intro p e s m args below meth c ls E hw hr hlk hl
  have E : ZE p s m args c cX11_report 5 "KiteSummons" D cy 97 ad A := E
  have hx := E.hx
  have hb := E.hb
  have hl : lv_has ls 5 [(0, .ref (ad 0)), (1, .int xq1), (2, .int xq2), (3, .int xq3), (4, .int xq4)] := hl
  unfold f_X11_report at hf
  refine lv_iload_n hx hb dX11_report_0 rfl (lv_at hl 1 rfl) ?_
  refine lv_iconst (v := 0) hx hb dX11_report_1 (by decide) ?_
  refine lv_bipush (v := 15) hx hb dX11_report_2 (by decide) ?_
  refine zcali hw (va_runS (As := [.int xq1, .int 0, .int 15]) (rest := []) E.fix (c_X11_within (l := l) hA xq1 0 15 σ rfl) (zcS E k2_179 k1_1 k2_177 k2_178 mf_X11_within rfl rfl ⟨Nat.le_of_ble_eq_true rfl, Nat.le_of_ble_eq_true rfl⟩) (zPre E hw _) rfl rfl hl.1 rfl (lv_room (Nat.le_of_ble_eq_true rfl)) dX11_report_4 ⟨Nat.zero_le _, Nat.zero_le _⟩) (fun H locs hw => ?_)
  refine lv_if_eq (tgt := 40) hx hb dX11_report_7 (by decide) (fun h => ?_) (fun h => ?_)
  · replace hf := it_f (b2i_0 h) hf
    refine lv_iconst (v := (-1)) hx hb dX11_report_40 (by decide) ?_
    exact zreti E hw hr hlk (rt_a hf) (rt_b hf) dX11_report_41
  · replace hf := it_t (b2i_n h) hf
    refine lv_iload_n hx hb dX11_report_10 rfl (lv_at hl 2 rfl) ?_
    refine lv_iconst (v := 0) hx hb dX11_report_11 (by decide) ?_
    refine lv_iconst (v := 1) hx hb dX11_report_12 (by decide) ?_
    refine zcali hw (va_runS (As := [.int xq2, .int 0, .int 1]) (rest := []) E.fix (c_X11_within (l := l) hA xq2 0 1 σ rfl) (zcS E k2_179 k1_1 k2_177 k2_178 mf_X11_within rfl rfl ⟨Nat.le_of_ble_eq_true rfl, Nat.le_of_ble_eq_true rfl⟩) (zPre E hw _) rfl rfl hl.1 rfl (lv_room (Nat.le_of_ble_eq_true rfl)) dX11_report_13 ⟨Nat.zero_le _, Nat.zero_le _⟩) (fun H locs hw => ?_)
    refine lv_if_eq (tgt := 40) hx hb dX11_report_16 (by decide) (fun h => ?_) (fun h => ?_)
    · replace hf := it_f (b2i_0 h) hf
      refine lv_iconst (v := (-1)) hx hb dX11_report_40 (by decide) ?_
      exact zreti E hw hr hlk (rt_a hf) (rt_b hf) dX11_report_41
    · replace hf := it_t (b2i_n h) hf
      refine lv_iload_n hx hb dX11_report_19 rfl (lv_at hl 3 rfl) ?_
      refine lv_iconst (v := 0) hx hb dX11_report_20 (by decide) ?_
      refine lv_bipush (v := 7) hx hb dX11_report_21 (by decide) ?_
      refine zcali hw (va_runS (As := [.int xq3, .int 0, .int 7]) (rest := []) E.fix (c_X11_within (l := l) hA xq3 0 7 σ rfl) (zcS E k2_179 k1_1 k2_177 k2_178 mf_X11_within rfl rfl ⟨Nat.le_of_ble_eq_true rfl, Nat.le_of_ble_eq_true rfl⟩) (zPre E hw _) rfl rfl hl.1 rfl (lv_room (Nat.le_of_ble_eq_true rfl)) dX11_report_23 ⟨Nat.zero_le _, Nat.zero_le _⟩) (fun H locs hw => ?_)
      refine lv_if_eq (tgt := 40) hx hb dX11_report_26 (by decide) (fun h => ?_) (fun h => ?_)
      · replace hf := it_f (b2i_0 h) hf
        refine lv_iconst (v := (-1)) hx hb dX11_report_40 (by decide) ?_
        exact zreti E hw hr hlk (rt_a hf) (rt_b hf) dX11_report_41
      · replace hf := it_t (b2i_n h) hf
        refine lv_iload hx hb dX11_report_29 (lv_at hl 4 rfl) ?_
        refine lv_iload_n hx hb dX11_report_31 rfl (lv_at hl 3 rfl) ?_
        refine lv_bipush (v := 7) hx hb dX11_report_32 (by decide) ?_
        refine zcali hw (va_runS (As := [.int xq4, .int xq3, .int 7]) (rest := []) E.fix (c_X11_within (l := l) hA xq4 xq3 7 σ rfl) (zcS E k2_179 k1_1 k2_177 k2_178 mf_X11_within rfl rfl ⟨Nat.le_of_ble_eq_true rfl, Nat.le_of_ble_eq_true rfl⟩) (zPre E hw _) rfl rfl hl.1 rfl (lv_room (Nat.le_of_ble_eq_true rfl)) dX11_report_34 ⟨Nat.zero_le _, Nat.zero_le _⟩) (fun H locs hw => ?_)
        refine lv_if_ne (tgt := 42) hx hb dX11_report_37 (by decide) (fun h => ?_) (fun h => ?_)
        · replace hf := it_t (b2i_n h) hf
          refine lv_aload_n hx hb dX11_report_42 rfl (lv_at hl 0 rfl) ?_
          refine zget E hw (Nat.le_of_ble_eq_true rfl) (ceC_0 ad cy _) rfl inX11 2 (by decide) k2_123 (fun _ h => h) rfl dX11_report_43 ?_
          refine zget E hw (Nat.le_of_ble_eq_true rfl) (ceC_24 ad cy _) rfl inX1 4 (by decide) k2_17 (fun _ h => h) rfl dX11_report_46 ?_
          refine lv_bipush (v := 6) hx hb dX11_report_49 (by decide) ?_
          refine lv_icmp_lt (tgt := 59) hx hb dX11_report_51 (by decide) (fun h => ?_) (fun h => ?_)
          · replace hf := it_t h hf
            refine lv_aload_n hx hb dX11_report_59 rfl (lv_at hl 0 rfl) ?_
            refine zget E hw (Nat.le_of_ble_eq_true rfl) (ceC_0 ad cy _) rfl inX11 2 (by decide) k2_123 (fun _ h => h) rfl dX11_report_60 ?_
            refine lv_iload_n hx hb dX11_report_63 rfl (lv_at hl 1 rfl) ?_
            refine lv_iload_n hx hb dX11_report_64 rfl (lv_at hl 2 rfl) ?_
            refine lv_iload_n hx hb dX11_report_65 rfl (lv_at hl 3 rfl) ?_
            refine lv_iload hx hb dX11_report_66 (lv_at hl 4 rfl) ?_
            obtain ⟨vq1, σ2, hc, hf⟩ := bd2_e hf
            refine zcali hw (va_runV (As := [.int xq1, .int xq2, .int xq3, .int xq4]) (rest := []) E.fix (c_X1_addReport (l := l) hA xq1 xq2 xq3 xq4 σ hc) (zcV E k4_186 k1_11 k4_183 k4_184 k4_185 mf_X1_addReport rfl rfl ⟨Nat.le_of_ble_eq_true rfl, Nat.le_of_ble_eq_true rfl⟩) (zPreV E hw (Nat.le_of_ble_eq_true rfl) (ceC_24 ad cy _) rfl _) rfl rfl hl.1 rfl (lv_room (Nat.le_of_ble_eq_true rfl)) dX11_report_68 ⟨Nat.zero_le _, Nat.zero_le _⟩) (fun H locs hw => ?_)
            exact zreti E hw hr hlk (rt_a hf) (rt_b hf) dX11_report_71
          · replace hf := it_f h hf
            refine lv_bipush (v := (-2)) hx hb dX11_report_54 (by decide) ?_
            refine lv_goto (tgt := 71) hx hb dX11_report_56 (by decide) ?_
            exact zreti E hw hr hlk (rt_a hf) (rt_b hf) dX11_report_71
        · replace hf := it_f (b2i_0 h) hf
          refine lv_iconst (v := (-1)) hx hb dX11_report_40 (by decide) ?_
          exact zreti E hw hr hlk (rt_a hf) (rt_b hf) dX11_report_41
set_option maxRecDepth 100000 in
set_option maxHeartbeats 4000000 in
theorem c_X11_forget {l : Launch} {D : va_G} {cy : Cy} {ad : Nat → Nat} {A : Nat → Prop} (hA : okAd 97 ad A) (σ : Sg) {r : Int32} {σ9 : Sg} (hf : f_X11_forget σ = (r, σ9)) : Met l yX11_forget (.code yX11_forget cX11_forget 2 (some .int) :: TT) ({ frames := 0, cells := 0, slots := 0, locals := 0 } : Room) (zPc D cy 97 (celC ad cy) ad A [.ref (ad 0)] σ) (zQi D 97 (celC ad cy) ad A r σ9) 0 0 A := by
  refine zofW (by decide) hA (Nat.le_of_ble_eq_true rfl) ?_
  intro p e s m args below meth c ls E hw hr hlk hl
  have E : ZE p s m args c cX11_forget 2 "KiteSummons" D cy 97 ad A := E
  have hx := E.hx
  have hb := E.hb
  have hl : lv_has ls 2 [(0, .ref (ad 0))] := hl
  unfold f_X11_forget at hf
  refine lv_aload_n hx hb dX11_forget_0 rfl (lv_at hl 0 rfl) ?_
  refine zget E hw (Nat.le_of_ble_eq_true rfl) (ceC_0 ad cy _) rfl inX11 2 (by decide) k2_123 (fun _ h => h) rfl dX11_forget_1 ?_
  refine zget E hw (Nat.le_of_ble_eq_true rfl) (ceC_24 ad cy _) rfl inX1 4 (by decide) k2_17 (fun _ h => h) rfl dX11_forget_4 ?_
  refine lv_topi (fun vq1 evq1 => ?_)
  replace hf := lt_i evq1 hf
  refine lv_istore_n (lv' := [(1, .int vq1), (0, .ref (ad 0))]) hx hb dX11_forget_7 rfl hl (by decide) rfl (fun ls hl => ?_)
  refine lv_aload_n hx hb dX11_forget_8 rfl (lv_at hl 1 rfl) ?_
  refine zget E hw (Nat.le_of_ble_eq_true rfl) (ceC_0 ad cy _) rfl inX11 2 (by decide) k2_123 (fun _ h => h) rfl dX11_forget_9 ?_
  refine lv_iconst (v := 0) hx hb dX11_forget_12 (by decide) ?_
  refine zputs E hw (Nat.le_of_ble_eq_true rfl) (ceC_24 ad cy _) rfl inX1 tyX1 tyX1_ok nmX1 4 (by decide) k2_17 (fun _ h => h) rfl rfl rfl (Nat.le_of_ble_eq_true rfl) (j := 4) (Eq.trans (ceC_24 ad cy _) (by rfl)) dX11_forget_13 (fun σ2 eσ2 H locs hw => ?_)
  replace hf := lt_i eσ2 hf
  refine lv_iload_n hx hb dX11_forget_16 rfl (lv_at hl 0 rfl) ?_
  exact zreti E hw hr hlk (rp_a hf) (rp_b hf) dX11_forget_17
set_option maxRecDepth 100000 in
set_option maxHeartbeats 4000000 in
theorem c_X1_isAsReported {l : Launch} {D : va_G} {cy : Cy} {ad : Nat → Nat} {A : Nat → Prop} (hA : okAd 97 ad A) (xq1 : Int32) (xq2 : Int32) (xq3 : Int32) (σ : Sg) {r : Bool} (hf : f_X1_isAsReported xq1 xq2 xq3 σ = some r) : Met l yX1_isAsReported (.code yX1_isAsReported cX1_isAsReported 6 (some .boolean) :: TT) ({ frames := 1, cells := 0, slots := 0, locals := 22 } : Room) (zPc D cy 97 (celC ad cy) ad A [.ref (ad 24), .int xq1, .int xq2, .int xq3] σ) (zQi D 97 (celC ad cy) ad A (b2i r) σ) 0 0 A := by
  refine zofW (by decide) hA (Nat.le_of_ble_eq_true rfl) ?_
  intro p e s m args below meth c ls E hw hr hlk hl
  have E : ZE p s m args c cX1_isAsReported 6 "KiteSummons$County" D cy 97 ad A := E
  have hx := E.hx
  have hb := E.hb
  have hl : lv_has ls 6 [(0, .ref (ad 24)), (1, .int xq1), (2, .int xq2), (3, .int xq3)] := hl
  have hB49 : ∀ (xq1 : Int32) (xq2 : Int32) (xq3 : Int32) (xq4 : Int32) (tq0 : Int32) (kq3 : Int32 → Option Bool) (hkq3 : ∀ (xq4 : Int32) (H : Heap) (locs : List Loc) (ls : Array Slot), ZS D 97 (celC ad cy) ad A s σ H locs → lv_has ls 6 [(0, .ref (ad 24)), (1, .int xq1), (2, .int xq2), (3, .int xq3), (4, .int xq4)] → kq3 xq4 = some r → W p l e ({ frames := 1, cells := 0, slots := 0, locals := 22 } : Room) s m args below meth c H locs 0 0 (MQ below (zQi D 97 (celC ad cy) ad A (b2i r) σ) args s 0 0 A) (F0 m 3 ls [])) (H : Heap) (locs : List Loc) (ls : Array Slot), ZS D 97 (celC ad cy) ad A s σ H locs → lv_has ls 6 [(0, .ref (ad 24)), (1, .int xq1), (2, .int xq2), (3, .int xq3), (4, .int xq4)] → f_X1_isAsReported_b49 kq3 xq1 xq2 xq3 xq4 tq0 σ = some r → W p l e ({ frames := 1, cells := 0, slots := 0, locals := 22 } : Room) s m args below meth c H locs 0 0 (MQ below (zQi D 97 (celC ad cy) ad A (b2i r) σ) args s 0 0 A) (F0 m 49 ls [.int tq0]) := by
    intro xq1 xq2 xq3 xq4 tq0 kq3 hkq3 H locs ls hw hl hf
    unfold f_X1_isAsReported_b49 at hf
    refine lv_istore (lv' := [(5, .int tq0), (0, .ref (ad 24)), (1, .int xq1), (2, .int xq2), (3, .int xq3), (4, .int xq4)]) hx hb dX1_isAsReported_49 hl (by decide) rfl (fun ls hl => ?_)
    refine lv_iload hx hb dX1_isAsReported_51 (lv_at hl 0 rfl) ?_
    refine lv_aload_n hx hb dX1_isAsReported_53 rfl (lv_at hl 1 rfl) ?_
    refine zget E hw (Nat.le_of_ble_eq_true rfl) (ceC_24 ad cy _) rfl inX1 12 (by decide) k2_30 (fun _ h => h) rfl dX1_isAsReported_54 ?_
    refine lv_iload hx hb dX1_isAsReported_57 (lv_at hl 5 rfl) ?_
    obtain ⟨vq3, hvq3, hf⟩ := bd_e hf
    refine zaldr E hw (Nat.le_of_ble_eq_true rfl) (ceC_32 ad cy) hvq3 dX1_isAsReported_59 ?_
    refine lv_aload_n hx hb dX1_isAsReported_60 rfl (lv_at hl 1 rfl) ?_
    refine zget E hw (Nat.le_of_ble_eq_true rfl) (ceC_24 ad cy _) rfl inX1 13 (by decide) k2_31 (fun _ h => h) rfl dX1_isAsReported_61 ?_
    refine lv_iload hx hb dX1_isAsReported_64 (lv_at hl 5 rfl) ?_
    obtain ⟨vq4, hvq4, hf⟩ := bd_e hf
    refine zaldr E hw (Nat.le_of_ble_eq_true rfl) (ceC_33 ad cy) hvq4 dX1_isAsReported_66 ?_
    refine zcali hw (va_runSN (As := [.int tq0, .int vq3, .int vq4]) (rest := []) E.fix (c_X11_within (l := l) hA tq0 vq3 vq4 σ rfl) (zcN E k2_179 k1_1 k2_206 k2_178 mf_X11_within rfl rfl ⟨Nat.le_of_ble_eq_true rfl, Nat.le_of_ble_eq_true rfl⟩) (zPre E hw _) rfl rfl hl.1 rfl (lv_room (Nat.le_of_ble_eq_true rfl)) dX1_isAsReported_67 ⟨Nat.zero_le _, Nat.zero_le _⟩) (fun H locs hw => ?_)
    refine lv_if_ne (tgt := 75) hx hb dX1_isAsReported_70 (by decide) (fun h => ?_) (fun h => ?_)
    · replace hf := it_t (b2i_n h) hf
      refine lv_iinc (v := (xq4 + 1)) (lv' := [(4, .int (xq4 + 1)), (5, .int tq0), (0, .ref (ad 24)), (1, .int xq1), (2, .int xq2), (3, .int xq3)]) hx hb dX1_isAsReported_75 hl (k := 5) rfl (by rfl) (by decide) rfl (fun ls hl => ?_)
      refine lv_goto (tgt := 3) hx hb dX1_isAsReported_78 (by decide) ?_
      exact hkq3 (xq4 + 1) _ _ _ hw (lv_sub hl [2, 3, 4, 5, 0] rfl) hf
    · replace hf := it_f (b2i_0 h) hf
      refine lv_iconst (v := 0) hx hb dX1_isAsReported_73 (by decide) ?_
      exact zretz E hw hr hlk (b_e (rt_1 hf) (by rfl)) rfl dX1_isAsReported_74
  have hB3 : ∀ (xq1 : Int32) (xq2 : Int32) (xq3 : Int32) (kq3 : Int32 → Option Bool) (hkq3 : ∀ (xq4 : Int32) (H : Heap) (locs : List Loc) (ls : Array Slot), ZS D 97 (celC ad cy) ad A s σ H locs → lv_has ls 6 [(0, .ref (ad 24)), (1, .int xq1), (2, .int xq2), (3, .int xq3), (4, .int xq4)] → kq3 xq4 = some r → W p l e ({ frames := 1, cells := 0, slots := 0, locals := 22 } : Room) s m args below meth c H locs 0 0 (MQ below (zQi D 97 (celC ad cy) ad A (b2i r) σ) args s 0 0 A) (F0 m 3 ls [])) (xq4 : Int32) (H : Heap) (locs : List Loc) (ls : Array Slot), ZS D 97 (celC ad cy) ad A s σ H locs → lv_has ls 6 [(0, .ref (ad 24)), (1, .int xq1), (2, .int xq2), (3, .int xq3), (4, .int xq4)] → f_X1_isAsReported_b3 kq3 xq1 xq2 xq3 σ xq4 = some r → W p l e ({ frames := 1, cells := 0, slots := 0, locals := 22 } : Room) s m args below meth c H locs 0 0 (MQ below (zQi D 97 (celC ad cy) ad A (b2i r) σ) args s 0 0 A) (F0 m 3 ls []) := by
    intro xq1 xq2 xq3 kq3 hkq3 xq4 H locs ls hw hl hf
    unfold f_X1_isAsReported_b3 at hf
    refine lv_iload hx hb dX1_isAsReported_3 (lv_at hl 4 rfl) ?_
    refine lv_aload_n hx hb dX1_isAsReported_5 rfl (lv_at hl 0 rfl) ?_
    refine zget E hw (Nat.le_of_ble_eq_true rfl) (ceC_24 ad cy _) rfl inX1 4 (by decide) k2_16 (fun _ h => h) rfl dX1_isAsReported_6 ?_
    refine lv_icmp_ge (tgt := 81) hx hb dX1_isAsReported_9 (by decide) (fun h => ?_) (fun h => ?_)
    · replace hf := it_t h hf
      refine lv_iconst (v := 1) hx hb dX1_isAsReported_81 (by decide) ?_
      exact zretz E hw hr hlk (b_e (rt_1 hf) (by rfl)) rfl dX1_isAsReported_82
    · replace hf := it_f h hf
      refine lv_iload hx hb dX1_isAsReported_12 (lv_at hl 4 rfl) ?_
      refine lv_iload_n hx hb dX1_isAsReported_14 rfl (lv_at hl 3 rfl) ?_
      refine lv_icmp_eq (tgt := 75) hx hb dX1_isAsReported_15 (by decide) (fun h => ?_) (fun h => ?_)
      · replace hf := it_t h hf
        refine lv_iinc (v := (xq4 + 1)) (lv' := [(4, .int (xq4 + 1)), (0, .ref (ad 24)), (1, .int xq1), (2, .int xq2), (3, .int xq3)]) hx hb dX1_isAsReported_75 hl (k := 4) rfl (by rfl) (by decide) rfl (fun ls hl => ?_)
        refine lv_goto (tgt := 3) hx hb dX1_isAsReported_78 (by decide) ?_
        exact hkq3 (xq4 + 1) _ _ _ hw (lv_sub hl [1, 2, 3, 4, 0] rfl) hf
      · replace hf := it_f h hf
        refine lv_aload_n hx hb dX1_isAsReported_18 rfl (lv_at hl 0 rfl) ?_
        refine zget E hw (Nat.le_of_ble_eq_true rfl) (ceC_24 ad cy _) rfl inX1 10 (by decide) k2_28 (fun _ h => h) rfl dX1_isAsReported_19 ?_
        refine lv_iload hx hb dX1_isAsReported_22 (lv_at hl 4 rfl) ?_
        obtain ⟨vq1, hvq1, hf⟩ := bd_e hf
        refine zaldr E hw (Nat.le_of_ble_eq_true rfl) (ceC_30 ad cy) hvq1 dX1_isAsReported_24 ?_
        refine lv_iload_n hx hb dX1_isAsReported_25 rfl (lv_at hl 1 rfl) ?_
        refine lv_icmp_ne (tgt := 75) hx hb dX1_isAsReported_26 (by decide) (fun h => ?_) (fun h => ?_)
        · replace hf := it_t h hf
          refine lv_iinc (v := (xq4 + 1)) (lv' := [(4, .int (xq4 + 1)), (0, .ref (ad 24)), (1, .int xq1), (2, .int xq2), (3, .int xq3)]) hx hb dX1_isAsReported_75 hl (k := 4) rfl (by rfl) (by decide) rfl (fun ls hl => ?_)
          refine lv_goto (tgt := 3) hx hb dX1_isAsReported_78 (by decide) ?_
          exact hkq3 (xq4 + 1) _ _ _ hw (lv_sub hl [1, 2, 3, 4, 0] rfl) hf
        · replace hf := it_n h hf
          refine lv_aload_n hx hb dX1_isAsReported_29 rfl (lv_at hl 0 rfl) ?_
          refine zget E hw (Nat.le_of_ble_eq_true rfl) (ceC_24 ad cy _) rfl inX1 11 (by decide) k2_29 (fun _ h => h) rfl dX1_isAsReported_30 ?_
          refine lv_iload hx hb dX1_isAsReported_33 (lv_at hl 4 rfl) ?_
          obtain ⟨vq2, hvq2, hf⟩ := bd_e hf
          refine zaldr E hw (Nat.le_of_ble_eq_true rfl) (ceC_31 ad cy) hvq2 dX1_isAsReported_35 ?_
          refine lv_if_ne (tgt := 46) hx hb dX1_isAsReported_36 (by decide) (fun h => ?_) (fun h => ?_)
          · replace hf := it_t h hf
            refine lv_iload_n hx hb dX1_isAsReported_46 rfl (lv_at hl 2 rfl) ?_
            refine lv_iconst (v := 3) hx hb dX1_isAsReported_47 (by decide) ?_
            refine zishr hx hb dX1_isAsReported_48 ?_
            exact hB49 xq1 xq2 xq3 xq4 (shr32 xq2 3) kq3 hkq3 _ _ _ hw (lv_sub hl [0, 1, 2, 3, 4] rfl) hf
          · replace hf := it_n h hf
            refine lv_iload_n hx hb dX1_isAsReported_39 rfl (lv_at hl 2 rfl) ?_
            refine lv_bipush (v := 7) hx hb dX1_isAsReported_40 (by decide) ?_
            refine lv_iand hx hb dX1_isAsReported_42 ?_
            refine lv_goto (tgt := 49) hx hb dX1_isAsReported_43 (by decide) ?_
            exact hB49 xq1 xq2 xq3 xq4 (xq2 &&& 7) kq3 hkq3 _ _ _ hw (lv_sub hl [0, 1, 2, 3, 4] rfl) hf
  have hL3 : ∀ (xq1 : Int32) (xq2 : Int32) (xq3 : Int32) (n : Nat) (xq4 : Int32) (H : Heap) (locs : List Loc) (ls : Array Slot), ZS D 97 (celC ad cy) ad A s σ H locs → lv_has ls 6 [(0, .ref (ad 24)), (1, .int xq1), (2, .int xq2), (3, .int xq3), (4, .int xq4)] → f_X1_isAsReported_l3 xq1 xq2 xq3 σ n xq4 = some r → W p l e ({ frames := 1, cells := 0, slots := 0, locals := 22 } : Room) s m args below meth c H locs 0 0 (MQ below (zQi D 97 (celC ad cy) ad A (b2i r) σ) args s 0 0 A) (F0 m 3 ls []) := by
    intro xq1 xq2 xq3 n
    induction n with
    | zero =>
      intro xq4 H locs ls hw hl hf
      exact nn_e hf
    | succ n ih =>
      intro xq4 H locs ls hw hl hf
      exact hB3 xq1 xq2 xq3 (f_X1_isAsReported_l3 xq1 xq2 xq3 σ n) ih xq4 H locs ls hw hl hf
  unfold f_X1_isAsReported at hf
  refine lv_iconst (v := 0) hx hb dX1_isAsReported_0 (by decide) ?_
  refine lv_istore (lv' := [(4, .int 0), (0, .ref (ad 24)), (1, .int xq1), (2, .int xq2), (3, .int xq3)]) hx hb dX1_isAsReported_1 hl (by decide) rfl (fun ls hl => ?_)
  exact hL3 xq1 xq2 xq3 400 0 _ _ _ hw (lv_sub hl [1, 2, 3, 4, 0] rfl) hf
set_option maxRecDepth 100000 in
set_option maxHeartbeats 4000000 in
theorem c_X1_fits {l : Launch} {D : va_G} {cy : Cy} {ad : Nat → Nat} {A : Nat → Prop} (hA : okAd 97 ad A) (xq1 : Int32) (xq2 : Int32) (xq3 : Int32) (σ : Sg) {r : Bool} (hf : f_X1_fits xq1 xq2 xq3 σ = some r) : Met l yX1_fits (.code yX1_fits cX1_fits 10 (some .boolean) :: TT) ({ frames := 3, cells := 0, slots := 0, locals := 66 } : Room) (zPc D cy 97 (celC ad cy) ad A [.ref (ad 24), .int xq1, .int xq2, .int xq3] σ) (zQi D 97 (celC ad cy) ad A (b2i r) σ) 0 0 A := by
  refine zofW (by decide) hA (Nat.le_of_ble_eq_true rfl) ?_
  intro p e s m args below meth c ls E hw hr hlk hl
  have E : ZE p s m args c cX1_fits 10 "KiteSummons$County" D cy 97 ad A := E
  have hx := E.hx
  have hb := E.hb
  have hl : lv_has ls 10 [(0, .ref (ad 24)), (1, .int xq1), (2, .int xq2), (3, .int xq3)] := hl
  have hB10 : ∀ (xq1 : Int32) (xq3 : Int32) (kq10 : Int32 → Int32 → Int32 → Option Bool) (hkq10 : ∀ (xq4 : Int32) (xq5 : Int32) (xq6 : Int32) (H : Heap) (locs : List Loc) (ls : Array Slot), ZS D 97 (celC ad cy) ad A s σ H locs → lv_has ls 10 [(0, .ref (ad 24)), (1, .int xq1), (3, .int xq3), (4, .int xq4), (5, .int xq5), (6, .int xq6)] → kq10 xq4 xq5 xq6 = some r → W p l e ({ frames := 3, cells := 0, slots := 0, locals := 66 } : Room) s m args below meth c H locs 0 0 (MQ below (zQi D 97 (celC ad cy) ad A (b2i r) σ) args s 0 0 A) (F0 m 10 ls [])) (xq4 : Int32) (xq5 : Int32) (xq6 : Int32) (H : Heap) (locs : List Loc) (ls : Array Slot), ZS D 97 (celC ad cy) ad A s σ H locs → lv_has ls 10 [(0, .ref (ad 24)), (1, .int xq1), (3, .int xq3), (4, .int xq4), (5, .int xq5), (6, .int xq6)] → f_X1_fits_b10 kq10 xq1 xq3 σ xq4 xq5 xq6 = some r → W p l e ({ frames := 3, cells := 0, slots := 0, locals := 66 } : Room) s m args below meth c H locs 0 0 (MQ below (zQi D 97 (celC ad cy) ad A (b2i r) σ) args s 0 0 A) (F0 m 10 ls []) := by
    intro xq1 xq3 kq10 hkq10 xq4 xq5 xq6 H locs ls hw hl hf
    unfold f_X1_fits_b10 at hf
    refine lv_iload hx hb dX1_fits_10 (lv_at hl 5 rfl) ?_
    refine lv_bipush (v := 16) hx hb dX1_fits_12 (by decide) ?_
    refine lv_icmp_ge (tgt := 109) hx hb dX1_fits_14 (by decide) (fun h => ?_) (fun h => ?_)
    · replace hf := it_t h hf
      refine lv_iconst (v := 1) hx hb dX1_fits_109 (by decide) ?_
      exact zretz E hw hr hlk (b_e (rt_1 hf) (by rfl)) rfl dX1_fits_110
    · replace hf := it_f h hf
      refine lv_aload_n hx hb dX1_fits_17 rfl (lv_at hl 0 rfl) ?_
      refine lv_iload hx hb dX1_fits_18 (lv_at hl 5 rfl) ?_
      refine lv_iload hx hb dX1_fits_20 (lv_at hl 3 rfl) ?_
      refine lv_iload_n hx hb dX1_fits_22 rfl (lv_at hl 2 rfl) ?_
      obtain ⟨vq1, hc, hf⟩ := bd_e hf
      refine zcali hw (va_runV (As := [.int xq6, .int xq4, .int xq3]) (rest := []) E.fix (c_X1_isAsReported (l := l) hA xq6 xq4 xq3 σ hc) (zcV E k4_206 k1_11 k4_203 k4_205 kp3_0 mf_X1_isAsReported rfl rfl ⟨Nat.le_of_ble_eq_true rfl, Nat.le_of_ble_eq_true rfl⟩) (zPreV E hw (Nat.le_of_ble_eq_true rfl) (ceC_24 ad cy _) rfl _) rfl rfl hl.1 rfl (lv_room (Nat.le_of_ble_eq_true rfl)) dX1_fits_23 ⟨Nat.zero_le _, Nat.zero_le _⟩) (fun H locs hw => ?_)
      refine lv_if_ne (tgt := 31) hx hb dX1_fits_26 (by decide) (fun h => ?_) (fun h => ?_)
      · replace hf := it_t (b2i_n h) hf
        refine lv_aload_n hx hb dX1_fits_31 rfl (lv_at hl 0 rfl) ?_
        refine zget E hw (Nat.le_of_ble_eq_true rfl) (ceC_24 ad cy _) rfl inX1 7 (by decide) k2_22 (fun _ h => h) rfl dX1_fits_32 ?_
        refine lv_iload hx hb dX1_fits_35 (lv_at hl 5 rfl) ?_
        obtain ⟨vq2, hvq2, hf⟩ := bd_e hf
        refine zaldr E hw (Nat.le_of_ble_eq_true rfl) (ceC_27 ad cy) hvq2 dX1_fits_37 ?_
        refine lv_iconst (v := 4) hx hb dX1_fits_38 (by decide) ?_
        refine zirem hx hb dX1_fits_39 (by decide) ?_
        refine lv_topi (fun vq3 evq3 => ?_)
        replace hf := lt_i evq3 hf
        refine lv_istore (lv' := [(7, .int vq3), (0, .ref (ad 24)), (1, .int xq1), (3, .int xq3), (4, .int xq4), (5, .int xq5), (6, .int xq6)]) hx hb dX1_fits_40 hl (by decide) rfl (fun ls hl => ?_)
        refine lv_aload_n hx hb dX1_fits_42 rfl (lv_at hl 1 rfl) ?_
        refine zget E hw (Nat.le_of_ble_eq_true rfl) (ceC_24 ad cy _) rfl inX1 0 (by decide) k2_8 (fun _ h => h) rfl dX1_fits_43 ?_
        refine lv_iload_n hx hb dX1_fits_46 rfl (lv_at hl 2 rfl) ?_
        obtain ⟨hiq4, hf⟩ := gd_e hf
        refine zaldq E hw (Nat.le_of_ble_eq_true rfl) 3 rfl rfl (ceC_2 ad cy _) hiq4 dX1_fits_47 ?_
        refine lv_aload_n hx hb dX1_fits_48 rfl (lv_at hl 1 rfl) ?_
        refine zget E hw (Nat.le_of_ble_eq_true rfl) (ceC_24 ad cy _) rfl inX1 7 (by decide) k2_22 (fun _ h => h) rfl dX1_fits_49 ?_
        refine lv_iload hx hb dX1_fits_52 (lv_at hl 6 rfl) ?_
        obtain ⟨vq5, hvq5, hf⟩ := bd_e hf
        refine zaldr E hw (Nat.le_of_ble_eq_true rfl) (ceC_27 ad cy) hvq5 dX1_fits_54 ?_
        refine lv_iconst (v := 4) hx hb dX1_fits_55 (by decide) ?_
        refine lv_idiv hx hb dX1_fits_56 (by decide) ?_
        refine lv_iload hx hb dX1_fits_57 (lv_at hl 6 rfl) ?_
        refine vs_X1_116 hA E hw hl.1 (Nat.le_of_ble_eq_true rfl) (Nat.le_of_ble_eq_true rfl) (Nat.le_of_ble_eq_true rfl) (nlt hiq4) rfl dX1_fits_59 (fun H locs hw => ?_)
        refine lv_topi (fun vq6 evq6 => ?_)
        replace hf := lt_i evq6 hf
        refine lv_istore (lv' := [(8, .int vq6), (7, .int vq3), (0, .ref (ad 24)), (1, .int xq1), (3, .int xq3), (4, .int xq4), (5, .int xq5), (6, .int xq6)]) hx hb dX1_fits_62 hl (by decide) rfl (fun ls hl => ?_)
        refine lv_iload hx hb dX1_fits_64 (lv_at hl 0 rfl) ?_
        refine lv_iload hx hb dX1_fits_66 (lv_at hl 6 rfl) ?_
        refine zmmin E hl.1 (E.ht _ k4_36) (E.ht _ k2_216) (E.ht _ k1_15) (E.ht _ k2_217) (Nat.le_of_ble_eq_true rfl) (Nat.le_of_ble_eq_true rfl) dX1_fits_68 ?_
        refine lv_iload hx hb dX1_fits_71 (lv_at hl 5 rfl) ?_
        refine lv_iload hx hb dX1_fits_73 (lv_at hl 1 rfl) ?_
        refine zcali hw (va_runSN (As := [.int xq4, .int vq3]) (rest := [.int (min32 vq6 xq5)]) E.fix (c_X11_room (l := l) hA xq4 vq3 σ rfl) (zcN E k4_39 k1_1 k4_37 k4_38 mf_X11_room rfl rfl ⟨Nat.le_of_ble_eq_true rfl, Nat.le_of_ble_eq_true rfl⟩) (zPre E hw _) rfl rfl hl.1 rfl (lv_room (Nat.le_of_ble_eq_true rfl)) dX1_fits_75 ⟨Nat.zero_le _, Nat.zero_le _⟩) (fun H locs hw => ?_)
        refine zmmin E hl.1 (E.ht _ k4_36) (E.ht _ k2_216) (E.ht _ k1_15) (E.ht _ k2_217) (Nat.le_of_ble_eq_true rfl) (Nat.le_of_ble_eq_true rfl) dX1_fits_78 ?_
        refine lv_topi (fun vq7 evq7 => ?_)
        replace hf := lt_i evq7 hf
        refine lv_istore (lv' := [(9, .int vq7), (8, .int vq6), (7, .int vq3), (0, .ref (ad 24)), (1, .int xq1), (3, .int xq3), (4, .int xq4), (5, .int xq5), (6, .int xq6)]) hx hb dX1_fits_81 hl (by decide) rfl (fun ls hl => ?_)
        refine lv_iload hx hb dX1_fits_83 (lv_at hl 6 rfl) ?_
        refine lv_iload hx hb dX1_fits_85 (lv_at hl 0 rfl) ?_
        refine lv_iload hx hb dX1_fits_87 (lv_at hl 2 rfl) ?_
        refine zcali hw (va_runSN (As := [.int vq3]) (rest := [.int vq7, .int xq4]) E.fix (c_X11_step (l := l) hA vq3 σ rfl) (zcN E k4_42 k1_1 k4_40 k4_41 mf_X11_step rfl rfl ⟨Nat.le_of_ble_eq_true rfl, Nat.le_of_ble_eq_true rfl⟩) (zPre E hw _) rfl rfl hl.1 rfl (lv_room (Nat.le_of_ble_eq_true rfl)) dX1_fits_89 ⟨Nat.zero_le _, Nat.zero_le _⟩) (fun H locs hw => ?_)
        refine lv_imul hx hb dX1_fits_92 ?_
        refine lv_iadd hx hb dX1_fits_93 ?_
        refine lv_topi (fun vq8 evq8 => ?_)
        replace hf := lt_i evq8 hf
        refine lv_istore (lv' := [(4, .int vq8), (9, .int vq7), (8, .int vq6), (7, .int vq3), (0, .ref (ad 24)), (1, .int xq1), (3, .int xq3), (5, .int xq5), (6, .int xq6)]) hx hb dX1_fits_94 hl (by decide) rfl (fun ls hl => ?_)
        refine lv_iload hx hb dX1_fits_96 (lv_at hl 7 rfl) ?_
        refine lv_iload hx hb dX1_fits_98 (lv_at hl 1 rfl) ?_
        refine lv_isub hx hb dX1_fits_100 ?_
        refine lv_topi (fun vq9 evq9 => ?_)
        replace hf := lt_i evq9 hf
        refine lv_istore (lv' := [(5, .int vq9), (4, .int vq8), (9, .int vq7), (8, .int vq6), (7, .int vq3), (0, .ref (ad 24)), (1, .int xq1), (3, .int xq3), (6, .int xq6)]) hx hb dX1_fits_101 hl (by decide) rfl (fun ls hl => ?_)
        refine lv_iinc (v := (xq6 + 1)) (lv' := [(6, .int (xq6 + 1)), (5, .int vq9), (4, .int vq8), (9, .int vq7), (8, .int vq6), (7, .int vq3), (0, .ref (ad 24)), (1, .int xq1), (3, .int xq3)]) hx hb dX1_fits_103 hl (k := 8) rfl (by rfl) (by decide) rfl (fun ls hl => ?_)
        refine lv_goto (tgt := 10) hx hb dX1_fits_106 (by decide) ?_
        exact hkq10 vq8 vq9 (xq6 + 1) _ _ _ hw (lv_sub hl [6, 7, 8, 2, 1, 0] rfl) hf
      · replace hf := it_f (b2i_0 h) hf
        refine lv_iconst (v := 0) hx hb dX1_fits_29 (by decide) ?_
        exact zretz E hw hr hlk (b_e (rt_1 hf) (by rfl)) rfl dX1_fits_30
  have hL10 : ∀ (xq1 : Int32) (xq3 : Int32) (n : Nat) (xq4 : Int32) (xq5 : Int32) (xq6 : Int32) (H : Heap) (locs : List Loc) (ls : Array Slot), ZS D 97 (celC ad cy) ad A s σ H locs → lv_has ls 10 [(0, .ref (ad 24)), (1, .int xq1), (3, .int xq3), (4, .int xq4), (5, .int xq5), (6, .int xq6)] → f_X1_fits_l10 xq1 xq3 σ n xq4 xq5 xq6 = some r → W p l e ({ frames := 3, cells := 0, slots := 0, locals := 66 } : Room) s m args below meth c H locs 0 0 (MQ below (zQi D 97 (celC ad cy) ad A (b2i r) σ) args s 0 0 A) (F0 m 10 ls []) := by
    intro xq1 xq3 n
    induction n with
    | zero =>
      intro xq4 xq5 xq6 H locs ls hw hl hf
      exact nn_e hf
    | succ n ih =>
      intro xq4 xq5 xq6 H locs ls hw hl hf
      exact hB10 xq1 xq3 (f_X1_fits_l10 xq1 xq3 σ n) ih xq4 xq5 xq6 H locs ls hw hl hf
  unfold f_X1_fits at hf
  refine lv_iload_n hx hb dX1_fits_0 rfl (lv_at hl 2 rfl) ?_
  refine lv_istore (lv' := [(4, .int xq2), (0, .ref (ad 24)), (1, .int xq1), (2, .int xq2), (3, .int xq3)]) hx hb dX1_fits_1 hl (by decide) rfl (fun ls hl => ?_)
  refine lv_bipush (v := 9) hx hb dX1_fits_3 (by decide) ?_
  refine lv_istore (lv' := [(5, .int 9), (4, .int xq2), (0, .ref (ad 24)), (1, .int xq1), (2, .int xq2), (3, .int xq3)]) hx hb dX1_fits_5 hl (by decide) rfl (fun ls hl => ?_)
  refine lv_iconst (v := 0) hx hb dX1_fits_7 (by decide) ?_
  refine lv_istore (lv' := [(6, .int 0), (5, .int 9), (4, .int xq2), (0, .ref (ad 24)), (1, .int xq1), (2, .int xq2), (3, .int xq3)]) hx hb dX1_fits_8 hl (by decide) rfl (fun ls hl => ?_)
  exact hL10 xq1 xq3 400 xq2 9 0 _ _ _ hw (lv_sub hl [3, 4, 6, 2, 1, 0] rfl) hf
set_option maxRecDepth 100000 in
set_option maxHeartbeats 4000000 in
theorem c_X1_firstFitting {l : Launch} {D : va_G} {cy : Cy} {ad : Nat → Nat} {A : Nat → Prop} (hA : okAd 97 ad A) (xq1 : Int32) (σ : Sg) {r : Int32} (hf : f_X1_firstFitting xq1 σ = some r) : Met l yX1_firstFitting (.code yX1_firstFitting cX1_firstFitting 4 (some .int) :: TT) ({ frames := 4, cells := 0, slots := 0, locals := 95 } : Room) (zPc D cy 97 (celC ad cy) ad A [.ref (ad 24), .int xq1] σ) (zQi D 97 (celC ad cy) ad A r σ) 0 0 A := by
  refine zofW (by decide) hA (Nat.le_of_ble_eq_true rfl) ?_
  intro p e s m args below meth c ls E hw hr hlk hl
  have E : ZE p s m args c cX1_firstFitting 4 "KiteSummons$County" D cy 97 ad A := E
  have hx := E.hx
  have hb := E.hb
  have hl : lv_has ls 4 [(0, .ref (ad 24)), (1, .int xq1)] := hl
  have hB9 : ∀ (xq1 : Int32) (xq2 : Int32) (kq2 : Int32 → Option Int32) (hkq2 : ∀ (xq2 : Int32) (H : Heap) (locs : List Loc) (ls : Array Slot), ZS D 97 (celC ad cy) ad A s σ H locs → lv_has ls 4 [(0, .ref (ad 24)), (1, .int xq1), (2, .int xq2)] → kq2 xq2 = some r → W p l e ({ frames := 4, cells := 0, slots := 0, locals := 95 } : Room) s m args below meth c H locs 0 0 (MQ below (zQi D 97 (celC ad cy) ad A r σ) args s 0 0 A) (F0 m 2 ls [])) (kq9 : Int32 → Option Int32) (hkq9 : ∀ (xq3 : Int32) (H : Heap) (locs : List Loc) (ls : Array Slot), ZS D 97 (celC ad cy) ad A s σ H locs → lv_has ls 4 [(0, .ref (ad 24)), (1, .int xq1), (2, .int xq2), (3, .int xq3)] → kq9 xq3 = some r → W p l e ({ frames := 4, cells := 0, slots := 0, locals := 95 } : Room) s m args below meth c H locs 0 0 (MQ below (zQi D 97 (celC ad cy) ad A r σ) args s 0 0 A) (F0 m 9 ls [])) (xq3 : Int32) (H : Heap) (locs : List Loc) (ls : Array Slot), ZS D 97 (celC ad cy) ad A s σ H locs → lv_has ls 4 [(0, .ref (ad 24)), (1, .int xq1), (2, .int xq2), (3, .int xq3)] → f_X1_firstFitting_b9 kq2 kq9 xq1 xq2 σ xq3 = some r → W p l e ({ frames := 4, cells := 0, slots := 0, locals := 95 } : Room) s m args below meth c H locs 0 0 (MQ below (zQi D 97 (celC ad cy) ad A r σ) args s 0 0 A) (F0 m 9 ls []) := by
    intro xq1 xq2 kq2 hkq2 kq9 hkq9 xq3 H locs ls hw hl hf
    unfold f_X1_firstFitting_b9 at hf
    refine lv_iload_n hx hb dX1_firstFitting_9 rfl (lv_at hl 3 rfl) ?_
    refine lv_bipush (v := 63) hx hb dX1_firstFitting_10 (by decide) ?_
    refine lv_icmp_gt (tgt := 38) hx hb dX1_firstFitting_12 (by decide) (fun h => ?_) (fun h => ?_)
    · replace hf := it_t h hf
      refine lv_iinc (v := (xq2 + 1)) (lv' := [(2, .int (xq2 + 1)), (0, .ref (ad 24)), (1, .int xq1), (3, .int xq3)]) hx hb dX1_firstFitting_38 hl (k := 2) rfl (by rfl) (by decide) rfl (fun ls hl => ?_)
      refine lv_goto (tgt := 2) hx hb dX1_firstFitting_41 (by decide) ?_
      exact hkq2 (xq2 + 1) _ _ _ hw (lv_sub hl [1, 2, 0] rfl) hf
    · replace hf := it_f h hf
      refine lv_aload_n hx hb dX1_firstFitting_15 rfl (lv_at hl 0 rfl) ?_
      refine lv_iload_n hx hb dX1_firstFitting_16 rfl (lv_at hl 2 rfl) ?_
      refine lv_iload_n hx hb dX1_firstFitting_17 rfl (lv_at hl 3 rfl) ?_
      refine lv_iload_n hx hb dX1_firstFitting_18 rfl (lv_at hl 1 rfl) ?_
      obtain ⟨vq1, hc, hf⟩ := bd_e hf
      refine zcali hw (va_runV (As := [.int xq2, .int xq3, .int xq1]) (rest := []) E.fix (c_X1_fits (l := l) hA xq2 xq3 xq1 σ hc) (zcV E k4_202 k1_11 k4_199 k4_201 kp2_15 mf_X1_fits rfl rfl ⟨Nat.le_of_ble_eq_true rfl, Nat.le_of_ble_eq_true rfl⟩) (zPreV E hw (Nat.le_of_ble_eq_true rfl) (ceC_24 ad cy _) rfl _) rfl rfl hl.1 rfl (lv_room (Nat.le_of_ble_eq_true rfl)) dX1_firstFitting_19 ⟨Nat.zero_le _, Nat.zero_le _⟩) (fun H locs hw => ?_)
      refine lv_if_eq (tgt := 32) hx hb dX1_firstFitting_22 (by decide) (fun h => ?_) (fun h => ?_)
      · replace hf := it_f (b2i_0 h) hf
        refine lv_iinc (v := (xq3 + 1)) (lv' := [(3, .int (xq3 + 1)), (0, .ref (ad 24)), (1, .int xq1), (2, .int xq2)]) hx hb dX1_firstFitting_32 hl (k := 3) rfl (by rfl) (by decide) rfl (fun ls hl => ?_)
        refine lv_goto (tgt := 9) hx hb dX1_firstFitting_35 (by decide) ?_
        exact hkq9 (xq3 + 1) _ _ _ hw (lv_sub hl [1, 2, 3, 0] rfl) hf
      · replace hf := it_t (b2i_n h) hf
        refine lv_iload_n hx hb dX1_firstFitting_25 rfl (lv_at hl 2 rfl) ?_
        refine lv_bipush (v := 64) hx hb dX1_firstFitting_26 (by decide) ?_
        refine lv_imul hx hb dX1_firstFitting_28 ?_
        refine lv_iload_n hx hb dX1_firstFitting_29 rfl (lv_at hl 3 rfl) ?_
        refine lv_iadd hx hb dX1_firstFitting_30 ?_
        exact zreti E hw hr hlk (rt_1 hf) rfl dX1_firstFitting_31
  have hL9 : ∀ (xq1 : Int32) (xq2 : Int32) (kq2 : Int32 → Option Int32) (hkq2 : ∀ (xq2 : Int32) (H : Heap) (locs : List Loc) (ls : Array Slot), ZS D 97 (celC ad cy) ad A s σ H locs → lv_has ls 4 [(0, .ref (ad 24)), (1, .int xq1), (2, .int xq2)] → kq2 xq2 = some r → W p l e ({ frames := 4, cells := 0, slots := 0, locals := 95 } : Room) s m args below meth c H locs 0 0 (MQ below (zQi D 97 (celC ad cy) ad A r σ) args s 0 0 A) (F0 m 2 ls [])) (n : Nat) (xq3 : Int32) (H : Heap) (locs : List Loc) (ls : Array Slot), ZS D 97 (celC ad cy) ad A s σ H locs → lv_has ls 4 [(0, .ref (ad 24)), (1, .int xq1), (2, .int xq2), (3, .int xq3)] → f_X1_firstFitting_l9 kq2 xq1 xq2 σ n xq3 = some r → W p l e ({ frames := 4, cells := 0, slots := 0, locals := 95 } : Room) s m args below meth c H locs 0 0 (MQ below (zQi D 97 (celC ad cy) ad A r σ) args s 0 0 A) (F0 m 9 ls []) := by
    intro xq1 xq2 kq2 hkq2 n
    induction n with
    | zero =>
      intro xq3 H locs ls hw hl hf
      exact nn_e hf
    | succ n ih =>
      intro xq3 H locs ls hw hl hf
      exact hB9 xq1 xq2 kq2 hkq2 (f_X1_firstFitting_l9 kq2 xq1 xq2 σ n) ih xq3 H locs ls hw hl hf
  have hB2 : ∀ (xq1 : Int32) (kq2 : Int32 → Option Int32) (hkq2 : ∀ (xq2 : Int32) (H : Heap) (locs : List Loc) (ls : Array Slot), ZS D 97 (celC ad cy) ad A s σ H locs → lv_has ls 4 [(0, .ref (ad 24)), (1, .int xq1), (2, .int xq2)] → kq2 xq2 = some r → W p l e ({ frames := 4, cells := 0, slots := 0, locals := 95 } : Room) s m args below meth c H locs 0 0 (MQ below (zQi D 97 (celC ad cy) ad A r σ) args s 0 0 A) (F0 m 2 ls [])) (xq2 : Int32) (H : Heap) (locs : List Loc) (ls : Array Slot), ZS D 97 (celC ad cy) ad A s σ H locs → lv_has ls 4 [(0, .ref (ad 24)), (1, .int xq1), (2, .int xq2)] → f_X1_firstFitting_b2 kq2 xq1 σ xq2 = some r → W p l e ({ frames := 4, cells := 0, slots := 0, locals := 95 } : Room) s m args below meth c H locs 0 0 (MQ below (zQi D 97 (celC ad cy) ad A r σ) args s 0 0 A) (F0 m 2 ls []) := by
    intro xq1 kq2 hkq2 xq2 H locs ls hw hl hf
    unfold f_X1_firstFitting_b2 at hf
    refine lv_iload_n hx hb dX1_firstFitting_2 rfl (lv_at hl 2 rfl) ?_
    refine lv_iconst (v := 5) hx hb dX1_firstFitting_3 (by decide) ?_
    refine lv_icmp_gt (tgt := 44) hx hb dX1_firstFitting_4 (by decide) (fun h => ?_) (fun h => ?_)
    · replace hf := it_t h hf
      refine lv_bipush (v := (-3)) hx hb dX1_firstFitting_44 (by decide) ?_
      exact zreti E hw hr hlk (rt_1 hf) rfl dX1_firstFitting_46
    · replace hf := it_f h hf
      refine lv_iconst (v := 0) hx hb dX1_firstFitting_7 (by decide) ?_
      refine lv_istore_n (lv' := [(3, .int 0), (0, .ref (ad 24)), (1, .int xq1), (2, .int xq2)]) hx hb dX1_firstFitting_8 rfl hl (by decide) rfl (fun ls hl => ?_)
      exact hL9 xq1 xq2 kq2 hkq2 400 0 _ _ _ hw (lv_sub hl [1, 2, 3, 0] rfl) hf
  have hL2 : ∀ (xq1 : Int32) (n : Nat) (xq2 : Int32) (H : Heap) (locs : List Loc) (ls : Array Slot), ZS D 97 (celC ad cy) ad A s σ H locs → lv_has ls 4 [(0, .ref (ad 24)), (1, .int xq1), (2, .int xq2)] → f_X1_firstFitting_l2 xq1 σ n xq2 = some r → W p l e ({ frames := 4, cells := 0, slots := 0, locals := 95 } : Room) s m args below meth c H locs 0 0 (MQ below (zQi D 97 (celC ad cy) ad A r σ) args s 0 0 A) (F0 m 2 ls []) := by
    intro xq1 n
    induction n with
    | zero =>
      intro xq2 H locs ls hw hl hf
      exact nn_e hf
    | succ n ih =>
      intro xq2 H locs ls hw hl hf
      exact hB2 xq1 (f_X1_firstFitting_l2 xq1 σ n) ih xq2 H locs ls hw hl hf
  unfold f_X1_firstFitting at hf
  refine lv_iconst (v := 1) hx hb dX1_firstFitting_0 (by decide) ?_
  refine lv_istore_n (lv' := [(2, .int 1), (0, .ref (ad 24)), (1, .int xq1)]) hx hb dX1_firstFitting_1 rfl hl (by decide) rfl (fun ls hl => ?_)
  exact hL2 xq1 400 1 _ _ _ hw (lv_sub hl [1, 2, 0] rfl) hf
set_option maxRecDepth 100000 in
set_option maxHeartbeats 4000000 in
theorem c_X1_countFitting {l : Launch} {D : va_G} {cy : Cy} {ad : Nat → Nat} {A : Nat → Prop} (hA : okAd 97 ad A) (σ : Sg) {r : Int32} (hf : f_X1_countFitting σ = some r) : Met l yX1_countFitting (.code yX1_countFitting cX1_countFitting 4 (some .int) :: TT) ({ frames := 4, cells := 0, slots := 0, locals := 95 } : Room) (zPc D cy 97 (celC ad cy) ad A [.ref (ad 24)] σ) (zQi D 97 (celC ad cy) ad A r σ) 0 0 A := by
  refine zofW (by decide) hA (Nat.le_of_ble_eq_true rfl) ?_
  intro p e s m args below meth c ls E hw hr hlk hl
  have E : ZE p s m args c cX1_countFitting 4 "KiteSummons$County" D cy 97 ad A := E
  have hx := E.hx
  have hb := E.hb
  have hl : lv_has ls 4 [(0, .ref (ad 24))] := hl
  have hB11 : ∀ (xq2 : Int32) (kq4 : Int32 → Int32 → Option Int32) (hkq4 : ∀ (xq1 : Int32) (xq2 : Int32) (H : Heap) (locs : List Loc) (ls : Array Slot), ZS D 97 (celC ad cy) ad A s σ H locs → lv_has ls 4 [(0, .ref (ad 24)), (1, .int xq1), (2, .int xq2)] → kq4 xq1 xq2 = some r → W p l e ({ frames := 4, cells := 0, slots := 0, locals := 95 } : Room) s m args below meth c H locs 0 0 (MQ below (zQi D 97 (celC ad cy) ad A r σ) args s 0 0 A) (F0 m 4 ls [])) (kq11 : Int32 → Int32 → Option Int32) (hkq11 : ∀ (xq1 : Int32) (xq3 : Int32) (H : Heap) (locs : List Loc) (ls : Array Slot), ZS D 97 (celC ad cy) ad A s σ H locs → lv_has ls 4 [(0, .ref (ad 24)), (1, .int xq1), (2, .int xq2), (3, .int xq3)] → kq11 xq1 xq3 = some r → W p l e ({ frames := 4, cells := 0, slots := 0, locals := 95 } : Room) s m args below meth c H locs 0 0 (MQ below (zQi D 97 (celC ad cy) ad A r σ) args s 0 0 A) (F0 m 11 ls [])) (xq1 : Int32) (xq3 : Int32) (H : Heap) (locs : List Loc) (ls : Array Slot), ZS D 97 (celC ad cy) ad A s σ H locs → lv_has ls 4 [(0, .ref (ad 24)), (1, .int xq1), (2, .int xq2), (3, .int xq3)] → f_X1_countFitting_b11 kq4 kq11 xq2 σ xq1 xq3 = some r → W p l e ({ frames := 4, cells := 0, slots := 0, locals := 95 } : Room) s m args below meth c H locs 0 0 (MQ below (zQi D 97 (celC ad cy) ad A r σ) args s 0 0 A) (F0 m 11 ls []) := by
    intro xq2 kq4 hkq4 kq11 hkq11 xq1 xq3 H locs ls hw hl hf
    unfold f_X1_countFitting_b11 at hf
    refine lv_iload_n hx hb dX1_countFitting_11 rfl (lv_at hl 3 rfl) ?_
    refine lv_bipush (v := 63) hx hb dX1_countFitting_12 (by decide) ?_
    refine lv_icmp_gt (tgt := 37) hx hb dX1_countFitting_14 (by decide) (fun h => ?_) (fun h => ?_)
    · replace hf := it_t h hf
      refine lv_iinc (v := (xq2 + 1)) (lv' := [(2, .int (xq2 + 1)), (0, .ref (ad 24)), (1, .int xq1), (3, .int xq3)]) hx hb dX1_countFitting_37 hl (k := 2) rfl (by rfl) (by decide) rfl (fun ls hl => ?_)
      refine lv_goto (tgt := 4) hx hb dX1_countFitting_40 (by decide) ?_
      exact hkq4 xq1 (xq2 + 1) _ _ _ hw (lv_sub hl [1, 2, 0] rfl) hf
    · replace hf := it_f h hf
      refine lv_aload_n hx hb dX1_countFitting_17 rfl (lv_at hl 0 rfl) ?_
      refine lv_iload_n hx hb dX1_countFitting_18 rfl (lv_at hl 2 rfl) ?_
      refine lv_iload_n hx hb dX1_countFitting_19 rfl (lv_at hl 3 rfl) ?_
      refine lv_bipush (v := (-3)) hx hb dX1_countFitting_20 (by decide) ?_
      obtain ⟨vq1, hc, hf⟩ := bd_e hf
      refine zcali hw (va_runV (As := [.int xq2, .int xq3, .int (-3)]) (rest := []) E.fix (c_X1_fits (l := l) hA xq2 xq3 (-3) σ hc) (zcV E k4_202 k1_11 k4_199 k4_201 kp2_15 mf_X1_fits rfl rfl ⟨Nat.le_of_ble_eq_true rfl, Nat.le_of_ble_eq_true rfl⟩) (zPreV E hw (Nat.le_of_ble_eq_true rfl) (ceC_24 ad cy _) rfl _) rfl rfl hl.1 rfl (lv_room (Nat.le_of_ble_eq_true rfl)) dX1_countFitting_22 ⟨Nat.zero_le _, Nat.zero_le _⟩) (fun H locs hw => ?_)
      refine lv_if_eq (tgt := 31) hx hb dX1_countFitting_25 (by decide) (fun h => ?_) (fun h => ?_)
      · replace hf := it_f (b2i_0 h) hf
        refine lv_iinc (v := (xq3 + 1)) (lv' := [(3, .int (xq3 + 1)), (0, .ref (ad 24)), (1, .int xq1), (2, .int xq2)]) hx hb dX1_countFitting_31 hl (k := 3) rfl (by rfl) (by decide) rfl (fun ls hl => ?_)
        refine lv_goto (tgt := 11) hx hb dX1_countFitting_34 (by decide) ?_
        exact hkq11 xq1 (xq3 + 1) _ _ _ hw (lv_sub hl [1, 2, 3, 0] rfl) hf
      · replace hf := it_t (b2i_n h) hf
        refine lv_iinc (v := (xq1 + 1)) (lv' := [(1, .int (xq1 + 1)), (0, .ref (ad 24)), (2, .int xq2), (3, .int xq3)]) hx hb dX1_countFitting_28 hl (k := 1) rfl (by rfl) (by decide) rfl (fun ls hl => ?_)
        refine lv_iinc (v := (xq3 + 1)) (lv' := [(3, .int (xq3 + 1)), (1, .int (xq1 + 1)), (0, .ref (ad 24)), (2, .int xq2)]) hx hb dX1_countFitting_31 hl (k := 3) rfl (by rfl) (by decide) rfl (fun ls hl => ?_)
        refine lv_goto (tgt := 11) hx hb dX1_countFitting_34 (by decide) ?_
        exact hkq11 (xq1 + 1) (xq3 + 1) _ _ _ hw (lv_sub hl [2, 1, 3, 0] rfl) hf
  have hL11 : ∀ (xq2 : Int32) (kq4 : Int32 → Int32 → Option Int32) (hkq4 : ∀ (xq1 : Int32) (xq2 : Int32) (H : Heap) (locs : List Loc) (ls : Array Slot), ZS D 97 (celC ad cy) ad A s σ H locs → lv_has ls 4 [(0, .ref (ad 24)), (1, .int xq1), (2, .int xq2)] → kq4 xq1 xq2 = some r → W p l e ({ frames := 4, cells := 0, slots := 0, locals := 95 } : Room) s m args below meth c H locs 0 0 (MQ below (zQi D 97 (celC ad cy) ad A r σ) args s 0 0 A) (F0 m 4 ls [])) (n : Nat) (xq1 : Int32) (xq3 : Int32) (H : Heap) (locs : List Loc) (ls : Array Slot), ZS D 97 (celC ad cy) ad A s σ H locs → lv_has ls 4 [(0, .ref (ad 24)), (1, .int xq1), (2, .int xq2), (3, .int xq3)] → f_X1_countFitting_l11 kq4 xq2 σ n xq1 xq3 = some r → W p l e ({ frames := 4, cells := 0, slots := 0, locals := 95 } : Room) s m args below meth c H locs 0 0 (MQ below (zQi D 97 (celC ad cy) ad A r σ) args s 0 0 A) (F0 m 11 ls []) := by
    intro xq2 kq4 hkq4 n
    induction n with
    | zero =>
      intro xq1 xq3 H locs ls hw hl hf
      exact nn_e hf
    | succ n ih =>
      intro xq1 xq3 H locs ls hw hl hf
      exact hB11 xq2 kq4 hkq4 (f_X1_countFitting_l11 kq4 xq2 σ n) ih xq1 xq3 H locs ls hw hl hf
  have hB4 : ∀ (kq4 : Int32 → Int32 → Option Int32) (hkq4 : ∀ (xq1 : Int32) (xq2 : Int32) (H : Heap) (locs : List Loc) (ls : Array Slot), ZS D 97 (celC ad cy) ad A s σ H locs → lv_has ls 4 [(0, .ref (ad 24)), (1, .int xq1), (2, .int xq2)] → kq4 xq1 xq2 = some r → W p l e ({ frames := 4, cells := 0, slots := 0, locals := 95 } : Room) s m args below meth c H locs 0 0 (MQ below (zQi D 97 (celC ad cy) ad A r σ) args s 0 0 A) (F0 m 4 ls [])) (xq1 : Int32) (xq2 : Int32) (H : Heap) (locs : List Loc) (ls : Array Slot), ZS D 97 (celC ad cy) ad A s σ H locs → lv_has ls 4 [(0, .ref (ad 24)), (1, .int xq1), (2, .int xq2)] → f_X1_countFitting_b4 kq4 σ xq1 xq2 = some r → W p l e ({ frames := 4, cells := 0, slots := 0, locals := 95 } : Room) s m args below meth c H locs 0 0 (MQ below (zQi D 97 (celC ad cy) ad A r σ) args s 0 0 A) (F0 m 4 ls []) := by
    intro kq4 hkq4 xq1 xq2 H locs ls hw hl hf
    unfold f_X1_countFitting_b4 at hf
    refine lv_iload_n hx hb dX1_countFitting_4 rfl (lv_at hl 2 rfl) ?_
    refine lv_iconst (v := 5) hx hb dX1_countFitting_5 (by decide) ?_
    refine lv_icmp_gt (tgt := 43) hx hb dX1_countFitting_6 (by decide) (fun h => ?_) (fun h => ?_)
    · replace hf := it_t h hf
      refine lv_iload_n hx hb dX1_countFitting_43 rfl (lv_at hl 1 rfl) ?_
      exact zreti E hw hr hlk (rt_1 hf) rfl dX1_countFitting_44
    · replace hf := it_f h hf
      refine lv_iconst (v := 0) hx hb dX1_countFitting_9 (by decide) ?_
      refine lv_istore_n (lv' := [(3, .int 0), (0, .ref (ad 24)), (1, .int xq1), (2, .int xq2)]) hx hb dX1_countFitting_10 rfl hl (by decide) rfl (fun ls hl => ?_)
      exact hL11 xq2 kq4 hkq4 400 xq1 0 _ _ _ hw (lv_sub hl [1, 2, 3, 0] rfl) hf
  have hL4 : ∀ (n : Nat) (xq1 : Int32) (xq2 : Int32) (H : Heap) (locs : List Loc) (ls : Array Slot), ZS D 97 (celC ad cy) ad A s σ H locs → lv_has ls 4 [(0, .ref (ad 24)), (1, .int xq1), (2, .int xq2)] → f_X1_countFitting_l4 σ n xq1 xq2 = some r → W p l e ({ frames := 4, cells := 0, slots := 0, locals := 95 } : Room) s m args below meth c H locs 0 0 (MQ below (zQi D 97 (celC ad cy) ad A r σ) args s 0 0 A) (F0 m 4 ls []) := by
    intro n
    induction n with
    | zero =>
      intro xq1 xq2 H locs ls hw hl hf
      exact nn_e hf
    | succ n ih =>
      intro xq1 xq2 H locs ls hw hl hf
      exact hB4 (f_X1_countFitting_l4 σ n) ih xq1 xq2 H locs ls hw hl hf
  unfold f_X1_countFitting at hf
  refine lv_iconst (v := 0) hx hb dX1_countFitting_0 (by decide) ?_
  refine lv_istore_n (lv' := [(1, .int 0), (0, .ref (ad 24))]) hx hb dX1_countFitting_1 rfl hl (by decide) rfl (fun ls hl => ?_)
  refine lv_iconst (v := 1) hx hb dX1_countFitting_2 (by decide) ?_
  refine lv_istore_n (lv' := [(2, .int 1), (1, .int 0), (0, .ref (ad 24))]) hx hb dX1_countFitting_3 rfl hl (by decide) rfl (fun ls hl => ?_)
  exact hL4 400 0 1 _ _ _ hw (lv_sub hl [2, 1, 0] rfl) hf
set_option maxRecDepth 100000 in
set_option maxHeartbeats 4000000 in
theorem c_X11_span {l : Launch} {D : va_G} {cy : Cy} {ad : Nat → Nat} {A : Nat → Prop} (hA : okAd 97 ad A) (xq1 : Int32) (σ : Sg) {r : Int32} (hf : f_X11_span xq1 σ = some r) : Met l yX11_span (.code yX11_span cX11_span 3 (some .int) :: TT) ({ frames := 5, cells := 0, slots := 0, locals := 118 } : Room) (zPc D cy 97 (celC ad cy) ad A [.ref (ad 0), .int xq1] σ) (zQi D 97 (celC ad cy) ad A r σ) 0 0 A := by
  refine zofW (by decide) hA (Nat.le_of_ble_eq_true rfl) ?_
  intro p e s m args below meth c ls E hw hr hlk hl
  have E : ZE p s m args c cX11_span 3 "KiteSummons" D cy 97 ad A := E
  have hx := E.hx
  have hb := E.hb
  have hl : lv_has ls 3 [(0, .ref (ad 0)), (1, .int xq1)] := hl
  unfold f_X11_span at hf
  refine lv_iload_n hx hb dX11_span_0 rfl (lv_at hl 1 rfl) ?_
  refine lv_iconst (v := 0) hx hb dX11_span_1 (by decide) ?_
  refine lv_iconst (v := 2) hx hb dX11_span_2 (by decide) ?_
  refine zcali hw (va_runS (As := [.int xq1, .int 0, .int 2]) (rest := []) E.fix (c_X11_within (l := l) hA xq1 0 2 σ rfl) (zcS E k2_179 k1_1 k2_177 k2_178 mf_X11_within rfl rfl ⟨Nat.le_of_ble_eq_true rfl, Nat.le_of_ble_eq_true rfl⟩) (zPre E hw _) rfl rfl hl.1 rfl (lv_room (Nat.le_of_ble_eq_true rfl)) dX11_span_3 ⟨Nat.zero_le _, Nat.zero_le _⟩) (fun H locs hw => ?_)
  refine lv_if_ne (tgt := 11) hx hb dX11_span_6 (by decide) (fun h => ?_) (fun h => ?_)
  · replace hf := it_t (b2i_n h) hf
    refine lv_iload_n hx hb dX11_span_11 rfl (lv_at hl 1 rfl) ?_
    refine lv_if_ne (tgt := 23) hx hb dX11_span_12 (by decide) (fun h => ?_) (fun h => ?_)
    · replace hf := it_t h hf
      refine lv_aload_n hx hb dX11_span_23 rfl (lv_at hl 0 rfl) ?_
      refine zget E hw (Nat.le_of_ble_eq_true rfl) (ceC_0 ad cy _) rfl inX11 2 (by decide) k2_123 (fun _ h => h) rfl dX11_span_24 ?_
      refine lv_bipush (v := (-3)) hx hb dX11_span_27 (by decide) ?_
      obtain ⟨vq1, hc, hf⟩ := bd_e hf
      refine zcali hw (va_runV (As := [.int (-3)]) (rest := []) E.fix (c_X1_firstFitting (l := l) hA (-3) σ hc) (zcV E k4_210 k1_11 k4_207 k4_208 k4_209 mf_X1_firstFitting rfl rfl ⟨Nat.le_of_ble_eq_true rfl, Nat.le_of_ble_eq_true rfl⟩) (zPreV E hw (Nat.le_of_ble_eq_true rfl) (ceC_24 ad cy _) rfl _) rfl rfl hl.1 rfl (lv_room (Nat.le_of_ble_eq_true rfl)) dX11_span_29 ⟨Nat.zero_le _, Nat.zero_le _⟩) (fun H locs hw => ?_)
      refine lv_istore_n (lv' := [(2, .int vq1), (0, .ref (ad 0)), (1, .int xq1)]) hx hb dX11_span_32 rfl hl (by decide) rfl (fun ls hl => ?_)
      refine lv_iload_n hx hb dX11_span_33 rfl (lv_at hl 0 rfl) ?_
      refine lv_bipush (v := (-3)) hx hb dX11_span_34 (by decide) ?_
      refine lv_icmp_ne (tgt := 42) hx hb dX11_span_36 (by decide) (fun h => ?_) (fun h => ?_)
      · replace hf := it_t h hf
        refine lv_iload_n hx hb dX11_span_42 rfl (lv_at hl 2 rfl) ?_
        refine lv_iconst (v := 1) hx hb dX11_span_43 (by decide) ?_
        refine lv_icmp_ne (tgt := 54) hx hb dX11_span_44 (by decide) (fun h => ?_) (fun h => ?_)
        · replace hf := it_t h hf
          refine lv_iload_n hx hb dX11_span_54 rfl (lv_at hl 0 rfl) ?_
          refine lv_bipush (v := 64) hx hb dX11_span_55 (by decide) ?_
          refine zirem hx hb dX11_span_57 (by decide) ?_
          exact zreti E hw hr hlk (rt_1 hf) rfl dX11_span_58
        · replace hf := it_n h hf
          refine lv_iload_n hx hb dX11_span_47 rfl (lv_at hl 0 rfl) ?_
          refine lv_bipush (v := 64) hx hb dX11_span_48 (by decide) ?_
          refine lv_idiv hx hb dX11_span_50 (by decide) ?_
          refine lv_goto (tgt := 58) hx hb dX11_span_51 (by decide) ?_
          exact zreti E hw hr hlk (rt_1 hf) rfl dX11_span_58
      · replace hf := it_n h hf
        refine lv_bipush (v := (-3)) hx hb dX11_span_39 (by decide) ?_
        exact zreti E hw hr hlk (rt_1 hf) rfl dX11_span_41
    · replace hf := it_n h hf
      refine lv_aload_n hx hb dX11_span_15 rfl (lv_at hl 0 rfl) ?_
      refine zget E hw (Nat.le_of_ble_eq_true rfl) (ceC_0 ad cy _) rfl inX11 2 (by decide) k2_123 (fun _ h => h) rfl dX11_span_16 ?_
      obtain ⟨vq2, hc, hf⟩ := bd_e hf
      refine zcali hw (va_runV (As := []) (rest := []) E.fix (c_X1_countFitting (l := l) hA σ hc) (zcV E k4_198 k1_11 k4_195 k4_196 k4_197 mf_X1_countFitting rfl rfl ⟨Nat.le_of_ble_eq_true rfl, Nat.le_of_ble_eq_true rfl⟩) (zPreV E hw (Nat.le_of_ble_eq_true rfl) (ceC_24 ad cy _) rfl _) rfl rfl hl.1 rfl (lv_room (Nat.le_of_ble_eq_true rfl)) dX11_span_19 ⟨Nat.zero_le _, Nat.zero_le _⟩) (fun H locs hw => ?_)
      exact zreti E hw hr hlk (rt_1 hf) rfl dX11_span_22
  · replace hf := it_f (b2i_0 h) hf
    refine lv_iconst (v := (-1)) hx hb dX11_span_9 (by decide) ?_
    exact zreti E hw hr hlk (rt_1 hf) rfl dX11_span_10
