set_option maxRecDepth 100000 in
set_option maxHeartbeats 4000000 in
theorem c_X12_isSoBy {l : Launch} {D : va_G} {cy : Cy} {ad : Nat → Nat} {A : Nat → Prop} (hA : okAd 17 ad A) (xq1 : Int32) (xq2 : Int32) (xq3 : Int32) (σ : Sg) {r : Bool} (hf : f_X12_isSoBy xq1 xq2 xq3 σ = some r) : Met l yX12_isSoBy (.code yX12_isSoBy cX12_isSoBy 11 (some .boolean) :: TT) ({ frames := 1, cells := 0, slots := 0, locals := 25 } : Room) (zPc D cy 17 (celM ad cy) ad A [.ref (ad 0), .int xq1, .int xq2, .int xq3] σ) (zQi D 17 (celM ad cy) ad A (b2i r) σ) 0 0 A := by
  refine zofW (by decide) hA (Nat.le_of_ble_eq_true rfl) ?_
  intro p e s m args below meth c ls E hw hr hlk hl
  have E : ZE p s m args c cX12_isSoBy 11 "KiteSummonsModel" D cy 17 ad A := E
  have hx := E.hx
  have hb := E.hb
  have hl : lv_has ls 11 [(0, .ref (ad 0)), (1, .int xq1), (2, .int xq2), (3, .int xq3)] := hl
  have hB82 : ∀ (xq2 : Int32) (xq4 : Int32) (xq5 : Int32) (xq6 : Int32) (xq7 : Int32) (xq8 : Int32) (tq0 : Int32) (tq1 : Int32) (tq2 : Int32) (kq18 : Int32 → Int32 → Int32 → Option Bool) (hkq18 : ∀ (xq5 : Int32) (xq6 : Int32) (xq7 : Int32) (H : Heap) (locs : List Loc) (ls : Array Slot), ZS D 17 (celM ad cy) ad A s σ H locs → lv_has ls 11 [(0, .ref (ad 0)), (2, .int xq2), (4, .int xq4), (5, .int xq5), (6, .int xq6), (7, .int xq7)] → kq18 xq5 xq6 xq7 = some r → W p l e ({ frames := 1, cells := 0, slots := 0, locals := 25 } : Room) s m args below meth c H locs 0 0 (MQ below (zQi D 17 (celM ad cy) ad A (b2i r) σ) args s 0 0 A) (F0 m 18 ls [])) (H : Heap) (locs : List Loc) (ls : Array Slot), ZS D 17 (celM ad cy) ad A s σ H locs → lv_has ls 11 [(0, .ref (ad 0)), (2, .int xq2), (4, .int xq4), (5, .int xq5), (6, .int xq6), (7, .int xq7), (8, .int xq8)] → f_X12_isSoBy_b82 kq18 xq2 xq4 xq5 xq6 xq7 xq8 tq0 tq1 tq2 σ = some r → W p l e ({ frames := 1, cells := 0, slots := 0, locals := 25 } : Room) s m args below meth c H locs 0 0 (MQ below (zQi D 17 (celM ad cy) ad A (b2i r) σ) args s 0 0 A) (F0 m 82 ls [.int tq2, .int tq1, .int tq0]) := by
    intro xq2 xq4 xq5 xq6 xq7 xq8 tq0 tq1 tq2 kq18 hkq18 H locs ls hw hl hf
    unfold f_X12_isSoBy_b82 at hf
    refine zcali hw (va_runS (As := [.int tq0, .int tq1, .int tq2]) (rest := []) E.fix (c_X12_room (l := l) hA tq0 tq1 tq2 σ rfl) (zcS E k7_9 k1_14 k7_7 k7_8 mf_X12_room rfl rfl ⟨Nat.le_of_ble_eq_true rfl, Nat.le_of_ble_eq_true rfl⟩) (zPre E hw _) rfl rfl hl.1 rfl (lv_room (Nat.le_of_ble_eq_true rfl)) dX12_isSoBy_82 ⟨Nat.zero_le _, Nat.zero_le _⟩) (fun H locs hw => ?_)
    refine lv_topi (fun vq10 evq10 => ?_)
    replace hf := lt_i evq10 hf
    refine lv_istore (lv' := [(10, .int vq10), (0, .ref (ad 0)), (2, .int xq2), (4, .int xq4), (5, .int xq5), (6, .int xq6), (7, .int xq7), (8, .int xq8)]) hx hb dX12_isSoBy_85 hl (by decide) rfl (fun ls hl => ?_)
    refine lv_iload hx hb dX12_isSoBy_87 (lv_at hl 4 rfl) ?_
    refine lv_iload hx hb dX12_isSoBy_89 (lv_at hl 7 rfl) ?_
    refine lv_iload hx hb dX12_isSoBy_91 (lv_at hl 0 rfl) ?_
    refine zcali hw (va_runS (As := [.int xq5, .int xq8, .int vq10]) (rest := []) E.fix (c_X12_moved (l := l) hA xq5 xq8 vq10 σ rfl) (zcS E k7_12 k1_14 k7_10 k7_11 mf_X12_moved rfl rfl ⟨Nat.le_of_ble_eq_true rfl, Nat.le_of_ble_eq_true rfl⟩) (zPre E hw _) rfl rfl hl.1 rfl (lv_room (Nat.le_of_ble_eq_true rfl)) dX12_isSoBy_93 ⟨Nat.zero_le _, Nat.zero_le _⟩) (fun H locs hw => ?_)
    refine lv_topi (fun vq11 evq11 => ?_)
    replace hf := lt_i evq11 hf
    refine lv_istore (lv' := [(5, .int vq11), (10, .int vq10), (0, .ref (ad 0)), (2, .int xq2), (4, .int xq4), (6, .int xq6), (7, .int xq7), (8, .int xq8)]) hx hb dX12_isSoBy_96 hl (by decide) rfl (fun ls hl => ?_)
    refine lv_iload hx hb dX12_isSoBy_98 (lv_at hl 5 rfl) ?_
    refine lv_iload hx hb dX12_isSoBy_100 (lv_at hl 1 rfl) ?_
    refine lv_isub hx hb dX12_isSoBy_102 ?_
    refine lv_topi (fun vq12 evq12 => ?_)
    replace hf := lt_i evq12 hf
    refine lv_istore (lv' := [(6, .int vq12), (5, .int vq11), (10, .int vq10), (0, .ref (ad 0)), (2, .int xq2), (4, .int xq4), (7, .int xq7), (8, .int xq8)]) hx hb dX12_isSoBy_103 hl (by decide) rfl (fun ls hl => ?_)
    refine lv_iinc (v := (xq7 + 1)) (lv' := [(7, .int (xq7 + 1)), (6, .int vq12), (5, .int vq11), (10, .int vq10), (0, .ref (ad 0)), (2, .int xq2), (4, .int xq4), (8, .int xq8)]) hx hb dX12_isSoBy_105 hl (k := 6) rfl (by rfl) (by decide) rfl (fun ls hl => ?_)
    refine lv_goto (tgt := 18) hx hb dX12_isSoBy_108 (by decide) ?_
    exact hkq18 vq11 vq12 (xq7 + 1) _ _ _ hw (lv_sub hl [4, 5, 6, 2, 1, 0] rfl) hf
  have hB138 : ∀ (xq4 : Int32) (tq0 : Int64) (H : Heap) (locs : List Loc) (ls : Array Slot), ZS D 17 (celM ad cy) ad A s σ H locs → lv_has ls 11 [(0, .ref (ad 0)), (4, .int xq4)] → f_X12_isSoBy_b138 xq4 tq0 σ = some r → W p l e ({ frames := 1, cells := 0, slots := 0, locals := 25 } : Room) s m args below meth c H locs 0 0 (MQ below (zQi D 17 (celM ad cy) ad A (b2i r) σ) args s 0 0 A) (F0 m 138 ls [.long tq0]) := by
    intro xq4 tq0 H locs ls hw hl hf
    unfold f_X12_isSoBy_b138 at hf
    refine lv_aload_n hx hb dX12_isSoBy_138 rfl (lv_at hl 0 rfl) ?_
    refine zget E hw (Nat.le_of_ble_eq_true rfl) (ceM_0 ad cy _) rfl inX12 0 (by decide) k5_223 (fun _ h => h) rfl dX12_isSoBy_139 ?_
    refine lv_iload hx hb dX12_isSoBy_142 (lv_at hl 1 rfl) ?_
    refine lv_iconst (v := 2) hx hb dX12_isSoBy_144 (by decide) ?_
    refine lv_iadd hx hb dX12_isSoBy_145 ?_
    obtain ⟨vq8, hvq8, hf⟩ := bd_e hf
    refine zaldr E hw (Nat.le_of_ble_eq_true rfl) (ceM_1 ad cy) hvq8 dX12_isSoBy_146 ?_
    refine lv_i2l hx hb dX12_isSoBy_147 rfl ?_
    refine lv_aload_n hx hb dX12_isSoBy_148 rfl (lv_at hl 0 rfl) ?_
    refine zget E hw (Nat.le_of_ble_eq_true rfl) (ceM_0 ad cy _) rfl inX12 0 (by decide) k5_223 (fun _ h => h) rfl dX12_isSoBy_149 ?_
    refine lv_iload hx hb dX12_isSoBy_152 (lv_at hl 1 rfl) ?_
    refine lv_iconst (v := 3) hx hb dX12_isSoBy_154 (by decide) ?_
    refine lv_iadd hx hb dX12_isSoBy_155 ?_
    obtain ⟨vq9, hvq9, hf⟩ := bd_e hf
    refine zaldr E hw (Nat.le_of_ble_eq_true rfl) (ceM_1 ad cy) hvq9 dX12_isSoBy_156 ?_
    refine lv_i2l hx hb dX12_isSoBy_157 rfl ?_
    refine zcali hw (va_runS (As := [.long tq0, .long vq8.toInt64, .long vq9.toInt64]) (rest := []) E.fix (c_X12_in (l := l) hA tq0 vq8.toInt64 vq9.toInt64 σ rfl) (zcS E k6_114 k1_14 k6_112 k6_113 mf_X12_in rfl rfl ⟨Nat.le_of_ble_eq_true rfl, Nat.le_of_ble_eq_true rfl⟩) (zPre E hw _) rfl rfl hl.1 rfl (lv_room (Nat.le_of_ble_eq_true rfl)) dX12_isSoBy_158 ⟨Nat.zero_le _, Nat.zero_le _⟩) (fun H locs hw => ?_)
    exact zretz E hw hr hlk (b_e (rt_1 hf) (by rfl)) rfl dX12_isSoBy_161
  have hB18 : ∀ (xq2 : Int32) (xq4 : Int32) (kq18 : Int32 → Int32 → Int32 → Option Bool) (hkq18 : ∀ (xq5 : Int32) (xq6 : Int32) (xq7 : Int32) (H : Heap) (locs : List Loc) (ls : Array Slot), ZS D 17 (celM ad cy) ad A s σ H locs → lv_has ls 11 [(0, .ref (ad 0)), (2, .int xq2), (4, .int xq4), (5, .int xq5), (6, .int xq6), (7, .int xq7)] → kq18 xq5 xq6 xq7 = some r → W p l e ({ frames := 1, cells := 0, slots := 0, locals := 25 } : Room) s m args below meth c H locs 0 0 (MQ below (zQi D 17 (celM ad cy) ad A (b2i r) σ) args s 0 0 A) (F0 m 18 ls [])) (xq5 : Int32) (xq6 : Int32) (xq7 : Int32) (H : Heap) (locs : List Loc) (ls : Array Slot), ZS D 17 (celM ad cy) ad A s σ H locs → lv_has ls 11 [(0, .ref (ad 0)), (2, .int xq2), (4, .int xq4), (5, .int xq5), (6, .int xq6), (7, .int xq7)] → f_X12_isSoBy_b18 kq18 xq2 xq4 σ xq5 xq6 xq7 = some r → W p l e ({ frames := 1, cells := 0, slots := 0, locals := 25 } : Room) s m args below meth c H locs 0 0 (MQ below (zQi D 17 (celM ad cy) ad A (b2i r) σ) args s 0 0 A) (F0 m 18 ls []) := by
    intro xq2 xq4 kq18 hkq18 xq5 xq6 xq7 H locs ls hw hl hf
    unfold f_X12_isSoBy_b18 at hf
    refine lv_iload hx hb dX12_isSoBy_18 (lv_at hl 5 rfl) ?_
    refine lv_aload_n hx hb dX12_isSoBy_20 rfl (lv_at hl 0 rfl) ?_
    refine zget E hw (Nat.le_of_ble_eq_true rfl) (ceM_0 ad cy _) rfl inX12 0 (by decide) k5_223 (fun _ h => h) rfl dX12_isSoBy_21 ?_
    refine lv_iload hx hb dX12_isSoBy_24 (lv_at hl 2 rfl) ?_
    obtain ⟨vq2, hvq2, hf⟩ := bd_e hf
    refine zaldr E hw (Nat.le_of_ble_eq_true rfl) (ceM_1 ad cy) hvq2 dX12_isSoBy_26 ?_
    refine lv_icmp_ge (tgt := 111) hx hb dX12_isSoBy_27 (by decide) (fun h => ?_) (fun h => ?_)
    · replace hf := it_t h hf
      refine lv_aload_n hx hb dX12_isSoBy_111 rfl (lv_at hl 0 rfl) ?_
      refine zget E hw (Nat.le_of_ble_eq_true rfl) (ceM_0 ad cy _) rfl inX12 0 (by decide) k5_223 (fun _ h => h) rfl dX12_isSoBy_112 ?_
      refine lv_iload hx hb dX12_isSoBy_115 (lv_at hl 2 rfl) ?_
      refine lv_iconst (v := 1) hx hb dX12_isSoBy_117 (by decide) ?_
      refine lv_iadd hx hb dX12_isSoBy_118 ?_
      obtain ⟨vq3, hvq3, hf⟩ := bd_e hf
      refine zaldr E hw (Nat.le_of_ble_eq_true rfl) (ceM_1 ad cy) hvq3 dX12_isSoBy_119 ?_
      refine lv_if_ne (tgt := 132) hx hb dX12_isSoBy_120 (by decide) (fun h => ?_) (fun h => ?_)
      · replace hf := it_t h hf
        refine lv_iload hx hb dX12_isSoBy_132 (lv_at hl 3 rfl) ?_
        refine lv_bipush (v := 8) hx hb dX12_isSoBy_134 (by decide) ?_
        refine lv_idiv hx hb dX12_isSoBy_136 (by decide) ?_
        refine lv_i2l hx hb dX12_isSoBy_137 rfl ?_
        exact hB138 xq4 ((xq5 / 8).toInt64) _ _ _ hw (lv_sub hl [0, 2] rfl) hf
      · replace hf := it_n h hf
        refine lv_iload hx hb dX12_isSoBy_123 (lv_at hl 3 rfl) ?_
        refine lv_bipush (v := 8) hx hb dX12_isSoBy_125 (by decide) ?_
        refine zirem hx hb dX12_isSoBy_127 (by decide) ?_
        refine lv_i2l hx hb dX12_isSoBy_128 rfl ?_
        refine lv_goto (tgt := 138) hx hb dX12_isSoBy_129 (by decide) ?_
        exact hB138 xq4 ((rem32 xq5 8).toInt64) _ _ _ hw (lv_sub hl [0, 2] rfl) hf
    · replace hf := it_f h hf
      refine lv_aload_n hx hb dX12_isSoBy_30 rfl (lv_at hl 0 rfl) ?_
      refine zget E hw (Nat.le_of_ble_eq_true rfl) (ceM_0 ad cy _) rfl inX12 0 (by decide) k5_223 (fun _ h => h) rfl dX12_isSoBy_31 ?_
      refine lv_bipush (v := 7) hx hb dX12_isSoBy_34 (by decide) ?_
      refine lv_iload hx hb dX12_isSoBy_36 (lv_at hl 5 rfl) ?_
      refine lv_iadd hx hb dX12_isSoBy_38 ?_
      obtain ⟨vq4, hvq4, hf⟩ := bd_e hf
      refine zaldr E hw (Nat.le_of_ble_eq_true rfl) (ceM_1 ad cy) hvq4 dX12_isSoBy_39 ?_
      refine lv_iconst (v := 4) hx hb dX12_isSoBy_40 (by decide) ?_
      refine zirem hx hb dX12_isSoBy_41 (by decide) ?_
      refine lv_topi (fun vq5 evq5 => ?_)
      replace hf := lt_i evq5 hf
      refine lv_istore (lv' := [(8, .int vq5), (0, .ref (ad 0)), (2, .int xq2), (4, .int xq4), (5, .int xq5), (6, .int xq6), (7, .int xq7)]) hx hb dX12_isSoBy_42 hl (by decide) rfl (fun ls hl => ?_)
      refine lv_iload_n hx hb dX12_isSoBy_44 rfl (lv_at hl 2 rfl) ?_
      refine lv_aload_n hx hb dX12_isSoBy_45 rfl (lv_at hl 1 rfl) ?_
      refine zget E hw (Nat.le_of_ble_eq_true rfl) (ceM_0 ad cy _) rfl inX12 0 (by decide) k5_223 (fun _ h => h) rfl dX12_isSoBy_46 ?_
      refine lv_bipush (v := 7) hx hb dX12_isSoBy_49 (by decide) ?_
      refine lv_iload hx hb dX12_isSoBy_51 (lv_at hl 6 rfl) ?_
      refine lv_iadd hx hb dX12_isSoBy_53 ?_
      obtain ⟨vq6, hvq6, hf⟩ := bd_e hf
      refine zaldr E hw (Nat.le_of_ble_eq_true rfl) (ceM_1 ad cy) hvq6 dX12_isSoBy_54 ?_
      refine lv_iconst (v := 4) hx hb dX12_isSoBy_55 (by decide) ?_
      refine lv_idiv hx hb dX12_isSoBy_56 (by decide) ?_
      refine lv_iload hx hb dX12_isSoBy_57 (lv_at hl 6 rfl) ?_
      refine zcali hw (va_runS (As := [.int xq2, .int (vq6 / 4), .int xq7]) (rest := []) E.fix (c_X12_driftOf (l := l) hA xq2 (vq6 / 4) xq7 σ rfl) (zcS E k6_152 k1_14 k6_150 k6_151 mf_X12_driftOf rfl rfl ⟨Nat.le_of_ble_eq_true rfl, Nat.le_of_ble_eq_true rfl⟩) (zPre E hw _) rfl rfl hl.1 rfl (lv_room (Nat.le_of_ble_eq_true rfl)) dX12_isSoBy_59 ⟨Nat.zero_le _, Nat.zero_le _⟩) (fun H locs hw => ?_)
      refine lv_topi (fun vq7 evq7 => ?_)
      replace hf := lt_i evq7 hf
      refine lv_istore (lv' := [(9, .int vq7), (8, .int vq5), (0, .ref (ad 0)), (2, .int xq2), (4, .int xq4), (5, .int xq5), (6, .int xq6), (7, .int xq7)]) hx hb dX12_isSoBy_62 hl (by decide) rfl (fun ls hl => ?_)
      refine lv_iload hx hb dX12_isSoBy_64 (lv_at hl 5 rfl) ?_
      refine lv_iload hx hb dX12_isSoBy_66 (lv_at hl 1 rfl) ?_
      refine lv_iload hx hb dX12_isSoBy_68 (lv_at hl 0 rfl) ?_
      refine lv_iload hx hb dX12_isSoBy_70 (lv_at hl 6 rfl) ?_
      refine lv_icmp_ge (tgt := 80) hx hb dX12_isSoBy_72 (by decide) (fun h => ?_) (fun h => ?_)
      · replace hf := it_t h hf
        refine lv_iload hx hb dX12_isSoBy_80 (lv_at hl 6 rfl) ?_
        exact hB82 xq2 xq4 xq5 xq6 xq7 vq5 xq5 vq5 xq6 kq18 hkq18 _ _ _ hw (lv_sub hl [2, 3, 4, 5, 6, 7, 1] rfl) hf
      · replace hf := it_f h hf
        refine lv_iload hx hb dX12_isSoBy_75 (lv_at hl 0 rfl) ?_
        refine lv_goto (tgt := 82) hx hb dX12_isSoBy_77 (by decide) ?_
        exact hB82 xq2 xq4 xq5 xq6 xq7 vq5 xq5 vq5 vq7 kq18 hkq18 _ _ _ hw (lv_sub hl [2, 3, 4, 5, 6, 7, 1] rfl) hf
  have hL18 : ∀ (xq2 : Int32) (xq4 : Int32) (n : Nat) (xq5 : Int32) (xq6 : Int32) (xq7 : Int32) (H : Heap) (locs : List Loc) (ls : Array Slot), ZS D 17 (celM ad cy) ad A s σ H locs → lv_has ls 11 [(0, .ref (ad 0)), (2, .int xq2), (4, .int xq4), (5, .int xq5), (6, .int xq6), (7, .int xq7)] → f_X12_isSoBy_l18 xq2 xq4 σ n xq5 xq6 xq7 = some r → W p l e ({ frames := 1, cells := 0, slots := 0, locals := 25 } : Room) s m args below meth c H locs 0 0 (MQ below (zQi D 17 (celM ad cy) ad A (b2i r) σ) args s 0 0 A) (F0 m 18 ls []) := by
    intro xq2 xq4 n
    induction n with
    | zero =>
      intro xq5 xq6 xq7 H locs ls hw hl hf
      exact nn_e hf
    | succ n ih =>
      intro xq5 xq6 xq7 H locs ls hw hl hf
      exact hB18 xq2 xq4 (f_X12_isSoBy_l18 xq2 xq4 σ n) ih xq5 xq6 xq7 H locs ls hw hl hf
  unfold f_X12_isSoBy at hf
  refine lv_bipush (v := 71) hx hb dX12_isSoBy_0 (by decide) ?_
  refine lv_iconst (v := 4) hx hb dX12_isSoBy_2 (by decide) ?_
  refine lv_iload_n hx hb dX12_isSoBy_3 rfl (lv_at hl 1 rfl) ?_
  refine lv_imul hx hb dX12_isSoBy_4 ?_
  refine lv_iadd hx hb dX12_isSoBy_5 ?_
  refine lv_topi (fun vq1 evq1 => ?_)
  replace hf := lt_i evq1 hf
  refine lv_istore (lv' := [(4, .int vq1), (0, .ref (ad 0)), (1, .int xq1), (2, .int xq2), (3, .int xq3)]) hx hb dX12_isSoBy_6 hl (by decide) rfl (fun ls hl => ?_)
  refine lv_iload_n hx hb dX12_isSoBy_8 rfl (lv_at hl 4 rfl) ?_
  refine lv_istore (lv' := [(5, .int xq3), (4, .int vq1), (0, .ref (ad 0)), (1, .int xq1), (2, .int xq2), (3, .int xq3)]) hx hb dX12_isSoBy_9 hl (by decide) rfl (fun ls hl => ?_)
  refine lv_bipush (v := 9) hx hb dX12_isSoBy_11 (by decide) ?_
  refine lv_istore (lv' := [(6, .int 9), (5, .int xq3), (4, .int vq1), (0, .ref (ad 0)), (1, .int xq1), (2, .int xq2), (3, .int xq3)]) hx hb dX12_isSoBy_13 hl (by decide) rfl (fun ls hl => ?_)
  refine lv_iconst (v := 0) hx hb dX12_isSoBy_15 (by decide) ?_
  refine lv_istore (lv' := [(7, .int 0), (6, .int 9), (5, .int xq3), (4, .int vq1), (0, .ref (ad 0)), (1, .int xq1), (2, .int xq2), (3, .int xq3)]) hx hb dX12_isSoBy_16 hl (by decide) rfl (fun ls hl => ?_)
  exact hL18 xq2 vq1 400 xq3 9 0 _ _ _ hw (lv_sub hl [4, 6, 3, 2, 1, 0] rfl) hf
set_option maxRecDepth 100000 in
set_option maxHeartbeats 4000000 in
theorem c_X12_isFit {l : Launch} {D : va_G} {cy : Cy} {ad : Nat → Nat} {A : Nat → Prop} (hA : okAd 17 ad A) (xq1 : Int32) (xq2 : Int32) (xq3 : Int32) (σ : Sg) {r : Bool} (hf : f_X12_isFit xq1 xq2 xq3 σ = some r) : Met l yX12_isFit (.code yX12_isFit cX12_isFit 6 (some .boolean) :: TT) ({ frames := 2, cells := 0, slots := 0, locals := 55 } : Room) (zPc D cy 17 (celM ad cy) ad A [.ref (ad 0), .int xq1, .int xq2, .int xq3] σ) (zQi D 17 (celM ad cy) ad A (b2i r) σ) 0 0 A := by
  refine zofW (by decide) hA (Nat.le_of_ble_eq_true rfl) ?_
  intro p e s m args below meth c ls E hw hr hlk hl
  have E : ZE p s m args c cX12_isFit 6 "KiteSummonsModel" D cy 17 ad A := E
  have hx := E.hx
  have hb := E.hb
  have hl : lv_has ls 6 [(0, .ref (ad 0)), (1, .int xq1), (2, .int xq2), (3, .int xq3)] := hl
  have hB6 : ∀ (xq1 : Int32) (xq2 : Int32) (xq3 : Int32) (kq6 : Int32 → Int32 → Option Bool) (hkq6 : ∀ (xq4 : Int32) (xq5 : Int32) (H : Heap) (locs : List Loc) (ls : Array Slot), ZS D 17 (celM ad cy) ad A s σ H locs → lv_has ls 6 [(0, .ref (ad 0)), (1, .int xq1), (2, .int xq2), (3, .int xq3), (4, .int xq4), (5, .int xq5)] → kq6 xq4 xq5 = some r → W p l e ({ frames := 2, cells := 0, slots := 0, locals := 55 } : Room) s m args below meth c H locs 0 0 (MQ below (zQi D 17 (celM ad cy) ad A (b2i r) σ) args s 0 0 A) (F0 m 6 ls [])) (xq4 : Int32) (xq5 : Int32) (H : Heap) (locs : List Loc) (ls : Array Slot), ZS D 17 (celM ad cy) ad A s σ H locs → lv_has ls 6 [(0, .ref (ad 0)), (1, .int xq1), (2, .int xq2), (3, .int xq3), (4, .int xq4), (5, .int xq5)] → f_X12_isFit_b6 kq6 xq1 xq2 xq3 σ xq4 xq5 = some r → W p l e ({ frames := 2, cells := 0, slots := 0, locals := 55 } : Room) s m args below meth c H locs 0 0 (MQ below (zQi D 17 (celM ad cy) ad A (b2i r) σ) args s 0 0 A) (F0 m 6 ls []) := by
    intro xq1 xq2 xq3 kq6 hkq6 xq4 xq5 H locs ls hw hl hf
    unfold f_X12_isFit_b6 at hf
    refine lv_iload hx hb dX12_isFit_6 (lv_at hl 5 rfl) ?_
    refine lv_aload_n hx hb dX12_isFit_8 rfl (lv_at hl 0 rfl) ?_
    refine zget E hw (Nat.le_of_ble_eq_true rfl) (ceM_0 ad cy _) rfl inX12 0 (by decide) k5_223 (fun _ h => h) rfl dX12_isFit_9 ?_
    refine lv_iconst (v := 5) hx hb dX12_isFit_12 (by decide) ?_
    refine zaldk E hw (Nat.le_of_ble_eq_true rfl) (ceM_1 ad cy) 5 (by rfl) (Nat.le_of_ble_eq_true rfl) (by decide) dX12_isFit_13 ?_
    refine lv_icmp_ge (tgt := 52) hx hb dX12_isFit_14 (by decide) (fun h => ?_) (fun h => ?_)
    · replace hf := it_t h hf
      refine lv_iload hx hb dX12_isFit_52 (lv_at hl 4 rfl) ?_
      rcases z01_e hf with ⟨hz, hf⟩ | ⟨hz, hf⟩
      · exact zretz E hw hr hlk (z_b hz (rt_1 hf) (by rfl)) rfl dX12_isFit_54
      · exact zretz E hw hr hlk (z_b hz (rt_1 hf) (by rfl)) rfl dX12_isFit_54
    · replace hf := it_f h hf
      refine lv_iload hx hb dX12_isFit_17 (lv_at hl 4 rfl) ?_
      refine lv_if_eq (tgt := 52) hx hb dX12_isFit_19 (by decide) (fun h => ?_) (fun h => ?_)
      · replace hf := it_t h hf
        refine lv_iload hx hb dX12_isFit_52 (lv_at hl 4 rfl) ?_
        rcases z01_e hf with ⟨hz, hf⟩ | ⟨hz, hf⟩
        · exact zretz E hw hr hlk (z_b hz (rt_1 hf) (by rfl)) rfl dX12_isFit_54
        · exact zretz E hw hr hlk (z_b hz (rt_1 hf) (by rfl)) rfl dX12_isFit_54
      · replace hf := it_f h hf
        refine lv_iload hx hb dX12_isFit_22 (lv_at hl 5 rfl) ?_
        refine lv_iload_n hx hb dX12_isFit_24 rfl (lv_at hl 3 rfl) ?_
        refine lv_icmp_eq (tgt := 39) hx hb dX12_isFit_25 (by decide) (fun h => ?_) (fun h => ?_)
        · replace hf := it_t h hf
          refine lv_iconst (v := 1) hx hb dX12_isFit_39 (by decide) ?_
          refine lv_goto (tgt := 44) hx hb dX12_isFit_40 (by decide) ?_
          refine lv_istore (lv' := [(4, .int 1), (0, .ref (ad 0)), (1, .int xq1), (2, .int xq2), (3, .int xq3), (5, .int xq5)]) hx hb dX12_isFit_44 hl (by decide) rfl (fun ls hl => ?_)
          refine lv_iinc (v := (xq5 + 1)) (lv' := [(5, .int (xq5 + 1)), (4, .int 1), (0, .ref (ad 0)), (1, .int xq1), (2, .int xq2), (3, .int xq3)]) hx hb dX12_isFit_46 hl (k := 5) rfl (by rfl) (by decide) rfl (fun ls hl => ?_)
          refine lv_goto (tgt := 6) hx hb dX12_isFit_49 (by decide) ?_
          exact hkq6 1 (xq5 + 1) _ _ _ hw (lv_sub hl [2, 3, 4, 5, 1, 0] rfl) hf
        · replace hf := it_f h hf
          refine lv_aload_n hx hb dX12_isFit_28 rfl (lv_at hl 0 rfl) ?_
          refine lv_iload hx hb dX12_isFit_29 (lv_at hl 5 rfl) ?_
          refine lv_iload_n hx hb dX12_isFit_31 rfl (lv_at hl 1 rfl) ?_
          refine lv_iload_n hx hb dX12_isFit_32 rfl (lv_at hl 2 rfl) ?_
          obtain ⟨vq1, hc, hf⟩ := bd_e hf
          refine zcali hw (va_runV (As := [.int xq5, .int xq1, .int xq2]) (rest := []) E.fix (c_X12_isSoBy (l := l) hA xq5 xq1 xq2 σ hc) (zcV E k7_170 k1_14 k7_167 k7_169 kp5_9 mf_X12_isSoBy rfl rfl ⟨Nat.le_of_ble_eq_true rfl, Nat.le_of_ble_eq_true rfl⟩) (zPreV E hw (Nat.le_of_ble_eq_true rfl) (ceM_0 ad cy _) rfl _) rfl rfl hl.1 rfl (lv_room (Nat.le_of_ble_eq_true rfl)) dX12_isFit_33 ⟨Nat.zero_le _, Nat.zero_le _⟩) (fun H locs hw => ?_)
          refine lv_if_eq (tgt := 43) hx hb dX12_isFit_36 (by decide) (fun h => ?_) (fun h => ?_)
          · replace hf := it_f (b2i_0 h) hf
            refine lv_iconst (v := 0) hx hb dX12_isFit_43 (by decide) ?_
            refine lv_istore (lv' := [(4, .int 0), (0, .ref (ad 0)), (1, .int xq1), (2, .int xq2), (3, .int xq3), (5, .int xq5)]) hx hb dX12_isFit_44 hl (by decide) rfl (fun ls hl => ?_)
            refine lv_iinc (v := (xq5 + 1)) (lv' := [(5, .int (xq5 + 1)), (4, .int 0), (0, .ref (ad 0)), (1, .int xq1), (2, .int xq2), (3, .int xq3)]) hx hb dX12_isFit_46 hl (k := 5) rfl (by rfl) (by decide) rfl (fun ls hl => ?_)
            refine lv_goto (tgt := 6) hx hb dX12_isFit_49 (by decide) ?_
            exact hkq6 0 (xq5 + 1) _ _ _ hw (lv_sub hl [2, 3, 4, 5, 1, 0] rfl) hf
          · replace hf := it_t (b2i_n h) hf
            refine lv_iconst (v := 1) hx hb dX12_isFit_39 (by decide) ?_
            refine lv_goto (tgt := 44) hx hb dX12_isFit_40 (by decide) ?_
            refine lv_istore (lv' := [(4, .int 1), (0, .ref (ad 0)), (1, .int xq1), (2, .int xq2), (3, .int xq3), (5, .int xq5)]) hx hb dX12_isFit_44 hl (by decide) rfl (fun ls hl => ?_)
            refine lv_iinc (v := (xq5 + 1)) (lv' := [(5, .int (xq5 + 1)), (4, .int 1), (0, .ref (ad 0)), (1, .int xq1), (2, .int xq2), (3, .int xq3)]) hx hb dX12_isFit_46 hl (k := 5) rfl (by rfl) (by decide) rfl (fun ls hl => ?_)
            refine lv_goto (tgt := 6) hx hb dX12_isFit_49 (by decide) ?_
            exact hkq6 1 (xq5 + 1) _ _ _ hw (lv_sub hl [2, 3, 4, 5, 1, 0] rfl) hf
  have hL6 : ∀ (xq1 : Int32) (xq2 : Int32) (xq3 : Int32) (n : Nat) (xq4 : Int32) (xq5 : Int32) (H : Heap) (locs : List Loc) (ls : Array Slot), ZS D 17 (celM ad cy) ad A s σ H locs → lv_has ls 6 [(0, .ref (ad 0)), (1, .int xq1), (2, .int xq2), (3, .int xq3), (4, .int xq4), (5, .int xq5)] → f_X12_isFit_l6 xq1 xq2 xq3 σ n xq4 xq5 = some r → W p l e ({ frames := 2, cells := 0, slots := 0, locals := 55 } : Room) s m args below meth c H locs 0 0 (MQ below (zQi D 17 (celM ad cy) ad A (b2i r) σ) args s 0 0 A) (F0 m 6 ls []) := by
    intro xq1 xq2 xq3 n
    induction n with
    | zero =>
      intro xq4 xq5 H locs ls hw hl hf
      exact nn_e hf
    | succ n ih =>
      intro xq4 xq5 H locs ls hw hl hf
      exact hB6 xq1 xq2 xq3 (f_X12_isFit_l6 xq1 xq2 xq3 σ n) ih xq4 xq5 H locs ls hw hl hf
  unfold f_X12_isFit at hf
  refine lv_iconst (v := 1) hx hb dX12_isFit_0 (by decide) ?_
  refine lv_istore (lv' := [(4, .int 1), (0, .ref (ad 0)), (1, .int xq1), (2, .int xq2), (3, .int xq3)]) hx hb dX12_isFit_1 hl (by decide) rfl (fun ls hl => ?_)
  refine lv_iconst (v := 0) hx hb dX12_isFit_3 (by decide) ?_
  refine lv_istore (lv' := [(5, .int 0), (4, .int 1), (0, .ref (ad 0)), (1, .int xq1), (2, .int xq2), (3, .int xq3)]) hx hb dX12_isFit_4 hl (by decide) rfl (fun ls hl => ?_)
  exact hL6 xq1 xq2 xq3 400 1 0 _ _ _ hw (lv_sub hl [2, 3, 4, 5, 1, 0] rfl) hf
set_option maxRecDepth 100000 in
set_option maxHeartbeats 4000000 in
theorem c_X12_findFits {l : Launch} {D : va_G} {cy : Cy} {ad : Nat → Nat} {A : Nat → Prop} (hA : okAd 17 ad A) (xq1 : Int32) (σ : Sg) {σ9 : Sg} (hf : f_X12_findFits xq1 σ = some σ9) : Met l yX12_findFits (.code yX12_findFits cX12_findFits 5 none :: TT) ({ frames := 3, cells := 0, slots := 0, locals := 80 } : Room) (zPc D cy 17 (celM ad cy) ad A [.ref (ad 0), .int xq1] σ) (zQv D 17 (celM ad cy) ad A σ9) 0 0 A := by
  refine zofW (by decide) hA (Nat.le_of_ble_eq_true rfl) ?_
  intro p e s m args below meth c ls E hw hr hlk hl
  have E : ZE p s m args c cX12_findFits 5 "KiteSummonsModel" D cy 17 ad A := E
  have hx := E.hx
  have hb := E.hb
  have hl : lv_has ls 5 [(0, .ref (ad 0)), (1, .int xq1)] := hl
  have hB74 : ∀ (xq1 : Int32) (xq2 : Int32) (tq1 : Int32) (kq7 : Int32 → Sg → Option Sg) (hkq7 : ∀ (xq2 : Int32) (σ : Sg) (H : Heap) (locs : List Loc) (ls : Array Slot), ZS D 17 (celM ad cy) ad A s σ H locs → lv_has ls 5 [(0, .ref (ad 0)), (1, .int xq1), (2, .int xq2)] → kq7 xq2 σ = some σ9 → W p l e ({ frames := 3, cells := 0, slots := 0, locals := 80 } : Room) s m args below meth c H locs 0 0 (MQ below (zQv D 17 (celM ad cy) ad A σ9) args s 0 0 A) (F0 m 7 ls [])) (σ : Sg) (H : Heap) (locs : List Loc) (ls : Array Slot), ZS D 17 (celM ad cy) ad A s σ H locs → lv_has ls 5 [(0, .ref (ad 0)), (1, .int xq1), (2, .int xq2)] → f_X12_findFits_b74 kq7 xq1 xq2 tq1 σ = some σ9 → W p l e ({ frames := 3, cells := 0, slots := 0, locals := 80 } : Room) s m args below meth c H locs 0 0 (MQ below (zQv D 17 (celM ad cy) ad A σ9) args s 0 0 A) (F0 m 74 ls [.int tq1, .ref (ad 0)]) := by
    intro xq1 xq2 tq1 kq7 hkq7 σ H locs ls hw hl hf
    unfold f_X12_findFits_b74 at hf
    refine zputs E hw (Nat.le_of_ble_eq_true rfl) (ceM_0 ad cy _) rfl inX12 tyX12 tyX12_ok nmX12 17 (by decide) k6_0 (fun _ h => h) rfl rfl rfl (Nat.le_of_ble_eq_true rfl) (j := 17) (Eq.trans (ceM_0 ad cy _) (by rfl)) dX12_findFits_74 (fun σ6 eσ6 H locs hw => ?_)
    replace hf := lt_i eσ6 hf
    refine lv_aload_n hx hb dX12_findFits_77 rfl (lv_at hl 0 rfl) ?_
    refine lv_dup hx hb dX12_findFits_78 rfl ?_
    refine zget E hw (Nat.le_of_ble_eq_true rfl) (ceM_0 ad cy _) rfl inX12 15 (by decide) k5_238 (fun _ h => h) rfl dX12_findFits_79 ?_
    refine lv_iconst (v := 1) hx hb dX12_findFits_82 (by decide) ?_
    refine lv_iadd hx hb dX12_findFits_83 ?_
    refine zputs E hw (Nat.le_of_ble_eq_true rfl) (ceM_0 ad cy _) rfl inX12 tyX12 tyX12_ok nmX12 15 (by decide) k5_238 (fun _ h => h) rfl rfl rfl (Nat.le_of_ble_eq_true rfl) (j := 15) (Eq.trans (ceM_0 ad cy _) (by rfl)) dX12_findFits_84 (fun σ7 eσ7 H locs hw => ?_)
    replace hf := lt_i eσ7 hf
    refine lv_iinc (v := (xq2 + 1)) (lv' := [(2, .int (xq2 + 1)), (0, .ref (ad 0)), (1, .int xq1)]) hx hb dX12_findFits_87 hl (k := 2) rfl (by rfl) (by decide) rfl (fun ls hl => ?_)
    refine lv_goto (tgt := 7) hx hb dX12_findFits_90 (by decide) ?_
    exact hkq7 (xq2 + 1) σ7 _ _ _ hw (lv_sub hl [1, 2, 0] rfl) hf
  have hB54 : ∀ (xq1 : Int32) (xq2 : Int32) (xq4 : Int32) (tq1 : Int32) (kq7 : Int32 → Sg → Option Sg) (hkq7 : ∀ (xq2 : Int32) (σ : Sg) (H : Heap) (locs : List Loc) (ls : Array Slot), ZS D 17 (celM ad cy) ad A s σ H locs → lv_has ls 5 [(0, .ref (ad 0)), (1, .int xq1), (2, .int xq2)] → kq7 xq2 σ = some σ9 → W p l e ({ frames := 3, cells := 0, slots := 0, locals := 80 } : Room) s m args below meth c H locs 0 0 (MQ below (zQv D 17 (celM ad cy) ad A σ9) args s 0 0 A) (F0 m 7 ls [])) (σ : Sg) (H : Heap) (locs : List Loc) (ls : Array Slot), ZS D 17 (celM ad cy) ad A s σ H locs → lv_has ls 5 [(0, .ref (ad 0)), (1, .int xq1), (2, .int xq2), (4, .int xq4)] → f_X12_findFits_b54 kq7 xq1 xq2 xq4 tq1 σ = some σ9 → W p l e ({ frames := 3, cells := 0, slots := 0, locals := 80 } : Room) s m args below meth c H locs 0 0 (MQ below (zQv D 17 (celM ad cy) ad A σ9) args s 0 0 A) (F0 m 54 ls [.int tq1, .ref (ad 0)]) := by
    intro xq1 xq2 xq4 tq1 kq7 hkq7 σ H locs ls hw hl hf
    unfold f_X12_findFits_b54 at hf
    refine zputs E hw (Nat.le_of_ble_eq_true rfl) (ceM_0 ad cy _) rfl inX12 tyX12 tyX12_ok nmX12 16 (by decide) k5_239 (fun _ h => h) rfl rfl rfl (Nat.le_of_ble_eq_true rfl) (j := 16) (Eq.trans (ceM_0 ad cy _) (by rfl)) dX12_findFits_54 (fun σ5 eσ5 H locs hw => ?_)
    replace hf := lt_i eσ5 hf
    refine lv_aload_n hx hb dX12_findFits_57 rfl (lv_at hl 0 rfl) ?_
    refine lv_aload_n hx hb dX12_findFits_58 rfl (lv_at hl 0 rfl) ?_
    refine zget E hw (Nat.le_of_ble_eq_true rfl) (ceM_0 ad cy _) rfl inX12 15 (by decide) k5_238 (fun _ h => h) rfl dX12_findFits_59 ?_
    refine lv_if_ne (tgt := 70) hx hb dX12_findFits_62 (by decide) (fun h => ?_) (fun h => ?_)
    · replace hf := it_t h hf
      refine lv_aload_n hx hb dX12_findFits_70 rfl (lv_at hl 0 rfl) ?_
      refine zget E hw (Nat.le_of_ble_eq_true rfl) (ceM_0 ad cy _) rfl inX12 17 (by decide) k6_0 (fun _ h => h) rfl dX12_findFits_71 ?_
      exact hB74 xq1 xq2 (σ5 0 17) kq7 hkq7 σ5 _ _ _ hw (lv_sub hl [0, 1, 2] rfl) hf
    · replace hf := it_n h hf
      refine lv_iload hx hb dX12_findFits_65 (lv_at hl 3 rfl) ?_
      refine lv_goto (tgt := 74) hx hb dX12_findFits_67 (by decide) ?_
      exact hB74 xq1 xq2 xq4 kq7 hkq7 σ5 _ _ _ hw (lv_sub hl [0, 1, 2] rfl) hf
  have hB7 : ∀ (xq1 : Int32) (kq7 : Int32 → Sg → Option Sg) (hkq7 : ∀ (xq2 : Int32) (σ : Sg) (H : Heap) (locs : List Loc) (ls : Array Slot), ZS D 17 (celM ad cy) ad A s σ H locs → lv_has ls 5 [(0, .ref (ad 0)), (1, .int xq1), (2, .int xq2)] → kq7 xq2 σ = some σ9 → W p l e ({ frames := 3, cells := 0, slots := 0, locals := 80 } : Room) s m args below meth c H locs 0 0 (MQ below (zQv D 17 (celM ad cy) ad A σ9) args s 0 0 A) (F0 m 7 ls [])) (xq2 : Int32) (σ : Sg) (H : Heap) (locs : List Loc) (ls : Array Slot), ZS D 17 (celM ad cy) ad A s σ H locs → lv_has ls 5 [(0, .ref (ad 0)), (1, .int xq1), (2, .int xq2)] → f_X12_findFits_b7 kq7 xq1 xq2 σ = some σ9 → W p l e ({ frames := 3, cells := 0, slots := 0, locals := 80 } : Room) s m args below meth c H locs 0 0 (MQ below (zQv D 17 (celM ad cy) ad A σ9) args s 0 0 A) (F0 m 7 ls []) := by
    intro xq1 kq7 hkq7 xq2 σ H locs ls hw hl hf
    unfold f_X12_findFits_b7 at hf
    refine lv_iload_n hx hb dX12_findFits_7 rfl (lv_at hl 2 rfl) ?_
    refine lv_sipush (v := 320) hx hb dX12_findFits_8 (by decide) ?_
    refine lv_icmp_ge (tgt := 93) hx hb dX12_findFits_11 (by decide) (fun h => ?_) (fun h => ?_)
    · replace hf := it_t h hf
      exact zretv E hw hr hlk (rt_1 hf) dX12_findFits_93
    · replace hf := it_f h hf
      refine lv_iconst (v := 1) hx hb dX12_findFits_14 (by decide) ?_
      refine lv_iload_n hx hb dX12_findFits_15 rfl (lv_at hl 2 rfl) ?_
      refine lv_bipush (v := 64) hx hb dX12_findFits_16 (by decide) ?_
      refine lv_idiv hx hb dX12_findFits_18 (by decide) ?_
      refine lv_iadd hx hb dX12_findFits_19 ?_
      refine lv_topi (fun vq2 evq2 => ?_)
      replace hf := lt_i evq2 hf
      refine lv_istore_n (lv' := [(3, .int vq2), (0, .ref (ad 0)), (1, .int xq1), (2, .int xq2)]) hx hb dX12_findFits_20 rfl hl (by decide) rfl (fun ls hl => ?_)
      refine lv_iload_n hx hb dX12_findFits_21 rfl (lv_at hl 3 rfl) ?_
      refine lv_bipush (v := 64) hx hb dX12_findFits_22 (by decide) ?_
      refine zirem hx hb dX12_findFits_24 (by decide) ?_
      refine lv_topi (fun vq3 evq3 => ?_)
      replace hf := lt_i evq3 hf
      refine lv_istore (lv' := [(4, .int vq3), (3, .int vq2), (0, .ref (ad 0)), (1, .int xq1), (2, .int xq2)]) hx hb dX12_findFits_25 hl (by decide) rfl (fun ls hl => ?_)
      refine lv_aload_n hx hb dX12_findFits_27 rfl (lv_at hl 2 rfl) ?_
      refine lv_iload_n hx hb dX12_findFits_28 rfl (lv_at hl 1 rfl) ?_
      refine lv_iload hx hb dX12_findFits_29 (lv_at hl 0 rfl) ?_
      refine lv_iload_n hx hb dX12_findFits_31 rfl (lv_at hl 3 rfl) ?_
      obtain ⟨vq4, hc, hf⟩ := bd_e hf
      refine zcali hw (va_runV (As := [.int vq2, .int vq3, .int xq1]) (rest := []) E.fix (c_X12_isFit (l := l) hA vq2 vq3 xq1 σ hc) (zcV E k7_166 k1_14 k7_163 k7_165 kp5_8 mf_X12_isFit rfl rfl ⟨Nat.le_of_ble_eq_true rfl, Nat.le_of_ble_eq_true rfl⟩) (zPreV E hw (Nat.le_of_ble_eq_true rfl) (ceM_0 ad cy _) rfl _) rfl rfl hl.1 rfl (lv_room (Nat.le_of_ble_eq_true rfl)) dX12_findFits_32 ⟨Nat.zero_le _, Nat.zero_le _⟩) (fun H locs hw => ?_)
      refine lv_if_eq (tgt := 87) hx hb dX12_findFits_35 (by decide) (fun h => ?_) (fun h => ?_)
      · replace hf := it_f (b2i_0 h) hf
        refine lv_iinc (v := (xq2 + 1)) (lv' := [(2, .int (xq2 + 1)), (4, .int vq3), (3, .int vq2), (0, .ref (ad 0)), (1, .int xq1)]) hx hb dX12_findFits_87 hl (k := 4) rfl (by rfl) (by decide) rfl (fun ls hl => ?_)
        refine lv_goto (tgt := 7) hx hb dX12_findFits_90 (by decide) ?_
        exact hkq7 (xq2 + 1) σ _ _ _ hw (lv_sub hl [3, 4, 0] rfl) hf
      · replace hf := it_t (b2i_n h) hf
        refine lv_aload_n hx hb dX12_findFits_38 rfl (lv_at hl 2 rfl) ?_
        refine lv_aload_n hx hb dX12_findFits_39 rfl (lv_at hl 2 rfl) ?_
        refine zget E hw (Nat.le_of_ble_eq_true rfl) (ceM_0 ad cy _) rfl inX12 15 (by decide) k5_238 (fun _ h => h) rfl dX12_findFits_40 ?_
        refine lv_if_ne (tgt := 50) hx hb dX12_findFits_43 (by decide) (fun h => ?_) (fun h => ?_)
        · replace hf := it_t h hf
          refine lv_aload_n hx hb dX12_findFits_50 rfl (lv_at hl 2 rfl) ?_
          refine zget E hw (Nat.le_of_ble_eq_true rfl) (ceM_0 ad cy _) rfl inX12 16 (by decide) k5_239 (fun _ h => h) rfl dX12_findFits_51 ?_
          exact hB54 xq1 xq2 vq3 (σ 0 16) kq7 hkq7 σ _ _ _ hw (lv_sub hl [2, 3, 4, 0] rfl) hf
        · replace hf := it_n h hf
          refine lv_iload_n hx hb dX12_findFits_46 rfl (lv_at hl 1 rfl) ?_
          refine lv_goto (tgt := 54) hx hb dX12_findFits_47 (by decide) ?_
          exact hB54 xq1 xq2 vq3 vq2 kq7 hkq7 σ _ _ _ hw (lv_sub hl [2, 3, 4, 0] rfl) hf
  have hL7 : ∀ (xq1 : Int32) (n : Nat) (xq2 : Int32) (σ : Sg) (H : Heap) (locs : List Loc) (ls : Array Slot), ZS D 17 (celM ad cy) ad A s σ H locs → lv_has ls 5 [(0, .ref (ad 0)), (1, .int xq1), (2, .int xq2)] → f_X12_findFits_l7 xq1 n xq2 σ = some σ9 → W p l e ({ frames := 3, cells := 0, slots := 0, locals := 80 } : Room) s m args below meth c H locs 0 0 (MQ below (zQv D 17 (celM ad cy) ad A σ9) args s 0 0 A) (F0 m 7 ls []) := by
    intro xq1 n
    induction n with
    | zero =>
      intro xq2 σ H locs ls hw hl hf
      exact nn_e hf
    | succ n ih =>
      intro xq2 σ H locs ls hw hl hf
      exact hB7 xq1 (f_X12_findFits_l7 xq1 n) ih xq2 σ H locs ls hw hl hf
  unfold f_X12_findFits at hf
  refine lv_aload_n hx hb dX12_findFits_0 rfl (lv_at hl 0 rfl) ?_
  refine lv_iconst (v := 0) hx hb dX12_findFits_1 (by decide) ?_
  refine zputs E hw (Nat.le_of_ble_eq_true rfl) (ceM_0 ad cy _) rfl inX12 tyX12 tyX12_ok nmX12 15 (by decide) k5_238 (fun _ h => h) rfl rfl rfl (Nat.le_of_ble_eq_true rfl) (j := 15) (Eq.trans (ceM_0 ad cy _) (by rfl)) dX12_findFits_2 (fun σ1 eσ1 H locs hw => ?_)
  replace hf := lt_i eσ1 hf
  refine lv_iconst (v := 0) hx hb dX12_findFits_5 (by decide) ?_
  refine lv_istore_n (lv' := [(2, .int 0), (0, .ref (ad 0)), (1, .int xq1)]) hx hb dX12_findFits_6 rfl hl (by decide) rfl (fun ls hl => ?_)
  exact hL7 xq1 400 0 σ1 _ _ _ hw (lv_sub hl [1, 2, 0] rfl) hf
set_option maxRecDepth 100000 in
set_option maxHeartbeats 4000000 in
theorem c_X12_span {l : Launch} {D : va_G} {cy : Cy} {ad : Nat → Nat} {A : Nat → Prop} (hA : okAd 17 ad A) (xq1 : Int32) (σ : Sg) {r : Int32} {σ9 : Sg} (hf : f_X12_span xq1 σ = some (r, σ9)) : Met l yX12_span (.code yX12_span cX12_span 2 (some .int) :: TT) ({ frames := 4, cells := 0, slots := 0, locals := 104 } : Room) (zPc D cy 17 (celM ad cy) ad A [.ref (ad 0), .int xq1] σ) (zQi D 17 (celM ad cy) ad A r σ9) 0 0 A := by
  refine zofW (by decide) hA (Nat.le_of_ble_eq_true rfl) ?_
  intro p e s m args below meth c ls E hw hr hlk hl
  have E : ZE p s m args c cX12_span 2 "KiteSummonsModel" D cy 17 ad A := E
  have hx := E.hx
  have hb := E.hb
  have hl : lv_has ls 2 [(0, .ref (ad 0)), (1, .int xq1)] := hl
  unfold f_X12_span at hf
  refine lv_iload_n hx hb dX12_span_0 rfl (lv_at hl 1 rfl) ?_
  refine lv_i2l hx hb dX12_span_1 rfl ?_
  refine lv_lconst (v := 0) hx hb dX12_span_2 (by decide) ?_
  refine lv_ldc2 (v := 2) hx hb E.hown (E.ht _ k7_158) dX12_span_3 ?_
  refine zcali hw (va_runS (As := [.long xq1.toInt64, .long (0 : Int64), .long (2 : Int64)]) (rest := []) E.fix (c_X12_in (l := l) hA xq1.toInt64 (0 : Int64) (2 : Int64) σ rfl) (zcS E k6_114 k1_14 k6_112 k6_113 mf_X12_in rfl rfl ⟨Nat.le_of_ble_eq_true rfl, Nat.le_of_ble_eq_true rfl⟩) (zPre E hw _) rfl rfl hl.1 rfl (lv_room (Nat.le_of_ble_eq_true rfl)) dX12_span_6 ⟨Nat.zero_le _, Nat.zero_le _⟩) (fun H locs hw => ?_)
  refine lv_if_ne (tgt := 14) hx hb dX12_span_9 (by decide) (fun h => ?_) (fun h => ?_)
  · replace hf := it_t (b2i_n h) hf
    refine lv_aload_n hx hb dX12_span_14 rfl (lv_at hl 0 rfl) ?_
    refine lv_iconst (v := (-1)) hx hb dX12_span_15 (by decide) ?_
    obtain ⟨σ1, hc, hf⟩ := bd_e hf
    refine zcalv hw (va_runV (As := [.int (-1)]) (rest := []) E.fix (c_X12_findFits (l := l) hA (-1) σ hc) (zcV E k7_162 k1_14 k7_159 k7_161 kp5_7 mf_X12_findFits rfl rfl ⟨Nat.le_of_ble_eq_true rfl, Nat.le_of_ble_eq_true rfl⟩) (zPreV E hw (Nat.le_of_ble_eq_true rfl) (ceM_0 ad cy _) rfl _) rfl rfl hl.1 rfl (lv_room (Nat.le_of_ble_eq_true rfl)) dX12_span_16 ⟨Nat.zero_le _, Nat.zero_le _⟩) (fun H locs hw => ?_)
    refine lv_iload_n hx hb dX12_span_19 rfl (lv_at hl 1 rfl) ?_
    refine lv_if_ne (tgt := 30) hx hb dX12_span_20 (by decide) (fun h => ?_) (fun h => ?_)
    · replace hf := it_t h hf
      refine lv_aload_n hx hb dX12_span_30 rfl (lv_at hl 0 rfl) ?_
      refine zget E hw (Nat.le_of_ble_eq_true rfl) (ceM_0 ad cy _) rfl inX12 15 (by decide) k5_238 (fun _ h => h) rfl dX12_span_31 ?_
      refine lv_if_ne (tgt := 42) hx hb dX12_span_34 (by decide) (fun h => ?_) (fun h => ?_)
      · replace hf := it_t h hf
        refine lv_iload_n hx hb dX12_span_42 rfl (lv_at hl 1 rfl) ?_
        refine lv_iconst (v := 1) hx hb dX12_span_43 (by decide) ?_
        refine lv_icmp_ne (tgt := 54) hx hb dX12_span_44 (by decide) (fun h => ?_) (fun h => ?_)
        · replace hf := it_t h hf
          refine lv_aload_n hx hb dX12_span_54 rfl (lv_at hl 0 rfl) ?_
          refine zget E hw (Nat.le_of_ble_eq_true rfl) (ceM_0 ad cy _) rfl inX12 17 (by decide) k6_0 (fun _ h => h) rfl dX12_span_55 ?_
          exact zreti E hw hr hlk (rt_a hf) (rt_b hf) dX12_span_58
        · replace hf := it_n h hf
          refine lv_aload_n hx hb dX12_span_47 rfl (lv_at hl 0 rfl) ?_
          refine zget E hw (Nat.le_of_ble_eq_true rfl) (ceM_0 ad cy _) rfl inX12 16 (by decide) k5_239 (fun _ h => h) rfl dX12_span_48 ?_
          refine lv_goto (tgt := 58) hx hb dX12_span_51 (by decide) ?_
          exact zreti E hw hr hlk (rt_a hf) (rt_b hf) dX12_span_58
      · replace hf := it_n h hf
        refine lv_bipush (v := (-3)) hx hb dX12_span_37 (by decide) ?_
        refine lv_goto (tgt := 58) hx hb dX12_span_39 (by decide) ?_
        exact zreti E hw hr hlk (rt_a hf) (rt_b hf) dX12_span_58
    · replace hf := it_n h hf
      refine lv_aload_n hx hb dX12_span_23 rfl (lv_at hl 0 rfl) ?_
      refine zget E hw (Nat.le_of_ble_eq_true rfl) (ceM_0 ad cy _) rfl inX12 15 (by decide) k5_238 (fun _ h => h) rfl dX12_span_24 ?_
      refine lv_goto (tgt := 58) hx hb dX12_span_27 (by decide) ?_
      exact zreti E hw hr hlk (rt_a hf) (rt_b hf) dX12_span_58
  · replace hf := it_f (b2i_0 h) hf
    refine lv_iconst (v := (-1)) hx hb dX12_span_12 (by decide) ?_
    exact zreti E hw hr hlk (rt_a hf) (rt_b hf) dX12_span_13
set_option maxRecDepth 100000 in
set_option maxHeartbeats 4000000 in
theorem c_X12_liar {l : Launch} {D : va_G} {cy : Cy} {ad : Nat → Nat} {A : Nat → Prop} (hA : okAd 17 ad A) (σ : Sg) {r : Int32} {σ9 : Sg} (hf : f_X12_liar σ = some (r, σ9)) : Met l yX12_liar (.code yX12_liar cX12_liar 3 (some .int) :: TT) ({ frames := 4, cells := 0, slots := 0, locals := 104 } : Room) (zPc D cy 17 (celM ad cy) ad A [.ref (ad 0)] σ) (zQi D 17 (celM ad cy) ad A r σ9) 0 0 A := by
  refine zofW (by decide) hA (Nat.le_of_ble_eq_true rfl) ?_
  intro p e s m args below meth c ls E hw hr hlk hl
  have E : ZE p s m args c cX12_liar 3 "KiteSummonsModel" D cy 17 ad A := E
  have hx := E.hx
  have hb := E.hb
  have hl : lv_has ls 3 [(0, .ref (ad 0))] := hl
  have hB20 : ∀ (xq1 : Int32) (kq20 : Int32 → Sg → Option (Int32 × Sg)) (hkq20 : ∀ (xq2 : Int32) (σ : Sg) (H : Heap) (locs : List Loc) (ls : Array Slot), ZS D 17 (celM ad cy) ad A s σ H locs → lv_has ls 3 [(0, .ref (ad 0)), (1, .int xq1), (2, .int xq2)] → kq20 xq2 σ = some (r, σ9) → W p l e ({ frames := 4, cells := 0, slots := 0, locals := 104 } : Room) s m args below meth c H locs 0 0 (MQ below (zQi D 17 (celM ad cy) ad A r σ9) args s 0 0 A) (F0 m 20 ls [])) (xq2 : Int32) (σ : Sg) (H : Heap) (locs : List Loc) (ls : Array Slot), ZS D 17 (celM ad cy) ad A s σ H locs → lv_has ls 3 [(0, .ref (ad 0)), (1, .int xq1), (2, .int xq2)] → f_X12_liar_b20 kq20 xq1 xq2 σ = some (r, σ9) → W p l e ({ frames := 4, cells := 0, slots := 0, locals := 104 } : Room) s m args below meth c H locs 0 0 (MQ below (zQi D 17 (celM ad cy) ad A r σ9) args s 0 0 A) (F0 m 20 ls []) := by
    intro xq1 kq20 hkq20 xq2 σ H locs ls hw hl hf
    unfold f_X12_liar_b20 at hf
    refine lv_iload_n hx hb dX12_liar_20 rfl (lv_at hl 2 rfl) ?_
    refine lv_aload_n hx hb dX12_liar_21 rfl (lv_at hl 0 rfl) ?_
    refine zget E hw (Nat.le_of_ble_eq_true rfl) (ceM_0 ad cy _) rfl inX12 0 (by decide) k5_223 (fun _ h => h) rfl dX12_liar_22 ?_
    refine lv_iconst (v := 5) hx hb dX12_liar_25 (by decide) ?_
    refine zaldk E hw (Nat.le_of_ble_eq_true rfl) (ceM_1 ad cy) 5 (by rfl) (Nat.le_of_ble_eq_true rfl) (by decide) dX12_liar_26 ?_
    refine lv_icmp_ge (tgt := 54) hx hb dX12_liar_27 (by decide) (fun h => ?_) (fun h => ?_)
    · replace hf := it_t h hf
      refine lv_bipush (v := (-3)) hx hb dX12_liar_54 (by decide) ?_
      exact zreti E hw hr hlk (rt_a hf) (rt_b hf) dX12_liar_56
    · replace hf := it_f h hf
      refine lv_iload_n hx hb dX12_liar_30 rfl (lv_at hl 1 rfl) ?_
      refine lv_if_eq (tgt := 54) hx hb dX12_liar_31 (by decide) (fun h => ?_) (fun h => ?_)
      · replace hf := it_t h hf
        refine lv_bipush (v := (-3)) hx hb dX12_liar_54 (by decide) ?_
        exact zreti E hw hr hlk (rt_a hf) (rt_b hf) dX12_liar_56
      · replace hf := it_f h hf
        refine lv_aload_n hx hb dX12_liar_34 rfl (lv_at hl 0 rfl) ?_
        refine lv_iload_n hx hb dX12_liar_35 rfl (lv_at hl 2 rfl) ?_
        obtain ⟨σ2, hc, hf⟩ := bd_e hf
        refine zcalv hw (va_runV (As := [.int xq2]) (rest := []) E.fix (c_X12_findFits (l := l) hA xq2 σ hc) (zcV E k7_162 k1_14 k7_159 k7_161 kp5_7 mf_X12_findFits rfl rfl ⟨Nat.le_of_ble_eq_true rfl, Nat.le_of_ble_eq_true rfl⟩) (zPreV E hw (Nat.le_of_ble_eq_true rfl) (ceM_0 ad cy _) rfl _) rfl rfl hl.1 rfl (lv_room (Nat.le_of_ble_eq_true rfl)) dX12_liar_36 ⟨Nat.zero_le _, Nat.zero_le _⟩) (fun H locs hw => ?_)
        refine lv_aload_n hx hb dX12_liar_39 rfl (lv_at hl 0 rfl) ?_
        refine zget E hw (Nat.le_of_ble_eq_true rfl) (ceM_0 ad cy _) rfl inX12 15 (by decide) k5_238 (fun _ h => h) rfl dX12_liar_40 ?_
        refine lv_if_le (tgt := 48) hx hb dX12_liar_43 (by decide) (fun h => ?_) (fun h => ?_)
        · replace hf := it_t h hf
          refine lv_iinc (v := (xq2 + 1)) (lv' := [(2, .int (xq2 + 1)), (0, .ref (ad 0)), (1, .int xq1)]) hx hb dX12_liar_48 hl (k := 2) rfl (by rfl) (by decide) rfl (fun ls hl => ?_)
          refine lv_goto (tgt := 20) hx hb dX12_liar_51 (by decide) ?_
          exact hkq20 (xq2 + 1) σ2 _ _ _ hw (lv_sub hl [1, 2, 0] rfl) hf
        · replace hf := it_f h hf
          refine lv_iload_n hx hb dX12_liar_46 rfl (lv_at hl 2 rfl) ?_
          exact zreti E hw hr hlk (rt_a hf) (rt_b hf) dX12_liar_47
  have hL20 : ∀ (xq1 : Int32) (n : Nat) (xq2 : Int32) (σ : Sg) (H : Heap) (locs : List Loc) (ls : Array Slot), ZS D 17 (celM ad cy) ad A s σ H locs → lv_has ls 3 [(0, .ref (ad 0)), (1, .int xq1), (2, .int xq2)] → f_X12_liar_l20 xq1 n xq2 σ = some (r, σ9) → W p l e ({ frames := 4, cells := 0, slots := 0, locals := 104 } : Room) s m args below meth c H locs 0 0 (MQ below (zQi D 17 (celM ad cy) ad A r σ9) args s 0 0 A) (F0 m 20 ls []) := by
    intro xq1 n
    induction n with
    | zero =>
      intro xq2 σ H locs ls hw hl hf
      exact nn_e hf
    | succ n ih =>
      intro xq2 σ H locs ls hw hl hf
      exact hB20 xq1 (f_X12_liar_l20 xq1 n) ih xq2 σ H locs ls hw hl hf
  unfold f_X12_liar at hf
  refine lv_aload_n hx hb dX12_liar_0 rfl (lv_at hl 0 rfl) ?_
  refine lv_iconst (v := (-1)) hx hb dX12_liar_1 (by decide) ?_
  obtain ⟨σ1, hc, hf⟩ := bd_e hf
  refine zcalv hw (va_runV (As := [.int (-1)]) (rest := []) E.fix (c_X12_findFits (l := l) hA (-1) σ hc) (zcV E k7_162 k1_14 k7_159 k7_161 kp5_7 mf_X12_findFits rfl rfl ⟨Nat.le_of_ble_eq_true rfl, Nat.le_of_ble_eq_true rfl⟩) (zPreV E hw (Nat.le_of_ble_eq_true rfl) (ceM_0 ad cy _) rfl _) rfl rfl hl.1 rfl (lv_room (Nat.le_of_ble_eq_true rfl)) dX12_liar_2 ⟨Nat.zero_le _, Nat.zero_le _⟩) (fun H locs hw => ?_)
  refine lv_aload_n hx hb dX12_liar_5 rfl (lv_at hl 0 rfl) ?_
  refine zget E hw (Nat.le_of_ble_eq_true rfl) (ceM_0 ad cy _) rfl inX12 15 (by decide) k5_238 (fun _ h => h) rfl dX12_liar_6 ?_
  refine lv_if_ne (tgt := 16) hx hb dX12_liar_9 (by decide) (fun h => ?_) (fun h => ?_)
  · replace hf := it_t h hf
    refine lv_iconst (v := 0) hx hb dX12_liar_16 (by decide) ?_
    refine lv_istore_n (lv' := [(1, .int 0), (0, .ref (ad 0))]) hx hb dX12_liar_17 rfl hl (by decide) rfl (fun ls hl => ?_)
    refine lv_iconst (v := 0) hx hb dX12_liar_18 (by decide) ?_
    refine lv_istore_n (lv' := [(2, .int 0), (1, .int 0), (0, .ref (ad 0))]) hx hb dX12_liar_19 rfl hl (by decide) rfl (fun ls hl => ?_)
    exact hL20 0 400 0 σ1 _ _ _ hw (lv_sub hl [2, 1, 0] rfl) hf
  · replace hf := it_n h hf
    refine lv_iconst (v := 1) hx hb dX12_liar_12 (by decide) ?_
    refine lv_goto (tgt := 17) hx hb dX12_liar_13 (by decide) ?_
    refine lv_istore_n (lv' := [(1, .int 1), (0, .ref (ad 0))]) hx hb dX12_liar_17 rfl hl (by decide) rfl (fun ls hl => ?_)
    refine lv_iconst (v := 0) hx hb dX12_liar_18 (by decide) ?_
    refine lv_istore_n (lv' := [(2, .int 0), (1, .int 1), (0, .ref (ad 0))]) hx hb dX12_liar_19 rfl hl (by decide) rfl (fun ls hl => ?_)
    exact hL20 1 400 0 σ1 _ _ _ hw (lv_sub hl [2, 1, 0] rfl) hf
set_option maxRecDepth 100000 in
set_option maxHeartbeats 4000000 in
theorem c_X12_seed {l : Launch} {D : va_G} {cy : Cy} {ad : Nat → Nat} {A : Nat → Prop} (hA : okAd 17 ad A) (xq1 : Int32) (σ : Sg) {r : Int32} {σ9 : Sg} (hf : f_X12_seed xq1 σ = some (r, σ9)) : Met l yX12_seed (.code yX12_seed cX12_seed 2 (some .int) :: TT) ({ frames := 1, cells := 0, slots := 0, locals := 23 } : Room) (zPc D cy 17 (celM ad cy) ad A [.ref (ad 0), .int xq1] σ) (zQi D 17 (celM ad cy) ad A r σ9) 0 0 A := by
  refine zofW (by decide) hA (Nat.le_of_ble_eq_true rfl) ?_
  intro p e s m args below meth c ls E hw hr hlk hl
  have E : ZE p s m args c cX12_seed 2 "KiteSummonsModel" D cy 17 ad A := E
  have hx := E.hx
  have hb := E.hb
  have hl : lv_has ls 2 [(0, .ref (ad 0)), (1, .int xq1)] := hl
  unfold f_X12_seed at hf
  refine lv_aload_n hx hb dX12_seed_0 rfl (lv_at hl 0 rfl) ?_
  refine lv_bipush (v := 6) hx hb dX12_seed_1 (by decide) ?_
  refine lv_iload_n hx hb dX12_seed_3 rfl (lv_at hl 1 rfl) ?_
  obtain ⟨vq1, σ2, hc, hf⟩ := bd2_e hf
  refine zcali hw (va_runV (As := [.int 6, .int xq1]) (rest := []) E.fix (c_X12_becomes (l := l) hA 6 xq1 σ hc) (zcV E k6_192 k1_14 k6_189 k6_191 kp4_0 mf_X12_becomes rfl rfl ⟨Nat.le_of_ble_eq_true rfl, Nat.le_of_ble_eq_true rfl⟩) (zPreV E hw (Nat.le_of_ble_eq_true rfl) (ceM_0 ad cy _) rfl _) rfl rfl hl.1 rfl (lv_room (Nat.le_of_ble_eq_true rfl)) dX12_seed_4 ⟨Nat.zero_le _, Nat.zero_le _⟩) (fun H locs hw => ?_)
  exact zreti E hw hr hlk (rt_a hf) (rt_b hf) dX12_seed_7
set_option maxRecDepth 100000 in
set_option maxHeartbeats 4000000 in
theorem c_X12_byLot {l : Launch} {D : va_G} {cy : Cy} {ad : Nat → Nat} {A : Nat → Prop} (hA : okAd 17 ad A) (σ : Sg) {r : Int32} {σ9 : Sg} (hf : f_X12_byLot σ = some (r, σ9)) : Met l yX12_byLot (.code yX12_byLot cX12_byLot 1 (some .int) :: TT) ({ frames := 8, cells := 0, slots := 0, locals := 183 } : Room) (zPc D cy 17 (celM ad cy) ad A [.ref (ad 0)] σ) (zQi D 17 (celM ad cy) ad A r σ9) 0 0 A := by
  refine zofW (by decide) hA (Nat.le_of_ble_eq_true rfl) ?_
  intro p e s m args below meth c ls E hw hr hlk hl
  have E : ZE p s m args c cX12_byLot 1 "KiteSummonsModel" D cy 17 ad A := E
  have hx := E.hx
  have hb := E.hb
  have hl : lv_has ls 1 [(0, .ref (ad 0))] := hl
  unfold f_X12_byLot at hf
  refine lv_aload_n hx hb dX12_byLot_0 rfl (lv_at hl 0 rfl) ?_
  refine zget E hw (Nat.le_of_ble_eq_true rfl) (ceM_0 ad cy _) rfl inX12 0 (by decide) k5_223 (fun _ h => h) rfl dX12_byLot_1 ?_
  refine lv_bipush (v := 6) hx hb dX12_byLot_4 (by decide) ?_
  refine lv_aload_n hx hb dX12_byLot_6 rfl (lv_at hl 0 rfl) ?_
  refine zget E hw (Nat.le_of_ble_eq_true rfl) (ceM_0 ad cy _) rfl inX12 0 (by decide) k5_223 (fun _ h => h) rfl dX12_byLot_7 ?_
  refine lv_bipush (v := 6) hx hb dX12_byLot_10 (by decide) ?_
  refine zaldk E hw (Nat.le_of_ble_eq_true rfl) (ceM_1 ad cy) 6 (by rfl) (Nat.le_of_ble_eq_true rfl) (by decide) dX12_byLot_12 ?_
  refine lv_ldcw (v := 1103515245) hx hb E.hown (E.ht _ k7_187) dX12_byLot_13 ?_
  refine lv_imul hx hb dX12_byLot_16 ?_
  refine lv_sipush (v := 12345) hx hb dX12_byLot_17 (by decide) ?_
  refine lv_iadd hx hb dX12_byLot_20 ?_
  refine zastk E hw (Nat.le_of_ble_eq_true rfl) (ceM_1 ad cy) 6 (by rfl) (Nat.le_of_ble_eq_true rfl) (by decide) dX12_byLot_21 (fun σ1 eσ1 H locs hw => ?_)
  replace hf := lt_i eσ1 hf
  refine lv_aload_n hx hb dX12_byLot_22 rfl (lv_at hl 0 rfl) ?_
  refine lv_aload_n hx hb dX12_byLot_23 rfl (lv_at hl 0 rfl) ?_
  refine zget E hw (Nat.le_of_ble_eq_true rfl) (ceM_0 ad cy _) rfl inX12 0 (by decide) k5_223 (fun _ h => h) rfl dX12_byLot_24 ?_
  refine lv_bipush (v := 6) hx hb dX12_byLot_27 (by decide) ?_
  refine zaldk E hw (Nat.le_of_ble_eq_true rfl) (ceM_1 ad cy) 6 (by rfl) (Nat.le_of_ble_eq_true rfl) (by decide) dX12_byLot_29 ?_
  refine lv_bipush (v := 16) hx hb dX12_byLot_30 (by decide) ?_
  refine ziushr hx hb dX12_byLot_32 ?_
  refine lv_aload_n hx hb dX12_byLot_33 rfl (lv_at hl 0 rfl) ?_
  refine zget E hw (Nat.le_of_ble_eq_true rfl) (ceM_0 ad cy _) rfl inX12 0 (by decide) k5_223 (fun _ h => h) rfl dX12_byLot_34 ?_
  refine lv_iconst (v := 0) hx hb dX12_byLot_37 (by decide) ?_
  refine zaldk E hw (Nat.le_of_ble_eq_true rfl) (ceM_1 ad cy) 0 (by rfl) (Nat.le_of_ble_eq_true rfl) (by decide) dX12_byLot_38 ?_
  refine lv_iconst (v := 1) hx hb dX12_byLot_39 (by decide) ?_
  refine lv_iadd hx hb dX12_byLot_40 ?_
  obtain ⟨hzq2, hf⟩ := gd_e hf
  refine zirem hx hb dX12_byLot_41 hzq2 ?_
  obtain ⟨vq3, σ4, hc, hf⟩ := bd2_e hf
  refine zcali hw (va_runV (As := [.int (rem32 (ushr32 (σ1 1 6) 16) ((σ1 1 0) + 1))]) (rest := []) E.fix (c_X12_goes (l := l) hA (rem32 (ushr32 (σ1 1 6) 16) ((σ1 1 0) + 1)) σ1 hc) (zcV E k7_2 k1_14 k6_239 k7_1 kp4_3 mf_X12_goes rfl rfl ⟨Nat.le_of_ble_eq_true rfl, Nat.le_of_ble_eq_true rfl⟩) (zPreV E hw (Nat.le_of_ble_eq_true rfl) (ceM_0 ad cy _) rfl _) rfl rfl hl.1 rfl (lv_room (Nat.le_of_ble_eq_true rfl)) dX12_byLot_42 ⟨Nat.zero_le _, Nat.zero_le _⟩) (fun H locs hw => ?_)
  exact zreti E hw hr hlk (rt_a hf) (rt_b hf) dX12_byLot_45
set_option maxRecDepth 100000 in
set_option maxHeartbeats 4000000 in
theorem c_X12_lot {l : Launch} {D : va_G} {cy : Cy} {ad : Nat → Nat} {A : Nat → Prop} (hA : okAd 17 ad A) (σ : Sg) {r : Int32} {σ9 : Sg} (hf : f_X12_lot σ = some (r, σ9)) : Met l yX12_lot (.code yX12_lot cX12_lot 1 (some .int) :: TT) ({ frames := 9, cells := 0, slots := 0, locals := 203 } : Room) (zPc D cy 17 (celM ad cy) ad A [.ref (ad 0)] σ) (zQi D 17 (celM ad cy) ad A r σ9) 0 0 A := by
  refine zofW (by decide) hA (Nat.le_of_ble_eq_true rfl) ?_
  intro p e s m args below meth c ls E hw hr hlk hl
  have E : ZE p s m args c cX12_lot 1 "KiteSummonsModel" D cy 17 ad A := E
  have hx := E.hx
  have hb := E.hb
  have hl : lv_has ls 1 [(0, .ref (ad 0))] := hl
  unfold f_X12_lot at hf
  refine lv_aload_n hx hb dX12_lot_0 rfl (lv_at hl 0 rfl) ?_
  refine zcali hw (va_runV (As := []) (rest := []) E.fix (c_X12_isOver (l := l) hA σ rfl) (zcV E k6_230 k1_14 k6_227 k6_229 kp4_1 mf_X12_isOver rfl rfl ⟨Nat.le_of_ble_eq_true rfl, Nat.le_of_ble_eq_true rfl⟩) (zPreV E hw (Nat.le_of_ble_eq_true rfl) (ceM_0 ad cy _) rfl _) rfl rfl hl.1 rfl (lv_room (Nat.le_of_ble_eq_true rfl)) dX12_lot_1 ⟨Nat.zero_le _, Nat.zero_le _⟩) (fun H locs hw => ?_)
  refine lv_if_eq (tgt := 12) hx hb dX12_lot_4 (by decide) (fun h => ?_) (fun h => ?_)
  · replace hf := it_f (b2i_0 h) hf
    refine lv_aload_n hx hb dX12_lot_12 rfl (lv_at hl 0 rfl) ?_
    obtain ⟨vq1, σ2, hc, hf⟩ := bd2_e hf
    refine zcali hw (va_runV (As := []) (rest := []) E.fix (c_X12_byLot (l := l) hA σ hc) (zcV E k7_186 k1_14 k7_183 k7_185 kp5_10 mf_X12_byLot rfl rfl ⟨Nat.le_of_ble_eq_true rfl, Nat.le_of_ble_eq_true rfl⟩) (zPreV E hw (Nat.le_of_ble_eq_true rfl) (ceM_0 ad cy _) rfl _) rfl rfl hl.1 rfl (lv_room (Nat.le_of_ble_eq_true rfl)) dX12_lot_13 ⟨Nat.zero_le _, Nat.zero_le _⟩) (fun H locs hw => ?_)
    exact zreti E hw hr hlk (rt_a hf) (rt_b hf) dX12_lot_16
  · replace hf := it_t (b2i_n h) hf
    refine lv_bipush (v := (-4)) hx hb dX12_lot_7 (by decide) ?_
    refine lv_goto (tgt := 16) hx hb dX12_lot_9 (by decide) ?_
    exact zreti E hw hr hlk (rt_a hf) (rt_b hf) dX12_lot_16
set_option maxRecDepth 100000 in
set_option maxHeartbeats 4000000 in
theorem c_X12_times {l : Launch} {D : va_G} {cy : Cy} {ad : Nat → Nat} {A : Nat → Prop} (hA : okAd 17 ad A) (xq1 : Int32) (xq2 : Int32) (σ : Sg) {r : Int32} {σ9 : Sg} (hf : f_X12_times xq1 xq2 σ = some (r, σ9)) : Met l yX12_times (.code yX12_times cX12_times 7 (some .int) :: TT) ({ frames := 9, cells := 0, slots := 0, locals := 203 } : Room) (zPc D cy 17 (celM ad cy) ad A [.ref (ad 0), .int xq1, .int xq2] σ) (zQi D 17 (celM ad cy) ad A r σ9) 0 0 A := by
  refine zofW (by decide) hA (Nat.le_of_ble_eq_true rfl) ?_
  intro p e s m args below meth c ls E hw hr hlk hl
  have E : ZE p s m args c cX12_times 7 "KiteSummonsModel" D cy 17 ad A := E
  have hx := E.hx
  have hb := E.hb
  have hl : lv_has ls 7 [(0, .ref (ad 0)), (1, .int xq1), (2, .int xq2)] := hl
  have hB75 : ∀ (xq1 : Int32) (xq2 : Int32) (xq4 : Int32) (tq0 : Int32) (tq1 : Int32) (kq35 : Int32 → Int32 → Sg → Option (Int32 × Sg)) (hkq35 : ∀ (xq3 : Int32) (xq4 : Int32) (σ : Sg) (H : Heap) (locs : List Loc) (ls : Array Slot), ZS D 17 (celM ad cy) ad A s σ H locs → lv_has ls 7 [(0, .ref (ad 0)), (1, .int xq1), (2, .int xq2), (3, .int xq3), (4, .int xq4)] → kq35 xq3 xq4 σ = some (r, σ9) → W p l e ({ frames := 9, cells := 0, slots := 0, locals := 203 } : Room) s m args below meth c H locs 0 0 (MQ below (zQi D 17 (celM ad cy) ad A r σ9) args s 0 0 A) (F0 m 35 ls [])) (σ : Sg) (H : Heap) (locs : List Loc) (ls : Array Slot), ZS D 17 (celM ad cy) ad A s σ H locs → lv_has ls 7 [(0, .ref (ad 0)), (1, .int xq1), (2, .int xq2), (4, .int xq4)] → f_X12_times_b75 kq35 xq1 xq2 xq4 tq0 tq1 σ = some (r, σ9) → W p l e ({ frames := 9, cells := 0, slots := 0, locals := 203 } : Room) s m args below meth c H locs 0 0 (MQ below (zQi D 17 (celM ad cy) ad A r σ9) args s 0 0 A) (F0 m 75 ls [.int tq1, .int tq0]) := by
    intro xq1 xq2 xq4 tq0 tq1 kq35 hkq35 σ H locs ls hw hl hf
    unfold f_X12_times_b75 at hf
    refine lv_iadd hx hb dX12_times_75 ?_
    refine lv_topi (fun vq6 evq6 => ?_)
    replace hf := lt_i evq6 hf
    refine lv_istore_n (lv' := [(3, .int vq6), (0, .ref (ad 0)), (1, .int xq1), (2, .int xq2), (4, .int xq4)]) hx hb dX12_times_76 rfl hl (by decide) rfl (fun ls hl => ?_)
    refine lv_aload_n hx hb dX12_times_77 rfl (lv_at hl 1 rfl) ?_
    refine zget E hw (Nat.le_of_ble_eq_true rfl) (ceM_0 ad cy _) rfl inX12 0 (by decide) k5_223 (fun _ h => h) rfl dX12_times_78 ?_
    refine lv_bipush (v := 6) hx hb dX12_times_81 (by decide) ?_
    refine zaldk E hw (Nat.le_of_ble_eq_true rfl) (ceM_1 ad cy) 6 (by rfl) (Nat.le_of_ble_eq_true rfl) (by decide) dX12_times_83 ?_
    refine lv_topi (fun vq7 evq7 => ?_)
    replace hf := lt_i evq7 hf
    refine lv_istore (lv' := [(6, .int vq7), (3, .int vq6), (0, .ref (ad 0)), (1, .int xq1), (2, .int xq2), (4, .int xq4)]) hx hb dX12_times_84 hl (by decide) rfl (fun ls hl => ?_)
    refine lv_aload_n hx hb dX12_times_86 rfl (lv_at hl 2 rfl) ?_
    obtain ⟨σ8, hc, hf⟩ := bd_e hf
    refine zcalv hw (va_runV (As := []) (rest := []) E.fix (c_X12_putsBack (l := l) hA σ hc) (zcV E k7_44 k1_14 k7_41 k7_43 kp4_11 mf_X12_putsBack rfl rfl ⟨Nat.le_of_ble_eq_true rfl, Nat.le_of_ble_eq_true rfl⟩) (zPreV E hw (Nat.le_of_ble_eq_true rfl) (ceM_0 ad cy _) rfl _) rfl rfl hl.1 rfl (lv_room (Nat.le_of_ble_eq_true rfl)) dX12_times_87 ⟨Nat.zero_le _, Nat.zero_le _⟩) (fun H locs hw => ?_)
    refine lv_aload_n hx hb dX12_times_90 rfl (lv_at hl 2 rfl) ?_
    refine zget E hw (Nat.le_of_ble_eq_true rfl) (ceM_0 ad cy _) rfl inX12 0 (by decide) k5_223 (fun _ h => h) rfl dX12_times_91 ?_
    refine lv_bipush (v := 6) hx hb dX12_times_94 (by decide) ?_
    refine lv_iload hx hb dX12_times_96 (lv_at hl 0 rfl) ?_
    refine zastk E hw (Nat.le_of_ble_eq_true rfl) (ceM_1 ad cy) 6 (by rfl) (Nat.le_of_ble_eq_true rfl) (by decide) dX12_times_98 (fun σ9 eσ9 H locs hw => ?_)
    replace hf := lt_i eσ9 hf
    refine lv_iinc (v := (xq4 + 1)) (lv' := [(4, .int (xq4 + 1)), (6, .int vq7), (3, .int vq6), (0, .ref (ad 0)), (1, .int xq1), (2, .int xq2)]) hx hb dX12_times_99 hl (k := 5) rfl (by rfl) (by decide) rfl (fun ls hl => ?_)
    refine lv_goto (tgt := 35) hx hb dX12_times_102 (by decide) ?_
    exact hkq35 vq6 (xq4 + 1) σ9 _ _ _ hw (lv_sub hl [3, 4, 5, 2, 0] rfl) hf
  have hB44 : ∀ (xq1 : Int32) (xq2 : Int32) (xq3 : Int32) (xq4 : Int32) (kq35 : Int32 → Int32 → Sg → Option (Int32 × Sg)) (hkq35 : ∀ (xq3 : Int32) (xq4 : Int32) (σ : Sg) (H : Heap) (locs : List Loc) (ls : Array Slot), ZS D 17 (celM ad cy) ad A s σ H locs → lv_has ls 7 [(0, .ref (ad 0)), (1, .int xq1), (2, .int xq2), (3, .int xq3), (4, .int xq4)] → kq35 xq3 xq4 σ = some (r, σ9) → W p l e ({ frames := 9, cells := 0, slots := 0, locals := 203 } : Room) s m args below meth c H locs 0 0 (MQ below (zQi D 17 (celM ad cy) ad A r σ9) args s 0 0 A) (F0 m 35 ls [])) (kq44 : Int32 → Sg → Option (Int32 × Sg)) (hkq44 : ∀ (xq5 : Int32) (σ : Sg) (H : Heap) (locs : List Loc) (ls : Array Slot), ZS D 17 (celM ad cy) ad A s σ H locs → lv_has ls 7 [(0, .ref (ad 0)), (1, .int xq1), (2, .int xq2), (3, .int xq3), (4, .int xq4), (5, .int xq5)] → kq44 xq5 σ = some (r, σ9) → W p l e ({ frames := 9, cells := 0, slots := 0, locals := 203 } : Room) s m args below meth c H locs 0 0 (MQ below (zQi D 17 (celM ad cy) ad A r σ9) args s 0 0 A) (F0 m 44 ls [])) (xq5 : Int32) (σ : Sg) (H : Heap) (locs : List Loc) (ls : Array Slot), ZS D 17 (celM ad cy) ad A s σ H locs → lv_has ls 7 [(0, .ref (ad 0)), (1, .int xq1), (2, .int xq2), (3, .int xq3), (4, .int xq4), (5, .int xq5)] → f_X12_times_b44 kq35 kq44 xq1 xq2 xq3 xq4 xq5 σ = some (r, σ9) → W p l e ({ frames := 9, cells := 0, slots := 0, locals := 203 } : Room) s m args below meth c H locs 0 0 (MQ below (zQi D 17 (celM ad cy) ad A r σ9) args s 0 0 A) (F0 m 44 ls []) := by
    intro xq1 xq2 xq3 xq4 kq35 hkq35 kq44 hkq44 xq5 σ H locs ls hw hl hf
    unfold f_X12_times_b44 at hf
    refine lv_aload_n hx hb dX12_times_44 rfl (lv_at hl 0 rfl) ?_
    refine zcali hw (va_runV (As := []) (rest := []) E.fix (c_X12_isOver (l := l) hA σ rfl) (zcV E k6_230 k1_14 k6_227 k6_229 kp4_1 mf_X12_isOver rfl rfl ⟨Nat.le_of_ble_eq_true rfl, Nat.le_of_ble_eq_true rfl⟩) (zPreV E hw (Nat.le_of_ble_eq_true rfl) (ceM_0 ad cy _) rfl _) rfl rfl hl.1 rfl (lv_room (Nat.le_of_ble_eq_true rfl)) dX12_times_45 ⟨Nat.zero_le _, Nat.zero_le _⟩) (fun H locs hw => ?_)
    refine lv_if_ne (tgt := 63) hx hb dX12_times_48 (by decide) (fun h => ?_) (fun h => ?_)
    · replace hf := it_t (b2i_n h) hf
      refine lv_iload_n hx hb dX12_times_63 rfl (lv_at hl 3 rfl) ?_
      refine lv_iload hx hb dX12_times_64 (lv_at hl 5 rfl) ?_
      refine lv_iload_n hx hb dX12_times_66 rfl (lv_at hl 2 rfl) ?_
      refine lv_icmp_lt (tgt := 74) hx hb dX12_times_67 (by decide) (fun h => ?_) (fun h => ?_)
      · replace hf := it_t h hf
        refine lv_iconst (v := 0) hx hb dX12_times_74 (by decide) ?_
        exact hB75 xq1 xq2 xq4 xq3 0 kq35 hkq35 σ _ _ _ hw (lv_sub hl [0, 1, 2, 4] rfl) hf
      · replace hf := it_f h hf
        refine lv_iconst (v := 1) hx hb dX12_times_70 (by decide) ?_
        refine lv_goto (tgt := 75) hx hb dX12_times_71 (by decide) ?_
        exact hB75 xq1 xq2 xq4 xq3 1 kq35 hkq35 σ _ _ _ hw (lv_sub hl [0, 1, 2, 4] rfl) hf
    · replace hf := it_f (b2i_0 h) hf
      refine lv_iload hx hb dX12_times_51 (lv_at hl 5 rfl) ?_
      refine lv_aload_n hx hb dX12_times_53 rfl (lv_at hl 0 rfl) ?_
      obtain ⟨vq3, σ4, hc, hf⟩ := bd2_e hf
      refine zcali hw (va_runV (As := []) (rest := [.int xq5]) E.fix (c_X12_byLot (l := l) hA σ hc) (zcV E k7_186 k1_14 k7_183 k7_185 kp5_10 mf_X12_byLot rfl rfl ⟨Nat.le_of_ble_eq_true rfl, Nat.le_of_ble_eq_true rfl⟩) (zPreV E hw (Nat.le_of_ble_eq_true rfl) (ceM_0 ad cy _) rfl _) rfl rfl hl.1 rfl (lv_room (Nat.le_of_ble_eq_true rfl)) dX12_times_54 ⟨Nat.zero_le _, Nat.zero_le _⟩) (fun H locs hw => ?_)
      refine lv_iadd hx hb dX12_times_57 ?_
      refine lv_topi (fun vq5 evq5 => ?_)
      replace hf := lt_i evq5 hf
      refine lv_istore (lv' := [(5, .int vq5), (0, .ref (ad 0)), (1, .int xq1), (2, .int xq2), (3, .int xq3), (4, .int xq4)]) hx hb dX12_times_58 hl (by decide) rfl (fun ls hl => ?_)
      refine lv_goto (tgt := 44) hx hb dX12_times_60 (by decide) ?_
      exact hkq44 vq5 σ4 _ _ _ hw (lv_sub hl [1, 2, 3, 4, 5, 0] rfl) hf
  have hL44 : ∀ (xq1 : Int32) (xq2 : Int32) (xq3 : Int32) (xq4 : Int32) (kq35 : Int32 → Int32 → Sg → Option (Int32 × Sg)) (hkq35 : ∀ (xq3 : Int32) (xq4 : Int32) (σ : Sg) (H : Heap) (locs : List Loc) (ls : Array Slot), ZS D 17 (celM ad cy) ad A s σ H locs → lv_has ls 7 [(0, .ref (ad 0)), (1, .int xq1), (2, .int xq2), (3, .int xq3), (4, .int xq4)] → kq35 xq3 xq4 σ = some (r, σ9) → W p l e ({ frames := 9, cells := 0, slots := 0, locals := 203 } : Room) s m args below meth c H locs 0 0 (MQ below (zQi D 17 (celM ad cy) ad A r σ9) args s 0 0 A) (F0 m 35 ls [])) (n : Nat) (xq5 : Int32) (σ : Sg) (H : Heap) (locs : List Loc) (ls : Array Slot), ZS D 17 (celM ad cy) ad A s σ H locs → lv_has ls 7 [(0, .ref (ad 0)), (1, .int xq1), (2, .int xq2), (3, .int xq3), (4, .int xq4), (5, .int xq5)] → f_X12_times_l44 kq35 xq1 xq2 xq3 xq4 n xq5 σ = some (r, σ9) → W p l e ({ frames := 9, cells := 0, slots := 0, locals := 203 } : Room) s m args below meth c H locs 0 0 (MQ below (zQi D 17 (celM ad cy) ad A r σ9) args s 0 0 A) (F0 m 44 ls []) := by
    intro xq1 xq2 xq3 xq4 kq35 hkq35 n
    induction n with
    | zero =>
      intro xq5 σ H locs ls hw hl hf
      exact nn_e hf
    | succ n ih =>
      intro xq5 σ H locs ls hw hl hf
      exact hB44 xq1 xq2 xq3 xq4 kq35 hkq35 (f_X12_times_l44 kq35 xq1 xq2 xq3 xq4 n) ih xq5 σ H locs ls hw hl hf
  have hB35 : ∀ (xq1 : Int32) (xq2 : Int32) (kq35 : Int32 → Int32 → Sg → Option (Int32 × Sg)) (hkq35 : ∀ (xq3 : Int32) (xq4 : Int32) (σ : Sg) (H : Heap) (locs : List Loc) (ls : Array Slot), ZS D 17 (celM ad cy) ad A s σ H locs → lv_has ls 7 [(0, .ref (ad 0)), (1, .int xq1), (2, .int xq2), (3, .int xq3), (4, .int xq4)] → kq35 xq3 xq4 σ = some (r, σ9) → W p l e ({ frames := 9, cells := 0, slots := 0, locals := 203 } : Room) s m args below meth c H locs 0 0 (MQ below (zQi D 17 (celM ad cy) ad A r σ9) args s 0 0 A) (F0 m 35 ls [])) (xq3 : Int32) (xq4 : Int32) (σ : Sg) (H : Heap) (locs : List Loc) (ls : Array Slot), ZS D 17 (celM ad cy) ad A s σ H locs → lv_has ls 7 [(0, .ref (ad 0)), (1, .int xq1), (2, .int xq2), (3, .int xq3), (4, .int xq4)] → f_X12_times_b35 kq35 xq1 xq2 xq3 xq4 σ = some (r, σ9) → W p l e ({ frames := 9, cells := 0, slots := 0, locals := 203 } : Room) s m args below meth c H locs 0 0 (MQ below (zQi D 17 (celM ad cy) ad A r σ9) args s 0 0 A) (F0 m 35 ls []) := by
    intro xq1 xq2 kq35 hkq35 xq3 xq4 σ H locs ls hw hl hf
    unfold f_X12_times_b35 at hf
    refine lv_iload hx hb dX12_times_35 (lv_at hl 4 rfl) ?_
    refine lv_iload_n hx hb dX12_times_37 rfl (lv_at hl 1 rfl) ?_
    refine lv_icmp_ge (tgt := 105) hx hb dX12_times_38 (by decide) (fun h => ?_) (fun h => ?_)
    · replace hf := it_t h hf
      refine lv_aload_n hx hb dX12_times_105 rfl (lv_at hl 0 rfl) ?_
      obtain ⟨σ2, hc, hf⟩ := bd_e hf
      refine zcalv hw (va_runV (As := []) (rest := []) E.fix (c_X12_putsBack (l := l) hA σ hc) (zcV E k7_44 k1_14 k7_41 k7_43 kp4_11 mf_X12_putsBack rfl rfl ⟨Nat.le_of_ble_eq_true rfl, Nat.le_of_ble_eq_true rfl⟩) (zPreV E hw (Nat.le_of_ble_eq_true rfl) (ceM_0 ad cy _) rfl _) rfl rfl hl.1 rfl (lv_room (Nat.le_of_ble_eq_true rfl)) dX12_times_106 ⟨Nat.zero_le _, Nat.zero_le _⟩) (fun H locs hw => ?_)
      refine lv_iload_n hx hb dX12_times_109 rfl (lv_at hl 3 rfl) ?_
      exact zreti E hw hr hlk (rt_a hf) (rt_b hf) dX12_times_110
    · replace hf := it_f h hf
      refine lv_iconst (v := 0) hx hb dX12_times_41 (by decide) ?_
      refine lv_istore (lv' := [(5, .int 0), (0, .ref (ad 0)), (1, .int xq1), (2, .int xq2), (3, .int xq3), (4, .int xq4)]) hx hb dX12_times_42 hl (by decide) rfl (fun ls hl => ?_)
      exact hL44 xq1 xq2 xq3 xq4 kq35 hkq35 400 0 σ _ _ _ hw (lv_sub hl [1, 2, 3, 4, 5, 0] rfl) hf
  have hL35 : ∀ (xq1 : Int32) (xq2 : Int32) (n : Nat) (xq3 : Int32) (xq4 : Int32) (σ : Sg) (H : Heap) (locs : List Loc) (ls : Array Slot), ZS D 17 (celM ad cy) ad A s σ H locs → lv_has ls 7 [(0, .ref (ad 0)), (1, .int xq1), (2, .int xq2), (3, .int xq3), (4, .int xq4)] → f_X12_times_l35 xq1 xq2 n xq3 xq4 σ = some (r, σ9) → W p l e ({ frames := 9, cells := 0, slots := 0, locals := 203 } : Room) s m args below meth c H locs 0 0 (MQ below (zQi D 17 (celM ad cy) ad A r σ9) args s 0 0 A) (F0 m 35 ls []) := by
    intro xq1 xq2 n
    induction n with
    | zero =>
      intro xq3 xq4 σ H locs ls hw hl hf
      exact nn_e hf
    | succ n ih =>
      intro xq3 xq4 σ H locs ls hw hl hf
      exact hB35 xq1 xq2 (f_X12_times_l35 xq1 xq2 n) ih xq3 xq4 σ H locs ls hw hl hf
  unfold f_X12_times at hf
  refine lv_iload_n hx hb dX12_times_0 rfl (lv_at hl 1 rfl) ?_
  refine lv_i2l hx hb dX12_times_1 rfl ?_
  refine lv_lconst (v := 1) hx hb dX12_times_2 (by decide) ?_
  refine lv_ldc2 (v := 40) hx hb E.hown (E.ht _ k7_192) dX12_times_3 ?_
  refine zcali hw (va_runS (As := [.long xq1.toInt64, .long (1 : Int64), .long (40 : Int64)]) (rest := []) E.fix (c_X12_in (l := l) hA xq1.toInt64 (1 : Int64) (40 : Int64) σ rfl) (zcS E k6_114 k1_14 k6_112 k6_113 mf_X12_in rfl rfl ⟨Nat.le_of_ble_eq_true rfl, Nat.le_of_ble_eq_true rfl⟩) (zPre E hw _) rfl rfl hl.1 rfl (lv_room (Nat.le_of_ble_eq_true rfl)) dX12_times_6 ⟨Nat.zero_le _, Nat.zero_le _⟩) (fun H locs hw => ?_)
  refine lv_if_eq (tgt := 24) hx hb dX12_times_9 (by decide) (fun h => ?_) (fun h => ?_)
  · replace hf := it_f (b2i_0 h) hf
    refine lv_iconst (v := (-1)) hx hb dX12_times_24 (by decide) ?_
    exact zreti E hw hr hlk (rt_a hf) (rt_b hf) dX12_times_25
  · replace hf := it_t (b2i_n h) hf
    refine lv_iload_n hx hb dX12_times_12 rfl (lv_at hl 2 rfl) ?_
    refine lv_i2l hx hb dX12_times_13 rfl ?_
    refine lv_lconst (v := 0) hx hb dX12_times_14 (by decide) ?_
    refine lv_ldc2 (v := 999) hx hb E.hown (E.ht _ k7_193) dX12_times_15 ?_
    refine zcali hw (va_runS (As := [.long xq2.toInt64, .long (0 : Int64), .long (999 : Int64)]) (rest := []) E.fix (c_X12_in (l := l) hA xq2.toInt64 (0 : Int64) (999 : Int64) σ rfl) (zcS E k6_114 k1_14 k6_112 k6_113 mf_X12_in rfl rfl ⟨Nat.le_of_ble_eq_true rfl, Nat.le_of_ble_eq_true rfl⟩) (zPre E hw _) rfl rfl hl.1 rfl (lv_room (Nat.le_of_ble_eq_true rfl)) dX12_times_18 ⟨Nat.zero_le _, Nat.zero_le _⟩) (fun H locs hw => ?_)
    refine lv_if_ne (tgt := 26) hx hb dX12_times_21 (by decide) (fun h => ?_) (fun h => ?_)
    · replace hf := it_t (b2i_n h) hf
      refine lv_aload_n hx hb dX12_times_26 rfl (lv_at hl 0 rfl) ?_
      obtain ⟨σ1, hc, hf⟩ := bd_e hf
      refine zcalv hw (va_runV (As := []) (rest := []) E.fix (c_X12_puts (l := l) hA σ hc) (zcV E k7_36 k1_14 k7_33 k7_35 kp4_9 mf_X12_puts rfl rfl ⟨Nat.le_of_ble_eq_true rfl, Nat.le_of_ble_eq_true rfl⟩) (zPreV E hw (Nat.le_of_ble_eq_true rfl) (ceM_0 ad cy _) rfl _) rfl rfl hl.1 rfl (lv_room (Nat.le_of_ble_eq_true rfl)) dX12_times_27 ⟨Nat.zero_le _, Nat.zero_le _⟩) (fun H locs hw => ?_)
      refine lv_iconst (v := 0) hx hb dX12_times_30 (by decide) ?_
      refine lv_istore_n (lv' := [(3, .int 0), (0, .ref (ad 0)), (1, .int xq1), (2, .int xq2)]) hx hb dX12_times_31 rfl hl (by decide) rfl (fun ls hl => ?_)
      refine lv_iconst (v := 0) hx hb dX12_times_32 (by decide) ?_
      refine lv_istore (lv' := [(4, .int 0), (3, .int 0), (0, .ref (ad 0)), (1, .int xq1), (2, .int xq2)]) hx hb dX12_times_33 hl (by decide) rfl (fun ls hl => ?_)
      exact hL35 xq1 xq2 400 0 0 σ1 _ _ _ hw (lv_sub hl [2, 3, 4, 1, 0] rfl) hf
    · replace hf := it_f (b2i_0 h) hf
      refine lv_iconst (v := (-1)) hx hb dX12_times_24 (by decide) ?_
      exact zreti E hw hr hlk (rt_a hf) (rt_b hf) dX12_times_25
set_option maxRecDepth 100000 in
set_option maxHeartbeats 4000000 in
theorem c_X12_prove {l : Launch} {D : va_G} {cy : Cy} {ad : Nat → Nat} {A : Nat → Prop} (hA : okAd 17 ad A) (xq1 : Int32) (σ : Sg) {r : Int32} {σ9 : Sg} (hf : f_X12_prove xq1 σ = some (r, σ9)) : Met l yX12_prove (.code yX12_prove cX12_prove 3 (some .int) :: TT) ({ frames := 16, cells := 0, slots := 0, locals := 373 } : Room) (zPc D cy 17 (celM ad cy) ad A [.ref (ad 0), .int xq1] σ) (zQi D 17 (celM ad cy) ad A r σ9) 0 0 A := by
  refine zofW (by decide) hA (Nat.le_of_ble_eq_true rfl) ?_
  intro p e s m args below meth c ls E hw hr hlk hl
  have E : ZE p s m args c cX12_prove 3 "KiteSummonsModel" D cy 17 ad A := E
  have hx := E.hx
  have hb := E.hb
  have hl : lv_has ls 3 [(0, .ref (ad 0)), (1, .int xq1)] := hl
  have hB25 : ∀ (kq25 : Int32 → Sg → Option (Int32 × Sg)) (hkq25 : ∀ (xq2 : Int32) (σ : Sg) (H : Heap) (locs : List Loc) (ls : Array Slot), ZS D 17 (celM ad cy) ad A s σ H locs → lv_has ls 3 [(0, .ref (ad 0)), (2, .int xq2)] → kq25 xq2 σ = some (r, σ9) → W p l e ({ frames := 16, cells := 0, slots := 0, locals := 373 } : Room) s m args below meth c H locs 0 0 (MQ below (zQi D 17 (celM ad cy) ad A r σ9) args s 0 0 A) (F0 m 25 ls [])) (xq2 : Int32) (σ : Sg) (H : Heap) (locs : List Loc) (ls : Array Slot), ZS D 17 (celM ad cy) ad A s σ H locs → lv_has ls 3 [(0, .ref (ad 0)), (2, .int xq2)] → f_X12_prove_b25 kq25 xq2 σ = some (r, σ9) → W p l e ({ frames := 16, cells := 0, slots := 0, locals := 373 } : Room) s m args below meth c H locs 0 0 (MQ below (zQi D 17 (celM ad cy) ad A r σ9) args s 0 0 A) (F0 m 25 ls []) := by
    intro kq25 hkq25 xq2 σ H locs ls hw hl hf
    unfold f_X12_prove_b25 at hf
    refine lv_iload_n hx hb dX12_prove_25 rfl (lv_at hl 1 rfl) ?_
    refine lv_aload_n hx hb dX12_prove_26 rfl (lv_at hl 0 rfl) ?_
    refine zget E hw (Nat.le_of_ble_eq_true rfl) (ceM_0 ad cy _) rfl inX12 19 (by decide) k6_2 (fun _ h => h) rfl dX12_prove_27 ?_
    refine lv_icmp_ge (tgt := 88) hx hb dX12_prove_30 (by decide) (fun h => ?_) (fun h => ?_)
    · replace hf := it_t h hf
      refine lv_aload_n hx hb dX12_prove_88 rfl (lv_at hl 0 rfl) ?_
      obtain ⟨σ5, hc, hf⟩ := bd_e hf
      refine zcalv hw (va_runV (As := []) (rest := []) E.fix (c_X12_putsBack (l := l) hA σ hc) (zcV E k7_44 k1_14 k7_41 k7_43 kp4_11 mf_X12_putsBack rfl rfl ⟨Nat.le_of_ble_eq_true rfl, Nat.le_of_ble_eq_true rfl⟩) (zPreV E hw (Nat.le_of_ble_eq_true rfl) (ceM_0 ad cy _) rfl _) rfl rfl hl.1 rfl (lv_room (Nat.le_of_ble_eq_true rfl)) dX12_prove_89 ⟨Nat.zero_le _, Nat.zero_le _⟩) (fun H locs hw => ?_)
      refine lv_aload_n hx hb dX12_prove_92 rfl (lv_at hl 0 rfl) ?_
      refine zget E hw (Nat.le_of_ble_eq_true rfl) (ceM_0 ad cy _) rfl inX12 19 (by decide) k6_2 (fun _ h => h) rfl dX12_prove_93 ?_
      exact zreti E hw hr hlk (rt_a hf) (rt_b hf) dX12_prove_96
    · replace hf := it_f h hf
      refine lv_aload_n hx hb dX12_prove_33 rfl (lv_at hl 0 rfl) ?_
      refine zget E hw (Nat.le_of_ble_eq_true rfl) (ceM_0 ad cy _) rfl inX12 18 (by decide) k6_1 (fun _ h => h) rfl dX12_prove_34 ?_
      refine lv_iconst (v := 3) hx hb dX12_prove_37 (by decide) ?_
      refine lv_iload_n hx hb dX12_prove_38 rfl (lv_at hl 1 rfl) ?_
      refine lv_imul hx hb dX12_prove_39 ?_
      refine lv_aload_n hx hb dX12_prove_40 rfl (lv_at hl 0 rfl) ?_
      refine zget E hw (Nat.le_of_ble_eq_true rfl) (ceM_0 ad cy _) rfl inX12 7 (by decide) k5_230 (fun _ h => h) rfl dX12_prove_41 ?_
      refine lv_iload_n hx hb dX12_prove_44 rfl (lv_at hl 1 rfl) ?_
      obtain ⟨vq6, hvq6, hf⟩ := bd_e hf
      refine zaldr E hw (Nat.le_of_ble_eq_true rfl) (ceM_7 ad cy) hvq6 dX12_prove_45 ?_
      obtain ⟨σ7, hσ7, hf⟩ := bd_e hf
      refine zastr E hw (Nat.le_of_ble_eq_true rfl) (ceM_8 ad cy) hσ7 dX12_prove_46 (fun H locs hw => ?_)
      refine lv_aload_n hx hb dX12_prove_47 rfl (lv_at hl 0 rfl) ?_
      refine zget E hw (Nat.le_of_ble_eq_true rfl) (ceM_0 ad cy _) rfl inX12 18 (by decide) k6_1 (fun _ h => h) rfl dX12_prove_48 ?_
      refine lv_iconst (v := 3) hx hb dX12_prove_51 (by decide) ?_
      refine lv_iload_n hx hb dX12_prove_52 rfl (lv_at hl 1 rfl) ?_
      refine lv_imul hx hb dX12_prove_53 ?_
      refine lv_iconst (v := 1) hx hb dX12_prove_54 (by decide) ?_
      refine lv_iadd hx hb dX12_prove_55 ?_
      refine lv_aload_n hx hb dX12_prove_56 rfl (lv_at hl 0 rfl) ?_
      refine lv_aload_n hx hb dX12_prove_57 rfl (lv_at hl 0 rfl) ?_
      refine zget E hw (Nat.le_of_ble_eq_true rfl) (ceM_0 ad cy _) rfl inX12 7 (by decide) k5_230 (fun _ h => h) rfl dX12_prove_58 ?_
      refine lv_iload_n hx hb dX12_prove_61 rfl (lv_at hl 1 rfl) ?_
      obtain ⟨vq8, hvq8, hf⟩ := bd_e hf
      refine zaldr E hw (Nat.le_of_ble_eq_true rfl) (ceM_7 ad cy) hvq8 dX12_prove_62 ?_
      obtain ⟨vq9, σ10, hc, hf⟩ := bd2_e hf
      refine zcali hw (va_runV (As := [.int vq8]) (rest := [.int ((3 * xq2) + 1), .ref (ad 8)]) E.fix (c_X12_goes (l := l) hA vq8 σ7 hc) (zcV E k7_2 k1_14 k6_239 k7_1 kp4_3 mf_X12_goes rfl rfl ⟨Nat.le_of_ble_eq_true rfl, Nat.le_of_ble_eq_true rfl⟩) (zPreV E hw (Nat.le_of_ble_eq_true rfl) (ceM_0 ad cy _) rfl _) rfl rfl hl.1 rfl (lv_room (Nat.le_of_ble_eq_true rfl)) dX12_prove_63 ⟨Nat.zero_le _, Nat.zero_le _⟩) (fun H locs hw => ?_)
      obtain ⟨σ11, hσ11, hf⟩ := bd_e hf
      refine zastr E hw (Nat.le_of_ble_eq_true rfl) (ceM_8 ad cy) hσ11 dX12_prove_66 (fun H locs hw => ?_)
      refine lv_aload_n hx hb dX12_prove_67 rfl (lv_at hl 0 rfl) ?_
      refine zget E hw (Nat.le_of_ble_eq_true rfl) (ceM_0 ad cy _) rfl inX12 18 (by decide) k6_1 (fun _ h => h) rfl dX12_prove_68 ?_
      refine lv_iconst (v := 3) hx hb dX12_prove_71 (by decide) ?_
      refine lv_iload_n hx hb dX12_prove_72 rfl (lv_at hl 1 rfl) ?_
      refine lv_imul hx hb dX12_prove_73 ?_
      refine lv_iconst (v := 2) hx hb dX12_prove_74 (by decide) ?_
      refine lv_iadd hx hb dX12_prove_75 ?_
      refine lv_aload_n hx hb dX12_prove_76 rfl (lv_at hl 0 rfl) ?_
      refine lv_iconst (v := 5) hx hb dX12_prove_77 (by decide) ?_
      obtain ⟨vq12, hc, hf⟩ := bd_e hf
      refine zcali hw (va_runV (As := [.int 5]) (rest := [.int ((3 * xq2) + 2), .ref (ad 8)]) E.fix (c_X12_those (l := l) hA 5 σ11 hc) (zcV E k6_234 k1_14 k6_231 k6_233 kp4_2 mf_X12_those rfl rfl ⟨Nat.le_of_ble_eq_true rfl, Nat.le_of_ble_eq_true rfl⟩) (zPreV E hw (Nat.le_of_ble_eq_true rfl) (ceM_0 ad cy _) rfl _) rfl rfl hl.1 rfl (lv_room (Nat.le_of_ble_eq_true rfl)) dX12_prove_78 ⟨Nat.zero_le _, Nat.zero_le _⟩) (fun H locs hw => ?_)
      obtain ⟨σ13, hσ13, hf⟩ := bd_e hf
      refine zastr E hw (Nat.le_of_ble_eq_true rfl) (ceM_8 ad cy) hσ13 dX12_prove_81 (fun H locs hw => ?_)
      refine lv_iinc (v := (xq2 + 1)) (lv' := [(2, .int (xq2 + 1)), (0, .ref (ad 0))]) hx hb dX12_prove_82 hl (k := 1) rfl (by rfl) (by decide) rfl (fun ls hl => ?_)
      refine lv_goto (tgt := 25) hx hb dX12_prove_85 (by decide) ?_
      exact hkq25 (xq2 + 1) σ13 _ _ _ hw (lv_sub hl [1, 0] rfl) hf
  have hL25 : ∀ (n : Nat) (xq2 : Int32) (σ : Sg) (H : Heap) (locs : List Loc) (ls : Array Slot), ZS D 17 (celM ad cy) ad A s σ H locs → lv_has ls 3 [(0, .ref (ad 0)), (2, .int xq2)] → f_X12_prove_l25 n xq2 σ = some (r, σ9) → W p l e ({ frames := 16, cells := 0, slots := 0, locals := 373 } : Room) s m args below meth c H locs 0 0 (MQ below (zQi D 17 (celM ad cy) ad A r σ9) args s 0 0 A) (F0 m 25 ls []) := by
    intro n
    induction n with
    | zero =>
      intro xq2 σ H locs ls hw hl hf
      exact nn_e hf
    | succ n ih =>
      intro xq2 σ H locs ls hw hl hf
      exact hB25 (f_X12_prove_l25 n) ih xq2 σ H locs ls hw hl hf
  unfold f_X12_prove at hf
  refine lv_iload_n hx hb dX12_prove_0 rfl (lv_at hl 1 rfl) ?_
  refine zcali hw (va_runS (As := [.int xq1]) (rest := []) E.fix (c_X12_isLong (l := l) hA xq1 σ rfl) (zcS E k7_91 k1_14 k7_89 k7_90 mf_X12_isLong rfl rfl ⟨Nat.le_of_ble_eq_true rfl, Nat.le_of_ble_eq_true rfl⟩) (zPre E hw _) rfl rfl hl.1 rfl (lv_room (Nat.le_of_ble_eq_true rfl)) dX12_prove_1 ⟨Nat.zero_le _, Nat.zero_le _⟩) (fun H locs hw => ?_)
  refine lv_if_ne (tgt := 9) hx hb dX12_prove_4 (by decide) (fun h => ?_) (fun h => ?_)
  · replace hf := it_t (b2i_n h) hf
    refine lv_aload_n hx hb dX12_prove_9 rfl (lv_at hl 0 rfl) ?_
    refine lv_aload_n hx hb dX12_prove_10 rfl (lv_at hl 0 rfl) ?_
    refine lv_iload_n hx hb dX12_prove_11 rfl (lv_at hl 1 rfl) ?_
    refine lv_iconst (v := 0) hx hb dX12_prove_12 (by decide) ?_
    obtain ⟨vq1, σ2, hc, hf⟩ := bd2_e hf
    refine zcali hw (va_runV (As := [.int xq1, .int 0]) (rest := [.ref (ad 0)]) E.fix (c_X12_plansOf (l := l) hA xq1 0 σ hc) (zcV E k7_95 k1_14 k7_92 k7_94 kp5_0 mf_X12_plansOf rfl rfl ⟨Nat.le_of_ble_eq_true rfl, Nat.le_of_ble_eq_true rfl⟩) (zPreV E hw (Nat.le_of_ble_eq_true rfl) (ceM_0 ad cy _) rfl _) rfl rfl hl.1 rfl (lv_room (Nat.le_of_ble_eq_true rfl)) dX12_prove_13 ⟨Nat.zero_le _, Nat.zero_le _⟩) (fun H locs hw => ?_)
    refine zputs E hw (Nat.le_of_ble_eq_true rfl) (ceM_0 ad cy _) rfl inX12 tyX12 tyX12_ok nmX12 19 (by decide) k6_2 (fun _ h => h) rfl rfl rfl (Nat.le_of_ble_eq_true rfl) (j := 19) (Eq.trans (ceM_0 ad cy _) (by rfl)) dX12_prove_16 (fun σ3 eσ3 H locs hw => ?_)
    replace hf := lt_i eσ3 hf
    refine lv_aload_n hx hb dX12_prove_19 rfl (lv_at hl 0 rfl) ?_
    obtain ⟨σ4, hc, hf⟩ := bd_e hf
    refine zcalv hw (va_runV (As := []) (rest := []) E.fix (c_X12_puts (l := l) hA σ3 hc) (zcV E k7_36 k1_14 k7_33 k7_35 kp4_9 mf_X12_puts rfl rfl ⟨Nat.le_of_ble_eq_true rfl, Nat.le_of_ble_eq_true rfl⟩) (zPreV E hw (Nat.le_of_ble_eq_true rfl) (ceM_0 ad cy _) rfl _) rfl rfl hl.1 rfl (lv_room (Nat.le_of_ble_eq_true rfl)) dX12_prove_20 ⟨Nat.zero_le _, Nat.zero_le _⟩) (fun H locs hw => ?_)
    refine lv_iconst (v := 0) hx hb dX12_prove_23 (by decide) ?_
    refine lv_istore_n (lv' := [(2, .int 0), (0, .ref (ad 0)), (1, .int xq1)]) hx hb dX12_prove_24 rfl hl (by decide) rfl (fun ls hl => ?_)
    exact hL25 400 0 σ4 _ _ _ hw (lv_sub hl [1, 0] rfl) hf
  · replace hf := it_f (b2i_0 h) hf
    refine lv_iconst (v := (-1)) hx hb dX12_prove_7 (by decide) ?_
    exact zreti E hw hr hlk (rt_a hf) (rt_b hf) dX12_prove_8
set_option maxRecDepth 100000 in
set_option maxHeartbeats 4000000 in
theorem c_X12_isRow {l : Launch} {D : va_G} {cy : Cy} {ad : Nat → Nat} {A : Nat → Prop} (hA : okAd 17 ad A) (xq1 : Int32) (xq2 : Int32) (σ : Sg) {r : Bool} (hf : f_X12_isRow xq1 xq2 σ = r) : Met l yX12_isRow (.code yX12_isRow cX12_isRow 3 (some .boolean) :: TT) ({ frames := 1, cells := 0, slots := 0, locals := 25 } : Room) (zPc D cy 17 (celM ad cy) ad A [.ref (ad 0), .int xq1, .int xq2] σ) (zQi D 17 (celM ad cy) ad A (b2i r) σ) 0 0 A := by
  refine zofW (by decide) hA (Nat.le_of_ble_eq_true rfl) ?_
  intro p e s m args below meth c ls E hw hr hlk hl
  have E : ZE p s m args c cX12_isRow 3 "KiteSummonsModel" D cy 17 ad A := E
  have hx := E.hx
  have hb := E.hb
  have hl : lv_has ls 3 [(0, .ref (ad 0)), (1, .int xq1), (2, .int xq2)] := hl
  unfold f_X12_isRow at hf
  refine lv_iload_n hx hb dX12_isRow_0 rfl (lv_at hl 1 rfl) ?_
  refine lv_i2l hx hb dX12_isRow_1 rfl ?_
  refine lv_lconst (v := 0) hx hb dX12_isRow_2 (by decide) ?_
  refine lv_aload_n hx hb dX12_isRow_3 rfl (lv_at hl 0 rfl) ?_
  refine zget E hw (Nat.le_of_ble_eq_true rfl) (ceM_0 ad cy _) rfl inX12 19 (by decide) k6_2 (fun _ h => h) rfl dX12_isRow_4 ?_
  refine lv_iconst (v := 1) hx hb dX12_isRow_7 (by decide) ?_
  refine lv_isub hx hb dX12_isRow_8 ?_
  refine lv_i2l hx hb dX12_isRow_9 rfl ?_
  refine zcali hw (va_runS (As := [.long xq1.toInt64, .long (0 : Int64), .long (((σ 0 19) - 1).toInt64)]) (rest := []) E.fix (c_X12_in (l := l) hA xq1.toInt64 (0 : Int64) (((σ 0 19) - 1).toInt64) σ rfl) (zcS E k6_114 k1_14 k6_112 k6_113 mf_X12_in rfl rfl ⟨Nat.le_of_ble_eq_true rfl, Nat.le_of_ble_eq_true rfl⟩) (zPre E hw _) rfl rfl hl.1 rfl (lv_room (Nat.le_of_ble_eq_true rfl)) dX12_isRow_10 ⟨Nat.zero_le _, Nat.zero_le _⟩) (fun H locs hw => ?_)
  refine lv_if_eq (tgt := 32) hx hb dX12_isRow_13 (by decide) (fun h => ?_) (fun h => ?_)
  · replace hf := it_f (b2i_0 h) hf
    refine lv_iconst (v := 0) hx hb dX12_isRow_32 (by decide) ?_
    exact zretz E hw hr hlk (b_e hf (by rfl)) rfl dX12_isRow_33
  · replace hf := it_t (b2i_n h) hf
    refine lv_iload_n hx hb dX12_isRow_16 rfl (lv_at hl 2 rfl) ?_
    refine lv_i2l hx hb dX12_isRow_17 rfl ?_
    refine lv_lconst (v := 0) hx hb dX12_isRow_18 (by decide) ?_
    refine lv_ldc2 (v := 2) hx hb E.hown (E.ht _ k7_158) dX12_isRow_19 ?_
    refine zcali hw (va_runS (As := [.long xq2.toInt64, .long (0 : Int64), .long (2 : Int64)]) (rest := []) E.fix (c_X12_in (l := l) hA xq2.toInt64 (0 : Int64) (2 : Int64) σ rfl) (zcS E k6_114 k1_14 k6_112 k6_113 mf_X12_in rfl rfl ⟨Nat.le_of_ble_eq_true rfl, Nat.le_of_ble_eq_true rfl⟩) (zPre E hw _) rfl rfl hl.1 rfl (lv_room (Nat.le_of_ble_eq_true rfl)) dX12_isRow_22 ⟨Nat.zero_le _, Nat.zero_le _⟩) (fun H locs hw => ?_)
    refine lv_if_eq (tgt := 32) hx hb dX12_isRow_25 (by decide) (fun h => ?_) (fun h => ?_)
    · replace hf := it_f (b2i_0 h) hf
      refine lv_iconst (v := 0) hx hb dX12_isRow_32 (by decide) ?_
      exact zretz E hw hr hlk (b_e hf (by rfl)) rfl dX12_isRow_33
    · replace hf := it_t (b2i_n h) hf
      refine lv_iconst (v := 1) hx hb dX12_isRow_28 (by decide) ?_
      refine lv_goto (tgt := 33) hx hb dX12_isRow_29 (by decide) ?_
      exact zretz E hw hr hlk (b_e hf (by rfl)) rfl dX12_isRow_33
set_option maxRecDepth 100000 in
set_option maxHeartbeats 4000000 in
theorem c_X12_row {l : Launch} {D : va_G} {cy : Cy} {ad : Nat → Nat} {A : Nat → Prop} (hA : okAd 17 ad A) (xq1 : Int32) (xq2 : Int32) (σ : Sg) {r : Int32} (hf : f_X12_row xq1 xq2 σ = some r) : Met l yX12_row (.code yX12_row cX12_row 3 (some .int) :: TT) ({ frames := 2, cells := 0, slots := 0, locals := 47 } : Room) (zPc D cy 17 (celM ad cy) ad A [.ref (ad 0), .int xq1, .int xq2] σ) (zQi D 17 (celM ad cy) ad A r σ) 0 0 A := by
  refine zofW (by decide) hA (Nat.le_of_ble_eq_true rfl) ?_
  intro p e s m args below meth c ls E hw hr hlk hl
  have E : ZE p s m args c cX12_row 3 "KiteSummonsModel" D cy 17 ad A := E
  have hx := E.hx
  have hb := E.hb
  have hl : lv_has ls 3 [(0, .ref (ad 0)), (1, .int xq1), (2, .int xq2)] := hl
  unfold f_X12_row at hf
  refine lv_aload_n hx hb dX12_row_0 rfl (lv_at hl 0 rfl) ?_
  refine lv_iload_n hx hb dX12_row_1 rfl (lv_at hl 1 rfl) ?_
  refine lv_iload_n hx hb dX12_row_2 rfl (lv_at hl 2 rfl) ?_
  refine zcali hw (va_runV (As := [.int xq1, .int xq2]) (rest := []) E.fix (c_X12_isRow (l := l) hA xq1 xq2 σ rfl) (zcV E k7_205 k1_14 k7_202 k7_204 kp5_11 mf_X12_isRow rfl rfl ⟨Nat.le_of_ble_eq_true rfl, Nat.le_of_ble_eq_true rfl⟩) (zPreV E hw (Nat.le_of_ble_eq_true rfl) (ceM_0 ad cy _) rfl _) rfl rfl hl.1 rfl (lv_room (Nat.le_of_ble_eq_true rfl)) dX12_row_3 ⟨Nat.zero_le _, Nat.zero_le _⟩) (fun H locs hw => ?_)
  refine lv_if_eq (tgt := 22) hx hb dX12_row_6 (by decide) (fun h => ?_) (fun h => ?_)
  · replace hf := it_f (b2i_0 h) hf
    refine lv_bipush (v := (-9)) hx hb dX12_row_22 (by decide) ?_
    exact zreti E hw hr hlk (rt_1 hf) rfl dX12_row_24
  · replace hf := it_t (b2i_n h) hf
    refine lv_aload_n hx hb dX12_row_9 rfl (lv_at hl 0 rfl) ?_
    refine zget E hw (Nat.le_of_ble_eq_true rfl) (ceM_0 ad cy _) rfl inX12 18 (by decide) k6_1 (fun _ h => h) rfl dX12_row_10 ?_
    refine lv_iconst (v := 3) hx hb dX12_row_13 (by decide) ?_
    refine lv_iload_n hx hb dX12_row_14 rfl (lv_at hl 1 rfl) ?_
    refine lv_imul hx hb dX12_row_15 ?_
    refine lv_iload_n hx hb dX12_row_16 rfl (lv_at hl 2 rfl) ?_
    refine lv_iadd hx hb dX12_row_17 ?_
    obtain ⟨vq1, hvq1, hf⟩ := bd_e hf
    refine zaldr E hw (Nat.le_of_ble_eq_true rfl) (ceM_8 ad cy) hvq1 dX12_row_18 ?_
    refine lv_goto (tgt := 24) hx hb dX12_row_19 (by decide) ?_
    exact zreti E hw hr hlk (rt_1 hf) rfl dX12_row_24
set_option maxRecDepth 100000 in
set_option maxHeartbeats 4000000 in
theorem c_X12_alterRow {l : Launch} {D : va_G} {cy : Cy} {ad : Nat → Nat} {A : Nat → Prop} (hA : okAd 17 ad A) (xq1 : Int32) (xq2 : Int32) (xq3 : Int32) (σ : Sg) {r : Int32} {σ9 : Sg} (hf : f_X12_alterRow xq1 xq2 xq3 σ = some (r, σ9)) : Met l yX12_alterRow (.code yX12_alterRow cX12_alterRow 5 (some .int) :: TT) ({ frames := 2, cells := 0, slots := 0, locals := 47 } : Room) (zPc D cy 17 (celM ad cy) ad A [.ref (ad 0), .int xq1, .int xq2, .int xq3] σ) (zQi D 17 (celM ad cy) ad A r σ9) 0 0 A := by
  refine zofW (by decide) hA (Nat.le_of_ble_eq_true rfl) ?_
  intro p e s m args below meth c ls E hw hr hlk hl
  have E : ZE p s m args c cX12_alterRow 5 "KiteSummonsModel" D cy 17 ad A := E
  have hx := E.hx
  have hb := E.hb
  have hl : lv_has ls 5 [(0, .ref (ad 0)), (1, .int xq1), (2, .int xq2), (3, .int xq3)] := hl
  unfold f_X12_alterRow at hf
  refine lv_aload_n hx hb dX12_alterRow_0 rfl (lv_at hl 0 rfl) ?_
  refine lv_iload_n hx hb dX12_alterRow_1 rfl (lv_at hl 1 rfl) ?_
  refine lv_iload_n hx hb dX12_alterRow_2 rfl (lv_at hl 2 rfl) ?_
  refine zcali hw (va_runV (As := [.int xq1, .int xq2]) (rest := []) E.fix (c_X12_isRow (l := l) hA xq1 xq2 σ rfl) (zcV E k7_205 k1_14 k7_202 k7_204 kp5_11 mf_X12_isRow rfl rfl ⟨Nat.le_of_ble_eq_true rfl, Nat.le_of_ble_eq_true rfl⟩) (zPreV E hw (Nat.le_of_ble_eq_true rfl) (ceM_0 ad cy _) rfl _) rfl rfl hl.1 rfl (lv_room (Nat.le_of_ble_eq_true rfl)) dX12_alterRow_3 ⟨Nat.zero_le _, Nat.zero_le _⟩) (fun H locs hw => ?_)
  refine lv_if_ne (tgt := 12) hx hb dX12_alterRow_6 (by decide) (fun h => ?_) (fun h => ?_)
  · replace hf := it_t (b2i_n h) hf
    refine lv_aload_n hx hb dX12_alterRow_12 rfl (lv_at hl 0 rfl) ?_
    refine zget E hw (Nat.le_of_ble_eq_true rfl) (ceM_0 ad cy _) rfl inX12 18 (by decide) k6_1 (fun _ h => h) rfl dX12_alterRow_13 ?_
    refine lv_iconst (v := 3) hx hb dX12_alterRow_16 (by decide) ?_
    refine lv_iload_n hx hb dX12_alterRow_17 rfl (lv_at hl 1 rfl) ?_
    refine lv_imul hx hb dX12_alterRow_18 ?_
    refine lv_iload_n hx hb dX12_alterRow_19 rfl (lv_at hl 2 rfl) ?_
    refine lv_iadd hx hb dX12_alterRow_20 ?_
    obtain ⟨vq1, hvq1, hf⟩ := bd_e hf
    refine zaldr E hw (Nat.le_of_ble_eq_true rfl) (ceM_8 ad cy) hvq1 dX12_alterRow_21 ?_
    refine lv_istore (lv' := [(4, .int vq1), (0, .ref (ad 0)), (1, .int xq1), (2, .int xq2), (3, .int xq3)]) hx hb dX12_alterRow_22 hl (by decide) rfl (fun ls hl => ?_)
    refine lv_aload_n hx hb dX12_alterRow_24 rfl (lv_at hl 1 rfl) ?_
    refine zget E hw (Nat.le_of_ble_eq_true rfl) (ceM_0 ad cy _) rfl inX12 18 (by decide) k6_1 (fun _ h => h) rfl dX12_alterRow_25 ?_
    refine lv_iconst (v := 3) hx hb dX12_alterRow_28 (by decide) ?_
    refine lv_iload_n hx hb dX12_alterRow_29 rfl (lv_at hl 2 rfl) ?_
    refine lv_imul hx hb dX12_alterRow_30 ?_
    refine lv_iload_n hx hb dX12_alterRow_31 rfl (lv_at hl 3 rfl) ?_
    refine lv_iadd hx hb dX12_alterRow_32 ?_
    refine lv_iload_n hx hb dX12_alterRow_33 rfl (lv_at hl 4 rfl) ?_
    obtain ⟨σ2, hσ2, hf⟩ := bd_e hf
    refine zastr E hw (Nat.le_of_ble_eq_true rfl) (ceM_8 ad cy) hσ2 dX12_alterRow_34 (fun H locs hw => ?_)
    refine lv_iload hx hb dX12_alterRow_35 (lv_at hl 0 rfl) ?_
    exact zreti E hw hr hlk (rt_a hf) (rt_b hf) dX12_alterRow_37
  · replace hf := it_f (b2i_0 h) hf
    refine lv_bipush (v := (-9)) hx hb dX12_alterRow_9 (by decide) ?_
    exact zreti E hw hr hlk (rt_a hf) (rt_b hf) dX12_alterRow_11
set_option maxRecDepth 100000 in
set_option maxHeartbeats 4000000 in
theorem c_X12_isAct {l : Launch} {D : va_G} {cy : Cy} {ad : Nat → Nat} {A : Nat → Prop} (hA : okAd 17 ad A) (xq1 : Int32) (σ : Sg) {r : Bool} (hf : f_X12_isAct xq1 σ = r) : Met l yX12_isAct (.code yX12_isAct cX12_isAct 2 (some .boolean) :: TT) ({ frames := 1, cells := 0, slots := 0, locals := 25 } : Room) (zPc D cy 17 (celM ad cy) ad A [.ref (ad 0), .int xq1] σ) (zQi D 17 (celM ad cy) ad A (b2i r) σ) 0 0 A := by
  refine zofW (by decide) hA (Nat.le_of_ble_eq_true rfl) ?_
  intro p e s m args below meth c ls E hw hr hlk hl
  have E : ZE p s m args c cX12_isAct 2 "KiteSummonsModel" D cy 17 ad A := E
  have hx := E.hx
  have hb := E.hb
  have hl : lv_has ls 2 [(0, .ref (ad 0)), (1, .int xq1)] := hl
  unfold f_X12_isAct at hf
  refine lv_iload_n hx hb dX12_isAct_0 rfl (lv_at hl 1 rfl) ?_
  refine lv_i2l hx hb dX12_isAct_1 rfl ?_
  refine lv_lconst (v := 0) hx hb dX12_isAct_2 (by decide) ?_
  refine lv_aload_n hx hb dX12_isAct_3 rfl (lv_at hl 0 rfl) ?_
  refine zget E hw (Nat.le_of_ble_eq_true rfl) (ceM_0 ad cy _) rfl inX12 0 (by decide) k5_223 (fun _ h => h) rfl dX12_isAct_4 ?_
  refine lv_iconst (v := 0) hx hb dX12_isAct_7 (by decide) ?_
  refine zaldk E hw (Nat.le_of_ble_eq_true rfl) (ceM_1 ad cy) 0 (by rfl) (Nat.le_of_ble_eq_true rfl) (by decide) dX12_isAct_8 ?_
  refine lv_i2l hx hb dX12_isAct_9 rfl ?_
  refine zcali hw (va_runS (As := [.long xq1.toInt64, .long (0 : Int64), .long ((σ 1 0).toInt64)]) (rest := []) E.fix (c_X12_in (l := l) hA xq1.toInt64 (0 : Int64) ((σ 1 0).toInt64) σ rfl) (zcS E k6_114 k1_14 k6_112 k6_113 mf_X12_in rfl rfl ⟨Nat.le_of_ble_eq_true rfl, Nat.le_of_ble_eq_true rfl⟩) (zPre E hw _) rfl rfl hl.1 rfl (lv_room (Nat.le_of_ble_eq_true rfl)) dX12_isAct_10 ⟨Nat.zero_le _, Nat.zero_le _⟩) (fun H locs hw => ?_)
  refine lv_if_eq (tgt := 27) hx hb dX12_isAct_13 (by decide) (fun h => ?_) (fun h => ?_)
  · replace hf := it_f (b2i_0 h) hf
    refine lv_iconst (v := 0) hx hb dX12_isAct_27 (by decide) ?_
    exact zretz E hw hr hlk (b_e hf (by rfl)) rfl dX12_isAct_28
  · replace hf := it_t (b2i_n h) hf
    refine lv_aload_n hx hb dX12_isAct_16 rfl (lv_at hl 0 rfl) ?_
    refine zcali hw (va_runV (As := []) (rest := []) E.fix (c_X12_isOver (l := l) hA σ rfl) (zcV E k6_230 k1_14 k6_227 k6_229 kp4_1 mf_X12_isOver rfl rfl ⟨Nat.le_of_ble_eq_true rfl, Nat.le_of_ble_eq_true rfl⟩) (zPreV E hw (Nat.le_of_ble_eq_true rfl) (ceM_0 ad cy _) rfl _) rfl rfl hl.1 rfl (lv_room (Nat.le_of_ble_eq_true rfl)) dX12_isAct_17 ⟨Nat.zero_le _, Nat.zero_le _⟩) (fun H locs hw => ?_)
    refine lv_if_ne (tgt := 27) hx hb dX12_isAct_20 (by decide) (fun h => ?_) (fun h => ?_)
    · replace hf := it_t (b2i_n h) hf
      refine lv_iconst (v := 0) hx hb dX12_isAct_27 (by decide) ?_
      exact zretz E hw hr hlk (b_e hf (by rfl)) rfl dX12_isAct_28
    · replace hf := it_f (b2i_0 h) hf
      refine lv_iconst (v := 1) hx hb dX12_isAct_23 (by decide) ?_
      refine lv_goto (tgt := 28) hx hb dX12_isAct_24 (by decide) ?_
      exact zretz E hw hr hlk (b_e hf (by rfl)) rfl dX12_isAct_28
set_option maxRecDepth 100000 in
set_option maxHeartbeats 4000000 in
theorem c_X12_judge {l : Launch} {D : va_G} {cy : Cy} {ad : Nat → Nat} {A : Nat → Prop} (hA : okAd 17 ad A) (σ : Sg) {r : Int32} {σ9 : Sg} (hf : f_X12_judge σ = some (r, σ9)) : Met l yX12_judge (.code yX12_judge cX12_judge 4 (some .int) :: TT) ({ frames := 8, cells := 0, slots := 0, locals := 183 } : Room) (zPc D cy 17 (celM ad cy) ad A [.ref (ad 0)] σ) (zQi D 17 (celM ad cy) ad A r σ9) 0 0 A := by
  refine zofW (by decide) hA (Nat.le_of_ble_eq_true rfl) ?_
  intro p e s m args below meth c ls E hw hr hlk hl
  have E : ZE p s m args c cX12_judge 4 "KiteSummonsModel" D cy 17 ad A := E
  have hx := E.hx
  have hb := E.hb
  have hl : lv_has ls 4 [(0, .ref (ad 0))] := hl
  have hB83 : ∀ (xq2 : Int32) (tq0 : Int32) (kq8 : Int32 → Int32 → Sg → Option (Int32 × Sg)) (hkq8 : ∀ (xq1 : Int32) (xq2 : Int32) (σ : Sg) (H : Heap) (locs : List Loc) (ls : Array Slot), ZS D 17 (celM ad cy) ad A s σ H locs → lv_has ls 4 [(0, .ref (ad 0)), (1, .int xq1), (2, .int xq2)] → kq8 xq1 xq2 σ = some (r, σ9) → W p l e ({ frames := 8, cells := 0, slots := 0, locals := 183 } : Room) s m args below meth c H locs 0 0 (MQ below (zQi D 17 (celM ad cy) ad A r σ9) args s 0 0 A) (F0 m 8 ls [])) (σ : Sg) (H : Heap) (locs : List Loc) (ls : Array Slot), ZS D 17 (celM ad cy) ad A s σ H locs → lv_has ls 4 [(0, .ref (ad 0)), (2, .int xq2)] → f_X12_judge_b83 kq8 xq2 tq0 σ = some (r, σ9) → W p l e ({ frames := 8, cells := 0, slots := 0, locals := 183 } : Room) s m args below meth c H locs 0 0 (MQ below (zQi D 17 (celM ad cy) ad A r σ9) args s 0 0 A) (F0 m 83 ls [.int tq0]) := by
    intro xq2 tq0 kq8 hkq8 σ H locs ls hw hl hf
    unfold f_X12_judge_b83 at hf
    refine lv_istore_n (lv' := [(3, .int tq0), (0, .ref (ad 0)), (2, .int xq2)]) hx hb dX12_judge_83 rfl hl (by decide) rfl (fun ls hl => ?_)
    refine lv_iload_n hx hb dX12_judge_84 rfl (lv_at hl 0 rfl) ?_
    refine lv_if_eq (tgt := 92) hx hb dX12_judge_85 (by decide) (fun h => ?_) (fun h => ?_)
    · replace hf := it_t h hf
      refine lv_iload_n hx hb dX12_judge_92 rfl (lv_at hl 2 rfl) ?_
      refine lv_iconst (v := 1) hx hb dX12_judge_93 (by decide) ?_
      refine lv_iadd hx hb dX12_judge_94 ?_
      refine lv_topi (fun vq11 evq11 => ?_)
      replace hf := lt_i evq11 hf
      refine lv_istore_n (lv' := [(1, .int vq11), (3, .int tq0), (0, .ref (ad 0)), (2, .int xq2)]) hx hb dX12_judge_95 rfl hl (by decide) rfl (fun ls hl => ?_)
      refine lv_iinc (v := (xq2 + 1)) (lv' := [(2, .int (xq2 + 1)), (1, .int vq11), (3, .int tq0), (0, .ref (ad 0))]) hx hb dX12_judge_96 hl (k := 3) rfl (by rfl) (by decide) rfl (fun ls hl => ?_)
      refine lv_goto (tgt := 8) hx hb dX12_judge_99 (by decide) ?_
      exact hkq8 vq11 (xq2 + 1) σ _ _ _ hw (lv_sub hl [3, 1, 0] rfl) hf
    · replace hf := it_f h hf
      refine lv_iconst (v := 0) hx hb dX12_judge_88 (by decide) ?_
      refine lv_goto (tgt := 95) hx hb dX12_judge_89 (by decide) ?_
      refine lv_istore_n (lv' := [(1, .int 0), (3, .int tq0), (0, .ref (ad 0)), (2, .int xq2)]) hx hb dX12_judge_95 rfl hl (by decide) rfl (fun ls hl => ?_)
      refine lv_iinc (v := (xq2 + 1)) (lv' := [(2, .int (xq2 + 1)), (1, .int 0), (3, .int tq0), (0, .ref (ad 0))]) hx hb dX12_judge_96 hl (k := 3) rfl (by rfl) (by decide) rfl (fun ls hl => ?_)
      refine lv_goto (tgt := 8) hx hb dX12_judge_99 (by decide) ?_
      exact hkq8 0 (xq2 + 1) σ _ _ _ hw (lv_sub hl [3, 1, 0] rfl) hf
  have hB8 : ∀ (kq8 : Int32 → Int32 → Sg → Option (Int32 × Sg)) (hkq8 : ∀ (xq1 : Int32) (xq2 : Int32) (σ : Sg) (H : Heap) (locs : List Loc) (ls : Array Slot), ZS D 17 (celM ad cy) ad A s σ H locs → lv_has ls 4 [(0, .ref (ad 0)), (1, .int xq1), (2, .int xq2)] → kq8 xq1 xq2 σ = some (r, σ9) → W p l e ({ frames := 8, cells := 0, slots := 0, locals := 183 } : Room) s m args below meth c H locs 0 0 (MQ below (zQi D 17 (celM ad cy) ad A r σ9) args s 0 0 A) (F0 m 8 ls [])) (xq1 : Int32) (xq2 : Int32) (σ : Sg) (H : Heap) (locs : List Loc) (ls : Array Slot), ZS D 17 (celM ad cy) ad A s σ H locs → lv_has ls 4 [(0, .ref (ad 0)), (1, .int xq1), (2, .int xq2)] → f_X12_judge_b8 kq8 xq1 xq2 σ = some (r, σ9) → W p l e ({ frames := 8, cells := 0, slots := 0, locals := 183 } : Room) s m args below meth c H locs 0 0 (MQ below (zQi D 17 (celM ad cy) ad A r σ9) args s 0 0 A) (F0 m 8 ls []) := by
    intro kq8 hkq8 xq1 xq2 σ H locs ls hw hl hf
    unfold f_X12_judge_b8 at hf
    refine lv_iload_n hx hb dX12_judge_8 rfl (lv_at hl 2 rfl) ?_
    refine lv_aload_n hx hb dX12_judge_9 rfl (lv_at hl 0 rfl) ?_
    refine zget E hw (Nat.le_of_ble_eq_true rfl) (ceM_0 ad cy _) rfl inX12 19 (by decide) k6_2 (fun _ h => h) rfl dX12_judge_10 ?_
    refine lv_icmp_ge (tgt := 102) hx hb dX12_judge_13 (by decide) (fun h => ?_) (fun h => ?_)
    · replace hf := it_t h hf
      refine lv_aload_n hx hb dX12_judge_102 rfl (lv_at hl 0 rfl) ?_
      obtain ⟨σ2, hc, hf⟩ := bd_e hf
      refine zcalv hw (va_runV (As := []) (rest := []) E.fix (c_X12_putsBack (l := l) hA σ hc) (zcV E k7_44 k1_14 k7_41 k7_43 kp4_11 mf_X12_putsBack rfl rfl ⟨Nat.le_of_ble_eq_true rfl, Nat.le_of_ble_eq_true rfl⟩) (zPreV E hw (Nat.le_of_ble_eq_true rfl) (ceM_0 ad cy _) rfl _) rfl rfl hl.1 rfl (lv_room (Nat.le_of_ble_eq_true rfl)) dX12_judge_103 ⟨Nat.zero_le _, Nat.zero_le _⟩) (fun H locs hw => ?_)
      refine lv_iload_n hx hb dX12_judge_106 rfl (lv_at hl 1 rfl) ?_
      exact zreti E hw hr hlk (rt_a hf) (rt_b hf) dX12_judge_107
    · replace hf := it_f h hf
      refine lv_iload_n hx hb dX12_judge_16 rfl (lv_at hl 1 rfl) ?_
      refine lv_if_ne (tgt := 102) hx hb dX12_judge_17 (by decide) (fun h => ?_) (fun h => ?_)
      · replace hf := it_t h hf
        refine lv_aload_n hx hb dX12_judge_102 rfl (lv_at hl 0 rfl) ?_
        obtain ⟨σ3, hc, hf⟩ := bd_e hf
        refine zcalv hw (va_runV (As := []) (rest := []) E.fix (c_X12_putsBack (l := l) hA σ hc) (zcV E k7_44 k1_14 k7_41 k7_43 kp4_11 mf_X12_putsBack rfl rfl ⟨Nat.le_of_ble_eq_true rfl, Nat.le_of_ble_eq_true rfl⟩) (zPreV E hw (Nat.le_of_ble_eq_true rfl) (ceM_0 ad cy _) rfl _) rfl rfl hl.1 rfl (lv_room (Nat.le_of_ble_eq_true rfl)) dX12_judge_103 ⟨Nat.zero_le _, Nat.zero_le _⟩) (fun H locs hw => ?_)
        refine lv_iload_n hx hb dX12_judge_106 rfl (lv_at hl 1 rfl) ?_
        exact zreti E hw hr hlk (rt_a hf) (rt_b hf) dX12_judge_107
      · replace hf := it_n h hf
        refine lv_aload_n hx hb dX12_judge_20 rfl (lv_at hl 0 rfl) ?_
        refine lv_aload_n hx hb dX12_judge_21 rfl (lv_at hl 0 rfl) ?_
        refine zget E hw (Nat.le_of_ble_eq_true rfl) (ceM_0 ad cy _) rfl inX12 18 (by decide) k6_1 (fun _ h => h) rfl dX12_judge_22 ?_
        refine lv_iconst (v := 3) hx hb dX12_judge_25 (by decide) ?_
        refine lv_iload_n hx hb dX12_judge_26 rfl (lv_at hl 2 rfl) ?_
        refine lv_imul hx hb dX12_judge_27 ?_
        obtain ⟨vq4, hvq4, hf⟩ := bd_e hf
        refine zaldr E hw (Nat.le_of_ble_eq_true rfl) (ceM_8 ad cy) hvq4 dX12_judge_28 ?_
        refine zcali hw (va_runV (As := [.int vq4]) (rest := []) E.fix (c_X12_isAct (l := l) hA vq4 σ rfl) (zcV E k7_217 k1_14 k7_214 k7_216 kp5_12 mf_X12_isAct rfl rfl ⟨Nat.le_of_ble_eq_true rfl, Nat.le_of_ble_eq_true rfl⟩) (zPreV E hw (Nat.le_of_ble_eq_true rfl) (ceM_0 ad cy _) rfl _) rfl rfl hl.1 rfl (lv_room (Nat.le_of_ble_eq_true rfl)) dX12_judge_29 ⟨Nat.zero_le _, Nat.zero_le _⟩) (fun H locs hw => ?_)
        refine lv_if_eq (tgt := 82) hx hb dX12_judge_32 (by decide) (fun h => ?_) (fun h => ?_)
        · replace hf := it_f (b2i_0 h) hf
          refine lv_iconst (v := 0) hx hb dX12_judge_82 (by decide) ?_
          exact hB83 xq2 0 kq8 hkq8 σ _ _ _ hw (lv_sub hl [0, 2] rfl) hf
        · replace hf := it_t (b2i_n h) hf
          refine lv_aload_n hx hb dX12_judge_35 rfl (lv_at hl 0 rfl) ?_
          refine lv_aload_n hx hb dX12_judge_36 rfl (lv_at hl 0 rfl) ?_
          refine zget E hw (Nat.le_of_ble_eq_true rfl) (ceM_0 ad cy _) rfl inX12 18 (by decide) k6_1 (fun _ h => h) rfl dX12_judge_37 ?_
          refine lv_iconst (v := 3) hx hb dX12_judge_40 (by decide) ?_
          refine lv_iload_n hx hb dX12_judge_41 rfl (lv_at hl 2 rfl) ?_
          refine lv_imul hx hb dX12_judge_42 ?_
          obtain ⟨vq5, hvq5, hf⟩ := bd_e hf
          refine zaldr E hw (Nat.le_of_ble_eq_true rfl) (ceM_8 ad cy) hvq5 dX12_judge_43 ?_
          obtain ⟨vq6, σ7, hc, hf⟩ := bd2_e hf
          refine zcali hw (va_runV (As := [.int vq5]) (rest := []) E.fix (c_X12_goes (l := l) hA vq5 σ hc) (zcV E k7_2 k1_14 k6_239 k7_1 kp4_3 mf_X12_goes rfl rfl ⟨Nat.le_of_ble_eq_true rfl, Nat.le_of_ble_eq_true rfl⟩) (zPreV E hw (Nat.le_of_ble_eq_true rfl) (ceM_0 ad cy _) rfl _) rfl rfl hl.1 rfl (lv_room (Nat.le_of_ble_eq_true rfl)) dX12_judge_44 ⟨Nat.zero_le _, Nat.zero_le _⟩) (fun H locs hw => ?_)
          refine lv_aload_n hx hb dX12_judge_47 rfl (lv_at hl 0 rfl) ?_
          refine zget E hw (Nat.le_of_ble_eq_true rfl) (ceM_0 ad cy _) rfl inX12 18 (by decide) k6_1 (fun _ h => h) rfl dX12_judge_48 ?_
          refine lv_iconst (v := 3) hx hb dX12_judge_51 (by decide) ?_
          refine lv_iload_n hx hb dX12_judge_52 rfl (lv_at hl 2 rfl) ?_
          refine lv_imul hx hb dX12_judge_53 ?_
          refine lv_iconst (v := 1) hx hb dX12_judge_54 (by decide) ?_
          refine lv_iadd hx hb dX12_judge_55 ?_
          obtain ⟨vq8, hvq8, hf⟩ := bd_e hf
          refine zaldr E hw (Nat.le_of_ble_eq_true rfl) (ceM_8 ad cy) hvq8 dX12_judge_56 ?_
          refine lv_icmp_ne (tgt := 82) hx hb dX12_judge_57 (by decide) (fun h => ?_) (fun h => ?_)
          · replace hf := it_t h hf
            refine lv_iconst (v := 0) hx hb dX12_judge_82 (by decide) ?_
            exact hB83 xq2 0 kq8 hkq8 σ7 _ _ _ hw (lv_sub hl [0, 2] rfl) hf
          · replace hf := it_n h hf
            refine lv_aload_n hx hb dX12_judge_60 rfl (lv_at hl 0 rfl) ?_
            refine lv_iconst (v := 5) hx hb dX12_judge_61 (by decide) ?_
            obtain ⟨vq9, hc, hf⟩ := bd_e hf
            refine zcali hw (va_runV (As := [.int 5]) (rest := []) E.fix (c_X12_those (l := l) hA 5 σ7 hc) (zcV E k6_234 k1_14 k6_231 k6_233 kp4_2 mf_X12_those rfl rfl ⟨Nat.le_of_ble_eq_true rfl, Nat.le_of_ble_eq_true rfl⟩) (zPreV E hw (Nat.le_of_ble_eq_true rfl) (ceM_0 ad cy _) rfl _) rfl rfl hl.1 rfl (lv_room (Nat.le_of_ble_eq_true rfl)) dX12_judge_62 ⟨Nat.zero_le _, Nat.zero_le _⟩) (fun H locs hw => ?_)
            refine lv_aload_n hx hb dX12_judge_65 rfl (lv_at hl 0 rfl) ?_
            refine zget E hw (Nat.le_of_ble_eq_true rfl) (ceM_0 ad cy _) rfl inX12 18 (by decide) k6_1 (fun _ h => h) rfl dX12_judge_66 ?_
            refine lv_iconst (v := 3) hx hb dX12_judge_69 (by decide) ?_
            refine lv_iload_n hx hb dX12_judge_70 rfl (lv_at hl 2 rfl) ?_
            refine lv_imul hx hb dX12_judge_71 ?_
            refine lv_iconst (v := 2) hx hb dX12_judge_72 (by decide) ?_
            refine lv_iadd hx hb dX12_judge_73 ?_
            obtain ⟨vq10, hvq10, hf⟩ := bd_e hf
            refine zaldr E hw (Nat.le_of_ble_eq_true rfl) (ceM_8 ad cy) hvq10 dX12_judge_74 ?_
            refine lv_icmp_ne (tgt := 82) hx hb dX12_judge_75 (by decide) (fun h => ?_) (fun h => ?_)
            · replace hf := it_t h hf
              refine lv_iconst (v := 0) hx hb dX12_judge_82 (by decide) ?_
              exact hB83 xq2 0 kq8 hkq8 σ7 _ _ _ hw (lv_sub hl [0, 2] rfl) hf
            · replace hf := it_n h hf
              refine lv_iconst (v := 1) hx hb dX12_judge_78 (by decide) ?_
              refine lv_goto (tgt := 83) hx hb dX12_judge_79 (by decide) ?_
              exact hB83 xq2 1 kq8 hkq8 σ7 _ _ _ hw (lv_sub hl [0, 2] rfl) hf
  have hL8 : ∀ (n : Nat) (xq1 : Int32) (xq2 : Int32) (σ : Sg) (H : Heap) (locs : List Loc) (ls : Array Slot), ZS D 17 (celM ad cy) ad A s σ H locs → lv_has ls 4 [(0, .ref (ad 0)), (1, .int xq1), (2, .int xq2)] → f_X12_judge_l8 n xq1 xq2 σ = some (r, σ9) → W p l e ({ frames := 8, cells := 0, slots := 0, locals := 183 } : Room) s m args below meth c H locs 0 0 (MQ below (zQi D 17 (celM ad cy) ad A r σ9) args s 0 0 A) (F0 m 8 ls []) := by
    intro n
    induction n with
    | zero =>
      intro xq1 xq2 σ H locs ls hw hl hf
      exact nn_e hf
    | succ n ih =>
      intro xq1 xq2 σ H locs ls hw hl hf
      exact hB8 (f_X12_judge_l8 n) ih xq1 xq2 σ H locs ls hw hl hf
  unfold f_X12_judge at hf
  refine lv_aload_n hx hb dX12_judge_0 rfl (lv_at hl 0 rfl) ?_
  obtain ⟨σ1, hc, hf⟩ := bd_e hf
  refine zcalv hw (va_runV (As := []) (rest := []) E.fix (c_X12_puts (l := l) hA σ hc) (zcV E k7_36 k1_14 k7_33 k7_35 kp4_9 mf_X12_puts rfl rfl ⟨Nat.le_of_ble_eq_true rfl, Nat.le_of_ble_eq_true rfl⟩) (zPreV E hw (Nat.le_of_ble_eq_true rfl) (ceM_0 ad cy _) rfl _) rfl rfl hl.1 rfl (lv_room (Nat.le_of_ble_eq_true rfl)) dX12_judge_1 ⟨Nat.zero_le _, Nat.zero_le _⟩) (fun H locs hw => ?_)
  refine lv_iconst (v := 0) hx hb dX12_judge_4 (by decide) ?_
  refine lv_istore_n (lv' := [(1, .int 0), (0, .ref (ad 0))]) hx hb dX12_judge_5 rfl hl (by decide) rfl (fun ls hl => ?_)
  refine lv_iconst (v := 0) hx hb dX12_judge_6 (by decide) ?_
  refine lv_istore_n (lv' := [(2, .int 0), (1, .int 0), (0, .ref (ad 0))]) hx hb dX12_judge_7 rfl hl (by decide) rfl (fun ls hl => ?_)
  exact hL8 400 0 0 σ1 _ _ _ hw (lv_sub hl [2, 1, 0] rfl) hf
set_option maxRecDepth 100000 in
set_option maxHeartbeats 4000000 in
theorem c_X12_isOne {l : Launch} {D : va_G} {cy : Cy} {ad : Nat → Nat} {A : Nat → Prop} (hA : okAd 17 ad A) (xq0 : Int32) (σ : Sg) {r : Bool} (hf : f_X12_isOne xq0 σ = r) : Met l yX12_isOne (.code yX12_isOne cX12_isOne 1 (some .boolean) :: TT) ({ frames := 1, cells := 0, slots := 0, locals := 25 } : Room) (zPc D cy 17 (celM ad cy) ad A [.int xq0] σ) (zQi D 17 (celM ad cy) ad A (b2i r) σ) 0 0 A := by
  refine zofW (by decide) hA (Nat.le_of_ble_eq_true rfl) ?_
  intro p e s m args below meth c ls E hw hr hlk hl
  have E : ZE p s m args c cX12_isOne 1 "KiteSummonsModel" D cy 17 ad A := E
  have hx := E.hx
  have hb := E.hb
  have hl : lv_has ls 1 [(0, .int xq0)] := hl
  unfold f_X12_isOne at hf
  refine lv_iload_n hx hb dX12_isOne_0 rfl (lv_at hl 0 rfl) ?_
  refine lv_i2l hx hb dX12_isOne_1 rfl ?_
  refine lv_lconst (v := 0) hx hb dX12_isOne_2 (by decide) ?_
  refine lv_ldc2 (v := 3) hx hb E.hown (E.ht _ k7_116) dX12_isOne_3 ?_
  refine zcali hw (va_runS (As := [.long xq0.toInt64, .long (0 : Int64), .long (3 : Int64)]) (rest := []) E.fix (c_X12_in (l := l) hA xq0.toInt64 (0 : Int64) (3 : Int64) σ rfl) (zcS E k6_114 k1_14 k6_112 k6_113 mf_X12_in rfl rfl ⟨Nat.le_of_ble_eq_true rfl, Nat.le_of_ble_eq_true rfl⟩) (zPre E hw _) rfl rfl hl.1 rfl (lv_room (Nat.le_of_ble_eq_true rfl)) dX12_isOne_6 ⟨Nat.zero_le _, Nat.zero_le _⟩) (fun H locs hw => ?_)
  exact zretz E hw hr hlk (b_e hf (by rfl)) rfl dX12_isOne_9
set_option maxRecDepth 100000 in
set_option maxHeartbeats 4000000 in
theorem c_X12_sheet {l : Launch} {D : va_G} {cy : Cy} {ad : Nat → Nat} {A : Nat → Prop} (hA : okAd 17 ad A) (xq1 : Int32) (xq2 : Int32) (xq3 : Int32) (σ : Sg) {r : Int32} {σ9 : Sg} (hf : f_X12_sheet xq1 xq2 xq3 σ = some (r, σ9)) : Met l yX12_sheet (.code yX12_sheet cX12_sheet 5 (some .int) :: TT) ({ frames := 2, cells := 0, slots := 0, locals := 45 } : Room) (zPc D cy 17 (celM ad cy) ad A [.ref (ad 0), .int xq1, .int xq2, .int xq3] σ) (zQi D 17 (celM ad cy) ad A r σ9) 0 0 A := by
  refine zofW (by decide) hA (Nat.le_of_ble_eq_true rfl) ?_
  intro p e s m args below meth c ls E hw hr hlk hl
  have E : ZE p s m args c cX12_sheet 5 "KiteSummonsModel" D cy 17 ad A := E
  have hx := E.hx
  have hb := E.hb
  have hl : lv_has ls 5 [(0, .ref (ad 0)), (1, .int xq1), (2, .int xq2), (3, .int xq3)] := hl
  have hB69 : ∀ (xq1 : Int32) (kq69 : Int32 → Sg → Option (Int32 × Sg)) (hkq69 : ∀ (xq4 : Int32) (σ : Sg) (H : Heap) (locs : List Loc) (ls : Array Slot), ZS D 17 (celM ad cy) ad A s σ H locs → lv_has ls 5 [(0, .ref (ad 0)), (1, .int xq1), (4, .int xq4)] → kq69 xq4 σ = some (r, σ9) → W p l e ({ frames := 2, cells := 0, slots := 0, locals := 45 } : Room) s m args below meth c H locs 0 0 (MQ below (zQi D 17 (celM ad cy) ad A r σ9) args s 0 0 A) (F0 m 69 ls [])) (xq4 : Int32) (σ : Sg) (H : Heap) (locs : List Loc) (ls : Array Slot), ZS D 17 (celM ad cy) ad A s σ H locs → lv_has ls 5 [(0, .ref (ad 0)), (1, .int xq1), (4, .int xq4)] → f_X12_sheet_b69 kq69 xq1 xq4 σ = some (r, σ9) → W p l e ({ frames := 2, cells := 0, slots := 0, locals := 45 } : Room) s m args below meth c H locs 0 0 (MQ below (zQi D 17 (celM ad cy) ad A r σ9) args s 0 0 A) (F0 m 69 ls []) := by
    intro xq1 kq69 hkq69 xq4 σ H locs ls hw hl hf
    unfold f_X12_sheet_b69 at hf
    refine lv_iload hx hb dX12_sheet_69 (lv_at hl 2 rfl) ?_
    refine lv_bipush (v := 40) hx hb dX12_sheet_71 (by decide) ?_
    refine lv_icmp_ge (tgt := 95) hx hb dX12_sheet_73 (by decide) (fun h => ?_) (fun h => ?_)
    · replace hf := it_t h hf
      refine lv_iconst (v := 1) hx hb dX12_sheet_95 (by decide) ?_
      exact zreti E hw hr hlk (rt_a hf) (rt_b hf) dX12_sheet_96
    · replace hf := it_f h hf
      refine lv_aload_n hx hb dX12_sheet_76 rfl (lv_at hl 0 rfl) ?_
      refine zget E hw (Nat.le_of_ble_eq_true rfl) (ceM_0 ad cy _) rfl inX12 30 (by decide) k6_13 (fun _ h => h) rfl dX12_sheet_77 ?_
      refine lv_bipush (v := 40) hx hb dX12_sheet_80 (by decide) ?_
      refine lv_iload_n hx hb dX12_sheet_82 rfl (lv_at hl 1 rfl) ?_
      refine lv_imul hx hb dX12_sheet_83 ?_
      refine lv_iload hx hb dX12_sheet_84 (lv_at hl 2 rfl) ?_
      refine lv_iadd hx hb dX12_sheet_86 ?_
      refine lv_iconst (v := 0) hx hb dX12_sheet_87 (by decide) ?_
      obtain ⟨σ4, hσ4, hf⟩ := bd_e hf
      refine zastr E hw (Nat.le_of_ble_eq_true rfl) (ceM_12 ad cy) hσ4 dX12_sheet_88 (fun H locs hw => ?_)
      refine lv_iinc (v := (xq4 + 1)) (lv' := [(4, .int (xq4 + 1)), (0, .ref (ad 0)), (1, .int xq1)]) hx hb dX12_sheet_89 hl (k := 2) rfl (by rfl) (by decide) rfl (fun ls hl => ?_)
      refine lv_goto (tgt := 69) hx hb dX12_sheet_92 (by decide) ?_
      exact hkq69 (xq4 + 1) σ4 _ _ _ hw (lv_sub hl [1, 2, 0] rfl) hf
  have hL69 : ∀ (xq1 : Int32) (n : Nat) (xq4 : Int32) (σ : Sg) (H : Heap) (locs : List Loc) (ls : Array Slot), ZS D 17 (celM ad cy) ad A s σ H locs → lv_has ls 5 [(0, .ref (ad 0)), (1, .int xq1), (4, .int xq4)] → f_X12_sheet_l69 xq1 n xq4 σ = some (r, σ9) → W p l e ({ frames := 2, cells := 0, slots := 0, locals := 45 } : Room) s m args below meth c H locs 0 0 (MQ below (zQi D 17 (celM ad cy) ad A r σ9) args s 0 0 A) (F0 m 69 ls []) := by
    intro xq1 n
    induction n with
    | zero =>
      intro xq4 σ H locs ls hw hl hf
      exact nn_e hf
    | succ n ih =>
      intro xq4 σ H locs ls hw hl hf
      exact hB69 xq1 (f_X12_sheet_l69 xq1 n) ih xq4 σ H locs ls hw hl hf
  have hB44 : ∀ (xq1 : Int32) (xq2 : Int32) (xq3 : Int32) (σ : Sg) (H : Heap) (locs : List Loc) (ls : Array Slot), ZS D 17 (celM ad cy) ad A s σ H locs → lv_has ls 5 [(0, .ref (ad 0)), (1, .int xq1), (2, .int xq2), (3, .int xq3)] → f_X12_sheet_b44 xq1 xq2 xq3 σ = some (r, σ9) → W p l e ({ frames := 2, cells := 0, slots := 0, locals := 45 } : Room) s m args below meth c H locs 0 0 (MQ below (zQi D 17 (celM ad cy) ad A r σ9) args s 0 0 A) (F0 m 44 ls []) := by
    intro xq1 xq2 xq3 σ H locs ls hw hl hf
    unfold f_X12_sheet_b44 at hf
    refine lv_aload_n hx hb dX12_sheet_44 rfl (lv_at hl 0 rfl) ?_
    refine zget E hw (Nat.le_of_ble_eq_true rfl) (ceM_0 ad cy _) rfl inX12 28 (by decide) k6_11 (fun _ h => h) rfl dX12_sheet_45 ?_
    refine lv_iload_n hx hb dX12_sheet_48 rfl (lv_at hl 1 rfl) ?_
    refine lv_iload_n hx hb dX12_sheet_49 rfl (lv_at hl 2 rfl) ?_
    obtain ⟨σ1, hσ1, hf⟩ := bd_e hf
    refine zastr E hw (Nat.le_of_ble_eq_true rfl) (ceM_10 ad cy) hσ1 dX12_sheet_50 (fun H locs hw => ?_)
    refine lv_aload_n hx hb dX12_sheet_51 rfl (lv_at hl 0 rfl) ?_
    refine zget E hw (Nat.le_of_ble_eq_true rfl) (ceM_0 ad cy _) rfl inX12 29 (by decide) k6_12 (fun _ h => h) rfl dX12_sheet_52 ?_
    refine lv_iload_n hx hb dX12_sheet_55 rfl (lv_at hl 1 rfl) ?_
    refine lv_iload_n hx hb dX12_sheet_56 rfl (lv_at hl 2 rfl) ?_
    refine lv_if_ge (tgt := 64) hx hb dX12_sheet_57 (by decide) (fun h => ?_) (fun h => ?_)
    · replace hf := it_t h hf
      refine lv_iload_n hx hb dX12_sheet_64 rfl (lv_at hl 3 rfl) ?_
      obtain ⟨σ2, hσ2, hf⟩ := bd_e hf
      refine zastr E hw (Nat.le_of_ble_eq_true rfl) (ceM_11 ad cy) hσ2 dX12_sheet_65 (fun H locs hw => ?_)
      refine lv_iconst (v := 0) hx hb dX12_sheet_66 (by decide) ?_
      refine lv_istore (lv' := [(4, .int 0), (0, .ref (ad 0)), (1, .int xq1), (2, .int xq2), (3, .int xq3)]) hx hb dX12_sheet_67 hl (by decide) rfl (fun ls hl => ?_)
      exact hL69 xq1 400 0 σ2 _ _ _ hw (lv_sub hl [1, 2, 0] rfl) hf
    · replace hf := it_f h hf
      refine lv_iconst (v := 0) hx hb dX12_sheet_60 (by decide) ?_
      refine lv_goto (tgt := 65) hx hb dX12_sheet_61 (by decide) ?_
      obtain ⟨σ3, hσ3, hf⟩ := bd_e hf
      refine zastr E hw (Nat.le_of_ble_eq_true rfl) (ceM_11 ad cy) hσ3 dX12_sheet_65 (fun H locs hw => ?_)
      refine lv_iconst (v := 0) hx hb dX12_sheet_66 (by decide) ?_
      refine lv_istore (lv' := [(4, .int 0), (0, .ref (ad 0)), (1, .int xq1), (2, .int xq2), (3, .int xq3)]) hx hb dX12_sheet_67 hl (by decide) rfl (fun ls hl => ?_)
      exact hL69 xq1 400 0 σ3 _ _ _ hw (lv_sub hl [1, 2, 0] rfl) hf
  have hB33 : ∀ (xq1 : Int32) (xq2 : Int32) (xq3 : Int32) (σ : Sg) (H : Heap) (locs : List Loc) (ls : Array Slot), ZS D 17 (celM ad cy) ad A s σ H locs → lv_has ls 5 [(0, .ref (ad 0)), (1, .int xq1), (2, .int xq2), (3, .int xq3)] → f_X12_sheet_b33 xq1 xq2 xq3 σ = some (r, σ9) → W p l e ({ frames := 2, cells := 0, slots := 0, locals := 45 } : Room) s m args below meth c H locs 0 0 (MQ below (zQi D 17 (celM ad cy) ad A r σ9) args s 0 0 A) (F0 m 33 ls []) := by
    intro xq1 xq2 xq3 σ H locs ls hw hl hf
    unfold f_X12_sheet_b33 at hf
    refine lv_iload_n hx hb dX12_sheet_33 rfl (lv_at hl 2 rfl) ?_
    refine lv_if_lt (tgt := 44) hx hb dX12_sheet_34 (by decide) (fun h => ?_) (fun h => ?_)
    · replace hf := it_t h hf
      exact hB44 xq1 xq2 xq3 σ _ _ _ hw (lv_sub hl [0, 1, 2, 3] rfl) hf
    · replace hf := it_f h hf
      refine lv_iload_n hx hb dX12_sheet_37 rfl (lv_at hl 3 rfl) ?_
      refine lv_if_ge (tgt := 44) hx hb dX12_sheet_38 (by decide) (fun h => ?_) (fun h => ?_)
      · replace hf := it_t h hf
        exact hB44 xq1 xq2 xq3 σ _ _ _ hw (lv_sub hl [0, 1, 2, 3] rfl) hf
      · replace hf := it_f h hf
        refine lv_bipush (v := (-14)) hx hb dX12_sheet_41 (by decide) ?_
        exact zreti E hw hr hlk (rt_a hf) (rt_b hf) dX12_sheet_43
  unfold f_X12_sheet at hf
  refine lv_iload_n hx hb dX12_sheet_0 rfl (lv_at hl 1 rfl) ?_
  refine zcali hw (va_runS (As := [.int xq1]) (rest := []) E.fix (c_X12_isOne (l := l) hA xq1 σ rfl) (zcS E k8_80 k1_14 k8_78 k8_79 mf_X12_isOne rfl rfl ⟨Nat.le_of_ble_eq_true rfl, Nat.le_of_ble_eq_true rfl⟩) (zPre E hw _) rfl rfl hl.1 rfl (lv_room (Nat.le_of_ble_eq_true rfl)) dX12_sheet_1 ⟨Nat.zero_le _, Nat.zero_le _⟩) (fun H locs hw => ?_)
  refine lv_if_eq (tgt := 31) hx hb dX12_sheet_4 (by decide) (fun h => ?_) (fun h => ?_)
  · replace hf := it_f (b2i_0 h) hf
    refine lv_iconst (v := (-1)) hx hb dX12_sheet_31 (by decide) ?_
    exact zreti E hw hr hlk (rt_a hf) (rt_b hf) dX12_sheet_32
  · replace hf := it_t (b2i_n h) hf
    refine lv_iload_n hx hb dX12_sheet_7 rfl (lv_at hl 2 rfl) ?_
    refine lv_i2l hx hb dX12_sheet_8 rfl ?_
    refine lv_ldc2 (v := (-1)) hx hb E.hown (E.ht _ k8_81) dX12_sheet_9 ?_
    refine lv_ldc2 (v := 4) hx hb E.hown (E.ht _ k6_126) dX12_sheet_12 ?_
    refine zcali hw (va_runS (As := [.long xq2.toInt64, .long (-1 : Int64), .long (4 : Int64)]) (rest := []) E.fix (c_X12_in (l := l) hA xq2.toInt64 (-1 : Int64) (4 : Int64) σ rfl) (zcS E k6_114 k1_14 k6_112 k6_113 mf_X12_in rfl rfl ⟨Nat.le_of_ble_eq_true rfl, Nat.le_of_ble_eq_true rfl⟩) (zPre E hw _) rfl rfl hl.1 rfl (lv_room (Nat.le_of_ble_eq_true rfl)) dX12_sheet_15 ⟨Nat.zero_le _, Nat.zero_le _⟩) (fun H locs hw => ?_)
    refine lv_if_eq (tgt := 31) hx hb dX12_sheet_18 (by decide) (fun h => ?_) (fun h => ?_)
    · replace hf := it_f (b2i_0 h) hf
      refine lv_iconst (v := (-1)) hx hb dX12_sheet_31 (by decide) ?_
      exact zreti E hw hr hlk (rt_a hf) (rt_b hf) dX12_sheet_32
    · replace hf := it_t (b2i_n h) hf
      refine lv_iload_n hx hb dX12_sheet_21 rfl (lv_at hl 2 rfl) ?_
      refine lv_if_lt (tgt := 33) hx hb dX12_sheet_22 (by decide) (fun h => ?_) (fun h => ?_)
      · replace hf := it_t h hf
        exact hB33 xq1 xq2 xq3 σ _ _ _ hw (lv_sub hl [0, 1, 2, 3] rfl) hf
      · replace hf := it_f h hf
        refine lv_iload_n hx hb dX12_sheet_25 rfl (lv_at hl 3 rfl) ?_
        refine lv_bipush (v := 40) hx hb dX12_sheet_26 (by decide) ?_
        refine lv_icmp_le (tgt := 33) hx hb dX12_sheet_28 (by decide) (fun h => ?_) (fun h => ?_)
        · replace hf := it_t h hf
          exact hB33 xq1 xq2 xq3 σ _ _ _ hw (lv_sub hl [0, 1, 2, 3] rfl) hf
        · replace hf := it_f h hf
          refine lv_iconst (v := (-1)) hx hb dX12_sheet_31 (by decide) ?_
          exact zreti E hw hr hlk (rt_a hf) (rt_b hf) dX12_sheet_32
set_option maxRecDepth 100000 in
set_option maxHeartbeats 4000000 in
theorem c_X12_narrowed {l : Launch} {D : va_G} {cy : Cy} {ad : Nat → Nat} {A : Nat → Prop} (hA : okAd 17 ad A) (xq0 : Int32) (xq1 : Int32) (σ : Sg) {r : Int32} (hf : f_X12_narrowed xq0 xq1 σ = r) : Met l yX12_narrowed (.code yX12_narrowed cX12_narrowed 2 (some .int) :: TT) ({ frames := 0, cells := 0, slots := 0, locals := 0 } : Room) (zPc D cy 17 (celM ad cy) ad A [.int xq0, .int xq1] σ) (zQi D 17 (celM ad cy) ad A r σ) 0 0 A := by
  refine zofW (by decide) hA (Nat.le_of_ble_eq_true rfl) ?_
  intro p e s m args below meth c ls E hw hr hlk hl
  have E : ZE p s m args c cX12_narrowed 2 "KiteSummonsModel" D cy 17 ad A := E
  have hx := E.hx
  have hb := E.hb
  have hl : lv_has ls 2 [(0, .int xq0), (1, .int xq1)] := hl
  unfold f_X12_narrowed at hf
  refine lv_iload_n hx hb dX12_narrowed_0 rfl (lv_at hl 0 rfl) ?_
  refine lv_if_ne (tgt := 9) hx hb dX12_narrowed_1 (by decide) (fun h => ?_) (fun h => ?_)
  · replace hf := it_t h hf
    refine lv_iload_n hx hb dX12_narrowed_9 rfl (lv_at hl 0 rfl) ?_
    refine lv_iconst (v := 1) hx hb dX12_narrowed_10 (by decide) ?_
    refine lv_icmp_ne (tgt := 19) hx hb dX12_narrowed_11 (by decide) (fun h => ?_) (fun h => ?_)
    · replace hf := it_t h hf
      refine lv_iload_n hx hb dX12_narrowed_19 rfl (lv_at hl 0 rfl) ?_
      refine lv_iconst (v := 4) hx hb dX12_narrowed_20 (by decide) ?_
      refine lv_icmp_ne (tgt := 36) hx hb dX12_narrowed_21 (by decide) (fun h => ?_) (fun h => ?_)
      · replace hf := it_t h hf
        refine lv_iload_n hx hb dX12_narrowed_36 rfl (lv_at hl 1 rfl) ?_
        exact zreti E hw hr hlk hf rfl dX12_narrowed_37
      · replace hf := it_n h hf
        refine lv_iload_n hx hb dX12_narrowed_24 rfl (lv_at hl 1 rfl) ?_
        refine lv_if_ne (tgt := 32) hx hb dX12_narrowed_25 (by decide) (fun h => ?_) (fun h => ?_)
        · replace hf := it_t h hf
          refine lv_iconst (v := 1) hx hb dX12_narrowed_32 (by decide) ?_
          refine lv_goto (tgt := 37) hx hb dX12_narrowed_33 (by decide) ?_
          exact zreti E hw hr hlk hf rfl dX12_narrowed_37
        · replace hf := it_n h hf
          refine lv_iconst (v := 0) hx hb dX12_narrowed_28 (by decide) ?_
          refine lv_goto (tgt := 37) hx hb dX12_narrowed_29 (by decide) ?_
          exact zreti E hw hr hlk hf rfl dX12_narrowed_37
    · replace hf := it_n h hf
      refine lv_iload_n hx hb dX12_narrowed_14 rfl (lv_at hl 1 rfl) ?_
      refine lv_i2s hx hb dX12_narrowed_15 rfl ?_
      refine lv_goto (tgt := 37) hx hb dX12_narrowed_16 (by decide) ?_
      exact zreti E hw hr hlk hf rfl dX12_narrowed_37
  · replace hf := it_n h hf
    refine lv_iload_n hx hb dX12_narrowed_4 rfl (lv_at hl 1 rfl) ?_
    refine lv_i2b hx hb dX12_narrowed_5 rfl ?_
    refine lv_goto (tgt := 37) hx hb dX12_narrowed_6 (by decide) ?_
    exact zreti E hw hr hlk hf rfl dX12_narrowed_37
