set_option maxRecDepth 100000 in
set_option maxHeartbeats 4000000 in
theorem c_X12_in {l : Launch} {D : va_G} {cy : Cy} {ad : Nat → Nat} {A : Nat → Prop} (hA : okAd 17 ad A) (xq0 : Int64) (xq2 : Int64) (xq4 : Int64) (σ : Sg) {r : Bool} (hf : f_X12_in xq0 xq2 xq4 σ = r) : Met l yX12_in (.code yX12_in cX12_in 6 (some .boolean) :: TT) ({ frames := 0, cells := 0, slots := 0, locals := 0 } : Room) (zPc D cy 17 (celM ad cy) ad A [.long xq0, .long xq2, .long xq4] σ) (zQi D 17 (celM ad cy) ad A (b2i r) σ) 0 0 A := by
  refine zofW (by decide) hA (Nat.le_of_ble_eq_true rfl) ?_
  intro p e s m args below meth c ls E hw hr hlk hl
  have E : ZE p s m args c cX12_in 6 "KiteSummonsModel" D cy 17 ad A := E
  have hx := E.hx
  have hb := E.hb
  have hl : lv_has ls 6 [(0, .long xq0), (2, .long xq2), (4, .long xq4)] := hl
  unfold f_X12_in at hf
  refine lv_lload_n hx hb dX12_in_0 rfl (lv_at hl 0 rfl) ?_
  refine lv_lload_n hx hb dX12_in_1 rfl (lv_at hl 1 rfl) ?_
  refine W.lcmp hx hb dX12_in_2 ?_
  refine lv_if_lt (tgt := 17) hx hb dX12_in_3 (by decide) (fun h => ?_) (fun h => ?_)
  · replace hf := it_t h hf
    refine lv_iconst (v := 0) hx hb dX12_in_17 (by decide) ?_
    exact zretz E hw hr hlk (b_e hf (by rfl)) rfl dX12_in_18
  · replace hf := it_f h hf
    refine lv_lload_n hx hb dX12_in_6 rfl (lv_at hl 0 rfl) ?_
    refine lv_lload hx hb dX12_in_7 (lv_at hl 2 rfl) ?_
    refine W.lcmp hx hb dX12_in_9 ?_
    refine lv_if_gt (tgt := 17) hx hb dX12_in_10 (by decide) (fun h => ?_) (fun h => ?_)
    · replace hf := it_t h hf
      refine lv_iconst (v := 0) hx hb dX12_in_17 (by decide) ?_
      exact zretz E hw hr hlk (b_e hf (by rfl)) rfl dX12_in_18
    · replace hf := it_f h hf
      refine lv_iconst (v := 1) hx hb dX12_in_13 (by decide) ?_
      refine lv_goto (tgt := 18) hx hb dX12_in_14 (by decide) ?_
      exact zretz E hw hr hlk (b_e hf (by rfl)) rfl dX12_in_18
set_option maxRecDepth 100000 in
set_option maxHeartbeats 4000000 in
theorem c_X12_isKind {l : Launch} {D : va_G} {cy : Cy} {ad : Nat → Nat} {A : Nat → Prop} (hA : okAd 17 ad A) (xq0 : Int32) (σ : Sg) {r : Bool} (hf : f_X12_isKind xq0 σ = r) : Met l yX12_isKind (.code yX12_isKind cX12_isKind 1 (some .boolean) :: TT) ({ frames := 1, cells := 0, slots := 0, locals := 25 } : Room) (zPc D cy 17 (celM ad cy) ad A [.int xq0] σ) (zQi D 17 (celM ad cy) ad A (b2i r) σ) 0 0 A := by
  refine zofW (by decide) hA (Nat.le_of_ble_eq_true rfl) ?_
  intro p e s m args below meth c ls E hw hr hlk hl
  have E : ZE p s m args c cX12_isKind 1 "KiteSummonsModel" D cy 17 ad A := E
  have hx := E.hx
  have hb := E.hb
  have hl : lv_has ls 1 [(0, .int xq0)] := hl
  unfold f_X12_isKind at hf
  refine lv_iload_n hx hb dX12_isKind_0 rfl (lv_at hl 0 rfl) ?_
  refine lv_i2l hx hb dX12_isKind_1 rfl ?_
  refine lv_lconst (v := 1) hx hb dX12_isKind_2 (by decide) ?_
  refine lv_ldc2 (v := 5) hx hb E.hown (E.ht _ k6_111) dX12_isKind_3 ?_
  refine zcali hw (va_runS (As := [.long xq0.toInt64, .long (1 : Int64), .long (5 : Int64)]) (rest := []) E.fix (c_X12_in (l := l) hA xq0.toInt64 (1 : Int64) (5 : Int64) σ rfl) (zcS E k6_114 k1_14 k6_112 k6_113 mf_X12_in rfl rfl ⟨Nat.le_of_ble_eq_true rfl, Nat.le_of_ble_eq_true rfl⟩) (zPre E hw _) rfl rfl hl.1 rfl (lv_room (Nat.le_of_ble_eq_true rfl)) dX12_isKind_6 ⟨Nat.zero_le _, Nat.zero_le _⟩) (fun H locs hw => ?_)
  exact zretz E hw hr hlk (b_e hf (by rfl)) rfl dX12_isKind_9
set_option maxRecDepth 100000 in
set_option maxHeartbeats 4000000 in
theorem c_X12_isCell {l : Launch} {D : va_G} {cy : Cy} {ad : Nat → Nat} {A : Nat → Prop} (hA : okAd 17 ad A) (xq0 : Int32) (σ : Sg) {r : Bool} (hf : f_X12_isCell xq0 σ = r) : Met l yX12_isCell (.code yX12_isCell cX12_isCell 1 (some .boolean) :: TT) ({ frames := 1, cells := 0, slots := 0, locals := 25 } : Room) (zPc D cy 17 (celM ad cy) ad A [.int xq0] σ) (zQi D 17 (celM ad cy) ad A (b2i r) σ) 0 0 A := by
  refine zofW (by decide) hA (Nat.le_of_ble_eq_true rfl) ?_
  intro p e s m args below meth c ls E hw hr hlk hl
  have E : ZE p s m args c cX12_isCell 1 "KiteSummonsModel" D cy 17 ad A := E
  have hx := E.hx
  have hb := E.hb
  have hl : lv_has ls 1 [(0, .int xq0)] := hl
  unfold f_X12_isCell at hf
  refine lv_iload_n hx hb dX12_isCell_0 rfl (lv_at hl 0 rfl) ?_
  refine lv_i2l hx hb dX12_isCell_1 rfl ?_
  refine lv_lconst (v := 0) hx hb dX12_isCell_2 (by decide) ?_
  refine lv_ldc2 (v := 63) hx hb E.hown (E.ht _ k6_121) dX12_isCell_3 ?_
  refine zcali hw (va_runS (As := [.long xq0.toInt64, .long (0 : Int64), .long (63 : Int64)]) (rest := []) E.fix (c_X12_in (l := l) hA xq0.toInt64 (0 : Int64) (63 : Int64) σ rfl) (zcS E k6_114 k1_14 k6_112 k6_113 mf_X12_in rfl rfl ⟨Nat.le_of_ble_eq_true rfl, Nat.le_of_ble_eq_true rfl⟩) (zPre E hw _) rfl rfl hl.1 rfl (lv_room (Nat.le_of_ble_eq_true rfl)) dX12_isCell_6 ⟨Nat.zero_le _, Nat.zero_le _⟩) (fun H locs hw => ?_)
  exact zretz E hw hr hlk (b_e hf (by rfl)) rfl dX12_isCell_9
set_option maxRecDepth 100000 in
set_option maxHeartbeats 4000000 in
theorem c_X12_isFarm {l : Launch} {D : va_G} {cy : Cy} {ad : Nat → Nat} {A : Nat → Prop} (hA : okAd 17 ad A) (xq0 : Int32) (σ : Sg) {r : Bool} (hf : f_X12_isFarm xq0 σ = r) : Met l yX12_isFarm (.code yX12_isFarm cX12_isFarm 1 (some .boolean) :: TT) ({ frames := 1, cells := 0, slots := 0, locals := 25 } : Room) (zPc D cy 17 (celM ad cy) ad A [.int xq0] σ) (zQi D 17 (celM ad cy) ad A (b2i r) σ) 0 0 A := by
  refine zofW (by decide) hA (Nat.le_of_ble_eq_true rfl) ?_
  intro p e s m args below meth c ls E hw hr hlk hl
  have E : ZE p s m args c cX12_isFarm 1 "KiteSummonsModel" D cy 17 ad A := E
  have hx := E.hx
  have hb := E.hb
  have hl : lv_has ls 1 [(0, .int xq0)] := hl
  unfold f_X12_isFarm at hf
  refine lv_iload_n hx hb dX12_isFarm_0 rfl (lv_at hl 0 rfl) ?_
  refine lv_i2l hx hb dX12_isFarm_1 rfl ?_
  refine lv_lconst (v := 0) hx hb dX12_isFarm_2 (by decide) ?_
  refine lv_ldc2 (v := 5) hx hb E.hown (E.ht _ k6_111) dX12_isFarm_3 ?_
  refine zcali hw (va_runS (As := [.long xq0.toInt64, .long (0 : Int64), .long (5 : Int64)]) (rest := []) E.fix (c_X12_in (l := l) hA xq0.toInt64 (0 : Int64) (5 : Int64) σ rfl) (zcS E k6_114 k1_14 k6_112 k6_113 mf_X12_in rfl rfl ⟨Nat.le_of_ble_eq_true rfl, Nat.le_of_ble_eq_true rfl⟩) (zPre E hw _) rfl rfl hl.1 rfl (lv_room (Nat.le_of_ble_eq_true rfl)) dX12_isFarm_6 ⟨Nat.zero_le _, Nat.zero_le _⟩) (fun H locs hw => ?_)
  exact zretz E hw hr hlk (b_e hf (by rfl)) rfl dX12_isFarm_9
set_option maxRecDepth 100000 in
set_option maxHeartbeats 4000000 in
theorem c_X12_isPart {l : Launch} {D : va_G} {cy : Cy} {ad : Nat → Nat} {A : Nat → Prop} (hA : okAd 17 ad A) (xq0 : Int32) (xq1 : Int32) (σ : Sg) {r : Bool} (hf : f_X12_isPart xq0 xq1 σ = r) : Met l yX12_isPart (.code yX12_isPart cX12_isPart 2 (some .boolean) :: TT) ({ frames := 2, cells := 0, slots := 0, locals := 45 } : Room) (zPc D cy 17 (celM ad cy) ad A [.int xq0, .int xq1] σ) (zQi D 17 (celM ad cy) ad A (b2i r) σ) 0 0 A := by
  refine zofW (by decide) hA (Nat.le_of_ble_eq_true rfl) ?_
  intro p e s m args below meth c ls E hw hr hlk hl
  have E : ZE p s m args c cX12_isPart 2 "KiteSummonsModel" D cy 17 ad A := E
  have hx := E.hx
  have hb := E.hb
  have hl : lv_has ls 2 [(0, .int xq0), (1, .int xq1)] := hl
  unfold f_X12_isPart at hf
  refine lv_iload_n hx hb dX12_isPart_0 rfl (lv_at hl 0 rfl) ?_
  by_cases hc1_0 : xq0 = 1
  · replace hf := it_t hc1_0 hf
    refine lv_tableIn (tgt := 28) (off := 27) hx hb dX12_isPart_1 (by rw [hc1_0]; decide) (by rw [hc1_0]; decide) (by rw [hc1_0]; rfl) (by decide) ?_
    refine lv_iload_n hx hb dX12_isPart_28 rfl (lv_at hl 1 rfl) ?_
    refine zcali hw (va_runS (As := [.int xq1]) (rest := []) E.fix (c_X12_isCell (l := l) hA xq1 σ rfl) (zcS E k6_120 k1_14 k6_118 k6_119 mf_X12_isCell rfl rfl ⟨Nat.le_of_ble_eq_true rfl, Nat.le_of_ble_eq_true rfl⟩) (zPre E hw _) rfl rfl hl.1 rfl (lv_room (Nat.le_of_ble_eq_true rfl)) dX12_isPart_29 ⟨Nat.zero_le _, Nat.zero_le _⟩) (fun H locs hw => ?_)
    exact zretz E hw hr hlk (b_e hf (by rfl)) rfl dX12_isPart_32
  · replace hf := it_f hc1_0 hf
    by_cases hc1_1 : xq0 = 2
    · replace hf := it_t hc1_1 hf
      refine lv_tableIn (tgt := 33) (off := 32) hx hb dX12_isPart_1 (by rw [hc1_1]; decide) (by rw [hc1_1]; decide) (by rw [hc1_1]; rfl) (by decide) ?_
      refine lv_iload_n hx hb dX12_isPart_33 rfl (lv_at hl 1 rfl) ?_
      refine lv_i2l hx hb dX12_isPart_34 rfl ?_
      refine lv_lconst (v := 0) hx hb dX12_isPart_35 (by decide) ?_
      refine lv_ldc2 (v := 9) hx hb E.hown (E.ht _ k6_122) dX12_isPart_36 ?_
      refine zcali hw (va_runS (As := [.long xq1.toInt64, .long (0 : Int64), .long (9 : Int64)]) (rest := []) E.fix (c_X12_in (l := l) hA xq1.toInt64 (0 : Int64) (9 : Int64) σ rfl) (zcS E k6_114 k1_14 k6_112 k6_113 mf_X12_in rfl rfl ⟨Nat.le_of_ble_eq_true rfl, Nat.le_of_ble_eq_true rfl⟩) (zPre E hw _) rfl rfl hl.1 rfl (lv_room (Nat.le_of_ble_eq_true rfl)) dX12_isPart_39 ⟨Nat.zero_le _, Nat.zero_le _⟩) (fun H locs hw => ?_)
      exact zretz E hw hr hlk (b_e hf (by rfl)) rfl dX12_isPart_42
    · replace hf := it_f hc1_1 hf
      by_cases hc1_2 : xq0 = 3
      · replace hf := it_t hc1_2 hf
        refine lv_tableIn (tgt := 43) (off := 42) hx hb dX12_isPart_1 (by rw [hc1_2]; decide) (by rw [hc1_2]; decide) (by rw [hc1_2]; rfl) (by decide) ?_
        refine lv_iload_n hx hb dX12_isPart_43 rfl (lv_at hl 1 rfl) ?_
        refine zcali hw (va_runS (As := [.int xq1]) (rest := []) E.fix (c_X12_isFarm (l := l) hA xq1 σ rfl) (zcS E k6_125 k1_14 k6_123 k6_124 mf_X12_isFarm rfl rfl ⟨Nat.le_of_ble_eq_true rfl, Nat.le_of_ble_eq_true rfl⟩) (zPre E hw _) rfl rfl hl.1 rfl (lv_room (Nat.le_of_ble_eq_true rfl)) dX12_isPart_44 ⟨Nat.zero_le _, Nat.zero_le _⟩) (fun H locs hw => ?_)
        exact zretz E hw hr hlk (b_e hf (by rfl)) rfl dX12_isPart_47
      · replace hf := it_f hc1_2 hf
        refine lv_tableOut (tgt := 48) hx hb dX12_isPart_1 (by have := lv_neT hc1_0 (a := 1) rfl; have := lv_neT hc1_1 (a := 2) rfl; have := lv_neT hc1_2 (a := 3) rfl; omega) (by decide) ?_
        refine lv_iload_n hx hb dX12_isPart_48 rfl (lv_at hl 0 rfl) ?_
        refine lv_i2l hx hb dX12_isPart_49 rfl ?_
        refine lv_ldc2 (v := 4) hx hb E.hown (E.ht _ k6_126) dX12_isPart_50 ?_
        refine lv_ldc2 (v := 5) hx hb E.hown (E.ht _ k6_111) dX12_isPart_53 ?_
        refine zcali hw (va_runS (As := [.long xq0.toInt64, .long (4 : Int64), .long (5 : Int64)]) (rest := []) E.fix (c_X12_in (l := l) hA xq0.toInt64 (4 : Int64) (5 : Int64) σ rfl) (zcS E k6_114 k1_14 k6_112 k6_113 mf_X12_in rfl rfl ⟨Nat.le_of_ble_eq_true rfl, Nat.le_of_ble_eq_true rfl⟩) (zPre E hw _) rfl rfl hl.1 rfl (lv_room (Nat.le_of_ble_eq_true rfl)) dX12_isPart_56 ⟨Nat.zero_le _, Nat.zero_le _⟩) (fun H locs hw => ?_)
        refine lv_if_eq (tgt := 76) hx hb dX12_isPart_59 (by decide) (fun h => ?_) (fun h => ?_)
        · replace hf := it_f (b2i_0 h) hf
          refine lv_iconst (v := 0) hx hb dX12_isPart_76 (by decide) ?_
          exact zretz E hw hr hlk (b_e hf (by rfl)) rfl dX12_isPart_77
        · replace hf := it_t (b2i_n h) hf
          refine lv_iload_n hx hb dX12_isPart_62 rfl (lv_at hl 1 rfl) ?_
          refine lv_i2l hx hb dX12_isPart_63 rfl ?_
          refine lv_lconst (v := 0) hx hb dX12_isPart_64 (by decide) ?_
          refine lv_lconst (v := 1) hx hb dX12_isPart_65 (by decide) ?_
          refine zcali hw (va_runS (As := [.long xq1.toInt64, .long (0 : Int64), .long (1 : Int64)]) (rest := []) E.fix (c_X12_in (l := l) hA xq1.toInt64 (0 : Int64) (1 : Int64) σ rfl) (zcS E k6_114 k1_14 k6_112 k6_113 mf_X12_in rfl rfl ⟨Nat.le_of_ble_eq_true rfl, Nat.le_of_ble_eq_true rfl⟩) (zPre E hw _) rfl rfl hl.1 rfl (lv_room (Nat.le_of_ble_eq_true rfl)) dX12_isPart_66 ⟨Nat.zero_le _, Nat.zero_le _⟩) (fun H locs hw => ?_)
          refine lv_if_eq (tgt := 76) hx hb dX12_isPart_69 (by decide) (fun h => ?_) (fun h => ?_)
          · replace hf := it_f (b2i_0 h) hf
            refine lv_iconst (v := 0) hx hb dX12_isPart_76 (by decide) ?_
            exact zretz E hw hr hlk (b_e hf (by rfl)) rfl dX12_isPart_77
          · replace hf := it_t (b2i_n h) hf
            refine lv_iconst (v := 1) hx hb dX12_isPart_72 (by decide) ?_
            refine lv_goto (tgt := 77) hx hb dX12_isPart_73 (by decide) ?_
            exact zretz E hw hr hlk (b_e hf (by rfl)) rfl dX12_isPart_77
set_option maxRecDepth 100000 in
set_option maxHeartbeats 4000000 in
theorem c_X12_at {l : Launch} {D : va_G} {cy : Cy} {ad : Nat → Nat} {A : Nat → Prop} (hA : okAd 17 ad A) (xq0 : Int32) (xq1 : Int32) (σ : Sg) {r : Int32} (hf : f_X12_at xq0 xq1 σ = r) : Met l yX12_at (.code yX12_at cX12_at 2 (some .int) :: TT) ({ frames := 0, cells := 0, slots := 0, locals := 0 } : Room) (zPc D cy 17 (celM ad cy) ad A [.int xq0, .int xq1] σ) (zQi D 17 (celM ad cy) ad A r σ) 0 0 A := by
  refine zofW (by decide) hA (Nat.le_of_ble_eq_true rfl) ?_
  intro p e s m args below meth c ls E hw hr hlk hl
  have E : ZE p s m args c cX12_at 2 "KiteSummonsModel" D cy 17 ad A := E
  have hx := E.hx
  have hb := E.hb
  have hl : lv_has ls 2 [(0, .int xq0), (1, .int xq1)] := hl
  unfold f_X12_at at hf
  refine lv_bipush (v := 35) hx hb dX12_at_0 (by decide) ?_
  refine lv_bipush (v := 6) hx hb dX12_at_2 (by decide) ?_
  refine lv_iload_n hx hb dX12_at_4 rfl (lv_at hl 0 rfl) ?_
  refine lv_imul hx hb dX12_at_5 ?_
  refine lv_iadd hx hb dX12_at_6 ?_
  refine lv_iload_n hx hb dX12_at_7 rfl (lv_at hl 1 rfl) ?_
  refine lv_iadd hx hb dX12_at_8 ?_
  exact zreti E hw hr hlk hf rfl dX12_at_9
set_option maxRecDepth 100000 in
set_option maxHeartbeats 4000000 in
theorem c_X12_kite {l : Launch} {D : va_G} {cy : Cy} {ad : Nat → Nat} {A : Nat → Prop} (hA : okAd 17 ad A) (xq1 : Int32) (xq2 : Int32) (xq3 : Int32) (xq4 : Int32) (σ : Sg) {r : Int32} {σ9 : Sg} (hf : f_X12_kite xq1 xq2 xq3 xq4 σ = some (r, σ9)) : Met l yX12_kite (.code yX12_kite cX12_kite 6 (some .int) :: TT) ({ frames := 3, cells := 0, slots := 0, locals := 66 } : Room) (zPc D cy 17 (celM ad cy) ad A [.ref (ad 0), .int xq1, .int xq2, .int xq3, .int xq4] σ) (zQi D 17 (celM ad cy) ad A r σ9) 0 0 A := by
  refine zofW (by decide) hA (Nat.le_of_ble_eq_true rfl) ?_
  intro p e s m args below meth c ls E hw hr hlk hl
  have E : ZE p s m args c cX12_kite 6 "KiteSummonsModel" D cy 17 ad A := E
  have hx := E.hx
  have hb := E.hb
  have hl : lv_has ls 6 [(0, .ref (ad 0)), (1, .int xq1), (2, .int xq2), (3, .int xq3), (4, .int xq4)] := hl
  unfold f_X12_kite at hf
  refine lv_iload_n hx hb dX12_kite_0 rfl (lv_at hl 1 rfl) ?_
  refine zcali hw (va_runS (As := [.int xq1]) (rest := []) E.fix (c_X12_isKind (l := l) hA xq1 σ rfl) (zcS E k6_110 k1_14 k6_108 k6_109 mf_X12_isKind rfl rfl ⟨Nat.le_of_ble_eq_true rfl, Nat.le_of_ble_eq_true rfl⟩) (zPre E hw _) rfl rfl hl.1 rfl (lv_room (Nat.le_of_ble_eq_true rfl)) dX12_kite_1 ⟨Nat.zero_le _, Nat.zero_le _⟩) (fun H locs hw => ?_)
  refine lv_if_eq (tgt := 32) hx hb dX12_kite_4 (by decide) (fun h => ?_) (fun h => ?_)
  · replace hf := it_f (b2i_0 h) hf
    refine lv_iconst (v := (-1)) hx hb dX12_kite_32 (by decide) ?_
    exact zreti E hw hr hlk (rt_a hf) (rt_b hf) dX12_kite_33
  · replace hf := it_t (b2i_n h) hf
    refine lv_iconst (v := 1) hx hb dX12_kite_7 (by decide) ?_
    refine lv_iload_n hx hb dX12_kite_8 rfl (lv_at hl 2 rfl) ?_
    refine zcali hw (va_runS (As := [.int 1, .int xq2]) (rest := []) E.fix (c_X12_isPart (l := l) hA 1 xq2 σ rfl) (zcS E k6_117 k1_14 k6_115 k6_116 mf_X12_isPart rfl rfl ⟨Nat.le_of_ble_eq_true rfl, Nat.le_of_ble_eq_true rfl⟩) (zPre E hw _) rfl rfl hl.1 rfl (lv_room (Nat.le_of_ble_eq_true rfl)) dX12_kite_9 ⟨Nat.zero_le _, Nat.zero_le _⟩) (fun H locs hw => ?_)
    refine lv_if_eq (tgt := 32) hx hb dX12_kite_12 (by decide) (fun h => ?_) (fun h => ?_)
    · replace hf := it_f (b2i_0 h) hf
      refine lv_iconst (v := (-1)) hx hb dX12_kite_32 (by decide) ?_
      exact zreti E hw hr hlk (rt_a hf) (rt_b hf) dX12_kite_33
    · replace hf := it_t (b2i_n h) hf
      refine lv_iconst (v := 2) hx hb dX12_kite_15 (by decide) ?_
      refine lv_iload_n hx hb dX12_kite_16 rfl (lv_at hl 3 rfl) ?_
      refine zcali hw (va_runS (As := [.int 2, .int xq3]) (rest := []) E.fix (c_X12_isPart (l := l) hA 2 xq3 σ rfl) (zcS E k6_117 k1_14 k6_115 k6_116 mf_X12_isPart rfl rfl ⟨Nat.le_of_ble_eq_true rfl, Nat.le_of_ble_eq_true rfl⟩) (zPre E hw _) rfl rfl hl.1 rfl (lv_room (Nat.le_of_ble_eq_true rfl)) dX12_kite_17 ⟨Nat.zero_le _, Nat.zero_le _⟩) (fun H locs hw => ?_)
      refine lv_if_eq (tgt := 32) hx hb dX12_kite_20 (by decide) (fun h => ?_) (fun h => ?_)
      · replace hf := it_f (b2i_0 h) hf
        refine lv_iconst (v := (-1)) hx hb dX12_kite_32 (by decide) ?_
        exact zreti E hw hr hlk (rt_a hf) (rt_b hf) dX12_kite_33
      · replace hf := it_t (b2i_n h) hf
        refine lv_iconst (v := 3) hx hb dX12_kite_23 (by decide) ?_
        refine lv_iload hx hb dX12_kite_24 (lv_at hl 4 rfl) ?_
        refine zcali hw (va_runS (As := [.int 3, .int xq4]) (rest := []) E.fix (c_X12_isPart (l := l) hA 3 xq4 σ rfl) (zcS E k6_117 k1_14 k6_115 k6_116 mf_X12_isPart rfl rfl ⟨Nat.le_of_ble_eq_true rfl, Nat.le_of_ble_eq_true rfl⟩) (zPre E hw _) rfl rfl hl.1 rfl (lv_room (Nat.le_of_ble_eq_true rfl)) dX12_kite_26 ⟨Nat.zero_le _, Nat.zero_le _⟩) (fun H locs hw => ?_)
        refine lv_if_ne (tgt := 34) hx hb dX12_kite_29 (by decide) (fun h => ?_) (fun h => ?_)
        · replace hf := it_t (b2i_n h) hf
          refine lv_aload_n hx hb dX12_kite_34 rfl (lv_at hl 0 rfl) ?_
          refine zget E hw (Nat.le_of_ble_eq_true rfl) (ceM_0 ad cy _) rfl inX12 0 (by decide) k5_223 (fun _ h => h) rfl dX12_kite_35 ?_
          refine lv_iconst (v := 0) hx hb dX12_kite_38 (by decide) ?_
          refine zaldk E hw (Nat.le_of_ble_eq_true rfl) (ceM_1 ad cy) 0 (by rfl) (Nat.le_of_ble_eq_true rfl) (by decide) dX12_kite_39 ?_
          refine lv_bipush (v := 6) hx hb dX12_kite_40 (by decide) ?_
          refine lv_icmp_ne (tgt := 48) hx hb dX12_kite_42 (by decide) (fun h => ?_) (fun h => ?_)
          · replace hf := it_t h hf
            refine lv_aload_n hx hb dX12_kite_48 rfl (lv_at hl 0 rfl) ?_
            refine zget E hw (Nat.le_of_ble_eq_true rfl) (ceM_0 ad cy _) rfl inX12 0 (by decide) k5_223 (fun _ h => h) rfl dX12_kite_49 ?_
            refine lv_iconst (v := 0) hx hb dX12_kite_52 (by decide) ?_
            refine zaldk E hw (Nat.le_of_ble_eq_true rfl) (ceM_1 ad cy) 0 (by rfl) (Nat.le_of_ble_eq_true rfl) (by decide) dX12_kite_53 ?_
            refine lv_topi (fun vq1 evq1 => ?_)
            replace hf := lt_i evq1 hf
            refine lv_istore (lv' := [(5, .int vq1), (0, .ref (ad 0)), (1, .int xq1), (2, .int xq2), (3, .int xq3), (4, .int xq4)]) hx hb dX12_kite_54 hl (by decide) rfl (fun ls hl => ?_)
            refine lv_aload_n hx hb dX12_kite_56 rfl (lv_at hl 1 rfl) ?_
            refine zget E hw (Nat.le_of_ble_eq_true rfl) (ceM_0 ad cy _) rfl inX12 0 (by decide) k5_223 (fun _ h => h) rfl dX12_kite_57 ?_
            refine lv_iload hx hb dX12_kite_60 (lv_at hl 0 rfl) ?_
            refine lv_iconst (v := 0) hx hb dX12_kite_62 (by decide) ?_
            refine zcali hw (va_runS (As := [.int vq1, .int 0]) (rest := [.ref (ad 1)]) E.fix (c_X12_at (l := l) hA vq1 0 σ rfl) (zcS E k6_129 k1_14 k6_127 k6_128 mf_X12_at rfl rfl ⟨Nat.le_of_ble_eq_true rfl, Nat.le_of_ble_eq_true rfl⟩) (zPre E hw _) rfl rfl hl.1 rfl (lv_room (Nat.le_of_ble_eq_true rfl)) dX12_kite_63 ⟨Nat.zero_le _, Nat.zero_le _⟩) (fun H locs hw => ?_)
            refine lv_iload_n hx hb dX12_kite_66 rfl (lv_at hl 2 rfl) ?_
            obtain ⟨σ2, hσ2, hf⟩ := bd_e hf
            refine zastr E hw (Nat.le_of_ble_eq_true rfl) (ceM_1 ad cy) hσ2 dX12_kite_67 (fun H locs hw => ?_)
            refine lv_aload_n hx hb dX12_kite_68 rfl (lv_at hl 1 rfl) ?_
            refine zget E hw (Nat.le_of_ble_eq_true rfl) (ceM_0 ad cy _) rfl inX12 0 (by decide) k5_223 (fun _ h => h) rfl dX12_kite_69 ?_
            refine lv_iload hx hb dX12_kite_72 (lv_at hl 0 rfl) ?_
            refine lv_iconst (v := 1) hx hb dX12_kite_74 (by decide) ?_
            refine zcali hw (va_runS (As := [.int vq1, .int 1]) (rest := [.ref (ad 1)]) E.fix (c_X12_at (l := l) hA vq1 1 σ2 rfl) (zcS E k6_129 k1_14 k6_127 k6_128 mf_X12_at rfl rfl ⟨Nat.le_of_ble_eq_true rfl, Nat.le_of_ble_eq_true rfl⟩) (zPre E hw _) rfl rfl hl.1 rfl (lv_room (Nat.le_of_ble_eq_true rfl)) dX12_kite_75 ⟨Nat.zero_le _, Nat.zero_le _⟩) (fun H locs hw => ?_)
            refine lv_iload_n hx hb dX12_kite_78 rfl (lv_at hl 3 rfl) ?_
            obtain ⟨σ3, hσ3, hf⟩ := bd_e hf
            refine zastr E hw (Nat.le_of_ble_eq_true rfl) (ceM_1 ad cy) hσ3 dX12_kite_79 (fun H locs hw => ?_)
            refine lv_aload_n hx hb dX12_kite_80 rfl (lv_at hl 1 rfl) ?_
            refine zget E hw (Nat.le_of_ble_eq_true rfl) (ceM_0 ad cy _) rfl inX12 0 (by decide) k5_223 (fun _ h => h) rfl dX12_kite_81 ?_
            refine lv_iload hx hb dX12_kite_84 (lv_at hl 0 rfl) ?_
            refine lv_iconst (v := 2) hx hb dX12_kite_86 (by decide) ?_
            refine zcali hw (va_runS (As := [.int vq1, .int 2]) (rest := [.ref (ad 1)]) E.fix (c_X12_at (l := l) hA vq1 2 σ3 rfl) (zcS E k6_129 k1_14 k6_127 k6_128 mf_X12_at rfl rfl ⟨Nat.le_of_ble_eq_true rfl, Nat.le_of_ble_eq_true rfl⟩) (zPre E hw _) rfl rfl hl.1 rfl (lv_room (Nat.le_of_ble_eq_true rfl)) dX12_kite_87 ⟨Nat.zero_le _, Nat.zero_le _⟩) (fun H locs hw => ?_)
            refine lv_iload_n hx hb dX12_kite_90 rfl (lv_at hl 4 rfl) ?_
            obtain ⟨σ4, hσ4, hf⟩ := bd_e hf
            refine zastr E hw (Nat.le_of_ble_eq_true rfl) (ceM_1 ad cy) hσ4 dX12_kite_91 (fun H locs hw => ?_)
            refine lv_aload_n hx hb dX12_kite_92 rfl (lv_at hl 1 rfl) ?_
            refine zget E hw (Nat.le_of_ble_eq_true rfl) (ceM_0 ad cy _) rfl inX12 0 (by decide) k5_223 (fun _ h => h) rfl dX12_kite_93 ?_
            refine lv_iload hx hb dX12_kite_96 (lv_at hl 0 rfl) ?_
            refine lv_iconst (v := 3) hx hb dX12_kite_98 (by decide) ?_
            refine zcali hw (va_runS (As := [.int vq1, .int 3]) (rest := [.ref (ad 1)]) E.fix (c_X12_at (l := l) hA vq1 3 σ4 rfl) (zcS E k6_129 k1_14 k6_127 k6_128 mf_X12_at rfl rfl ⟨Nat.le_of_ble_eq_true rfl, Nat.le_of_ble_eq_true rfl⟩) (zPre E hw _) rfl rfl hl.1 rfl (lv_room (Nat.le_of_ble_eq_true rfl)) dX12_kite_99 ⟨Nat.zero_le _, Nat.zero_le _⟩) (fun H locs hw => ?_)
            refine lv_iload hx hb dX12_kite_102 (lv_at hl 5 rfl) ?_
            obtain ⟨σ5, hσ5, hf⟩ := bd_e hf
            refine zastr E hw (Nat.le_of_ble_eq_true rfl) (ceM_1 ad cy) hσ5 dX12_kite_104 (fun H locs hw => ?_)
            refine lv_aload_n hx hb dX12_kite_105 rfl (lv_at hl 1 rfl) ?_
            refine zget E hw (Nat.le_of_ble_eq_true rfl) (ceM_0 ad cy _) rfl inX12 0 (by decide) k5_223 (fun _ h => h) rfl dX12_kite_106 ?_
            refine lv_iload hx hb dX12_kite_109 (lv_at hl 0 rfl) ?_
            refine lv_iconst (v := 4) hx hb dX12_kite_111 (by decide) ?_
            refine zcali hw (va_runS (As := [.int vq1, .int 4]) (rest := [.ref (ad 1)]) E.fix (c_X12_at (l := l) hA vq1 4 σ5 rfl) (zcS E k6_129 k1_14 k6_127 k6_128 mf_X12_at rfl rfl ⟨Nat.le_of_ble_eq_true rfl, Nat.le_of_ble_eq_true rfl⟩) (zPre E hw _) rfl rfl hl.1 rfl (lv_room (Nat.le_of_ble_eq_true rfl)) dX12_kite_112 ⟨Nat.zero_le _, Nat.zero_le _⟩) (fun H locs hw => ?_)
            refine lv_iconst (v := 1) hx hb dX12_kite_115 (by decide) ?_
            obtain ⟨σ6, hσ6, hf⟩ := bd_e hf
            refine zastr E hw (Nat.le_of_ble_eq_true rfl) (ceM_1 ad cy) hσ6 dX12_kite_116 (fun H locs hw => ?_)
            refine lv_aload_n hx hb dX12_kite_117 rfl (lv_at hl 1 rfl) ?_
            refine zget E hw (Nat.le_of_ble_eq_true rfl) (ceM_0 ad cy _) rfl inX12 0 (by decide) k5_223 (fun _ h => h) rfl dX12_kite_118 ?_
            refine lv_iload hx hb dX12_kite_121 (lv_at hl 0 rfl) ?_
            refine lv_iconst (v := 5) hx hb dX12_kite_123 (by decide) ?_
            refine zcali hw (va_runS (As := [.int vq1, .int 5]) (rest := [.ref (ad 1)]) E.fix (c_X12_at (l := l) hA vq1 5 σ6 rfl) (zcS E k6_129 k1_14 k6_127 k6_128 mf_X12_at rfl rfl ⟨Nat.le_of_ble_eq_true rfl, Nat.le_of_ble_eq_true rfl⟩) (zPre E hw _) rfl rfl hl.1 rfl (lv_room (Nat.le_of_ble_eq_true rfl)) dX12_kite_124 ⟨Nat.zero_le _, Nat.zero_le _⟩) (fun H locs hw => ?_)
            refine lv_iconst (v := 0) hx hb dX12_kite_127 (by decide) ?_
            obtain ⟨σ7, hσ7, hf⟩ := bd_e hf
            refine zastr E hw (Nat.le_of_ble_eq_true rfl) (ceM_1 ad cy) hσ7 dX12_kite_128 (fun H locs hw => ?_)
            refine lv_aload_n hx hb dX12_kite_129 rfl (lv_at hl 1 rfl) ?_
            refine zget E hw (Nat.le_of_ble_eq_true rfl) (ceM_0 ad cy _) rfl inX12 0 (by decide) k5_223 (fun _ h => h) rfl dX12_kite_130 ?_
            refine lv_iconst (v := 0) hx hb dX12_kite_133 (by decide) ?_
            refine lv_dup2_11 hx hb dX12_kite_134 rfl rfl ?_
            refine zaldk E hw (Nat.le_of_ble_eq_true rfl) (ceM_1 ad cy) 0 (by rfl) (Nat.le_of_ble_eq_true rfl) (by decide) dX12_kite_135 ?_
            refine lv_iconst (v := 1) hx hb dX12_kite_136 (by decide) ?_
            refine lv_iadd hx hb dX12_kite_137 ?_
            refine zastk E hw (Nat.le_of_ble_eq_true rfl) (ceM_1 ad cy) 0 (by rfl) (Nat.le_of_ble_eq_true rfl) (by decide) dX12_kite_138 (fun σ8 eσ8 H locs hw => ?_)
            replace hf := lt_i eσ8 hf
            refine lv_iload hx hb dX12_kite_139 (lv_at hl 0 rfl) ?_
            exact zreti E hw hr hlk (rt_a hf) (rt_b hf) dX12_kite_141
          · replace hf := it_n h hf
            refine lv_bipush (v := (-2)) hx hb dX12_kite_45 (by decide) ?_
            exact zreti E hw hr hlk (rt_a hf) (rt_b hf) dX12_kite_47
        · replace hf := it_f (b2i_0 h) hf
          refine lv_iconst (v := (-1)) hx hb dX12_kite_32 (by decide) ?_
          exact zreti E hw hr hlk (rt_a hf) (rt_b hf) dX12_kite_33
set_option maxRecDepth 100000 in
set_option maxHeartbeats 4000000 in
theorem c_X12_isKite {l : Launch} {D : va_G} {cy : Cy} {ad : Nat → Nat} {A : Nat → Prop} (hA : okAd 17 ad A) (xq1 : Int32) (σ : Sg) {r : Bool} (hf : f_X12_isKite xq1 σ = r) : Met l yX12_isKite (.code yX12_isKite cX12_isKite 2 (some .boolean) :: TT) ({ frames := 1, cells := 0, slots := 0, locals := 25 } : Room) (zPc D cy 17 (celM ad cy) ad A [.ref (ad 0), .int xq1] σ) (zQi D 17 (celM ad cy) ad A (b2i r) σ) 0 0 A := by
  refine zofW (by decide) hA (Nat.le_of_ble_eq_true rfl) ?_
  intro p e s m args below meth c ls E hw hr hlk hl
  have E : ZE p s m args c cX12_isKite 2 "KiteSummonsModel" D cy 17 ad A := E
  have hx := E.hx
  have hb := E.hb
  have hl : lv_has ls 2 [(0, .ref (ad 0)), (1, .int xq1)] := hl
  unfold f_X12_isKite at hf
  refine lv_iload_n hx hb dX12_isKite_0 rfl (lv_at hl 1 rfl) ?_
  refine lv_i2l hx hb dX12_isKite_1 rfl ?_
  refine lv_lconst (v := 0) hx hb dX12_isKite_2 (by decide) ?_
  refine lv_aload_n hx hb dX12_isKite_3 rfl (lv_at hl 0 rfl) ?_
  refine zget E hw (Nat.le_of_ble_eq_true rfl) (ceM_0 ad cy _) rfl inX12 0 (by decide) k5_223 (fun _ h => h) rfl dX12_isKite_4 ?_
  refine lv_iconst (v := 0) hx hb dX12_isKite_7 (by decide) ?_
  refine zaldk E hw (Nat.le_of_ble_eq_true rfl) (ceM_1 ad cy) 0 (by rfl) (Nat.le_of_ble_eq_true rfl) (by decide) dX12_isKite_8 ?_
  refine lv_iconst (v := 1) hx hb dX12_isKite_9 (by decide) ?_
  refine lv_isub hx hb dX12_isKite_10 ?_
  refine lv_i2l hx hb dX12_isKite_11 rfl ?_
  refine zcali hw (va_runS (As := [.long xq1.toInt64, .long (0 : Int64), .long (((σ 1 0) - 1).toInt64)]) (rest := []) E.fix (c_X12_in (l := l) hA xq1.toInt64 (0 : Int64) (((σ 1 0) - 1).toInt64) σ rfl) (zcS E k6_114 k1_14 k6_112 k6_113 mf_X12_in rfl rfl ⟨Nat.le_of_ble_eq_true rfl, Nat.le_of_ble_eq_true rfl⟩) (zPre E hw _) rfl rfl hl.1 rfl (lv_room (Nat.le_of_ble_eq_true rfl)) dX12_isKite_12 ⟨Nat.zero_le _, Nat.zero_le _⟩) (fun H locs hw => ?_)
  exact zretz E hw hr hlk (b_e hf (by rfl)) rfl dX12_isKite_15
set_option maxRecDepth 100000 in
set_option maxHeartbeats 4000000 in
theorem c_X12_its {l : Launch} {D : va_G} {cy : Cy} {ad : Nat → Nat} {A : Nat → Prop} (hA : okAd 17 ad A) (xq1 : Int32) (xq2 : Int32) (σ : Sg) {r : Int32} (hf : f_X12_its xq1 xq2 σ = some r) : Met l yX12_its (.code yX12_its cX12_its 3 (some .int) :: TT) ({ frames := 1, cells := 0, slots := 0, locals := 21 } : Room) (zPc D cy 17 (celM ad cy) ad A [.ref (ad 0), .int xq1, .int xq2] σ) (zQi D 17 (celM ad cy) ad A r σ) 0 0 A := by
  refine zofW (by decide) hA (Nat.le_of_ble_eq_true rfl) ?_
  intro p e s m args below meth c ls E hw hr hlk hl
  have E : ZE p s m args c cX12_its 3 "KiteSummonsModel" D cy 17 ad A := E
  have hx := E.hx
  have hb := E.hb
  have hl : lv_has ls 3 [(0, .ref (ad 0)), (1, .int xq1), (2, .int xq2)] := hl
  unfold f_X12_its at hf
  refine lv_aload_n hx hb dX12_its_0 rfl (lv_at hl 0 rfl) ?_
  refine zget E hw (Nat.le_of_ble_eq_true rfl) (ceM_0 ad cy _) rfl inX12 0 (by decide) k5_223 (fun _ h => h) rfl dX12_its_1 ?_
  refine lv_iload_n hx hb dX12_its_4 rfl (lv_at hl 1 rfl) ?_
  refine lv_iload_n hx hb dX12_its_5 rfl (lv_at hl 2 rfl) ?_
  refine zcali hw (va_runS (As := [.int xq1, .int xq2]) (rest := [.ref (ad 1)]) E.fix (c_X12_at (l := l) hA xq1 xq2 σ rfl) (zcS E k6_129 k1_14 k6_127 k6_128 mf_X12_at rfl rfl ⟨Nat.le_of_ble_eq_true rfl, Nat.le_of_ble_eq_true rfl⟩) (zPre E hw _) rfl rfl hl.1 rfl (lv_room (Nat.le_of_ble_eq_true rfl)) dX12_its_6 ⟨Nat.zero_le _, Nat.zero_le _⟩) (fun H locs hw => ?_)
  obtain ⟨vq1, hvq1, hf⟩ := bd_e hf
  refine zaldr E hw (Nat.le_of_ble_eq_true rfl) (ceM_1 ad cy) hvq1 dX12_its_9 ?_
  exact zreti E hw hr hlk (rt_1 hf) rfl dX12_its_10
set_option maxRecDepth 100000 in
set_option maxHeartbeats 4000000 in
theorem c_X12_windNow {l : Launch} {D : va_G} {cy : Cy} {ad : Nat → Nat} {A : Nat → Prop} (hA : okAd 17 ad A) (σ : Sg) {r : Int32} (hf : f_X12_windNow σ = some r) : Met l yX12_windNow (.code yX12_windNow cX12_windNow 1 (some .int) :: TT) ({ frames := 0, cells := 0, slots := 0, locals := 0 } : Room) (zPc D cy 17 (celM ad cy) ad A [.ref (ad 0)] σ) (zQi D 17 (celM ad cy) ad A r σ) 0 0 A := by
  refine zofW (by decide) hA (Nat.le_of_ble_eq_true rfl) ?_
  intro p e s m args below meth c ls E hw hr hlk hl
  have E : ZE p s m args c cX12_windNow 1 "KiteSummonsModel" D cy 17 ad A := E
  have hx := E.hx
  have hb := E.hb
  have hl : lv_has ls 1 [(0, .ref (ad 0))] := hl
  unfold f_X12_windNow at hf
  refine lv_aload_n hx hb dX12_windNow_0 rfl (lv_at hl 0 rfl) ?_
  refine zget E hw (Nat.le_of_ble_eq_true rfl) (ceM_0 ad cy _) rfl inX12 0 (by decide) k5_223 (fun _ h => h) rfl dX12_windNow_1 ?_
  refine lv_iconst (v := 3) hx hb dX12_windNow_4 (by decide) ?_
  refine zaldk E hw (Nat.le_of_ble_eq_true rfl) (ceM_1 ad cy) 3 (by rfl) (Nat.le_of_ble_eq_true rfl) (by decide) dX12_windNow_5 ?_
  refine lv_bipush (v := 16) hx hb dX12_windNow_6 (by decide) ?_
  refine lv_icmp_ge (tgt := 28) hx hb dX12_windNow_8 (by decide) (fun h => ?_) (fun h => ?_)
  · replace hf := it_t h hf
    refine lv_iconst (v := 0) hx hb dX12_windNow_28 (by decide) ?_
    exact zreti E hw hr hlk (rt_1 hf) rfl dX12_windNow_29
  · replace hf := it_f h hf
    refine lv_aload_n hx hb dX12_windNow_11 rfl (lv_at hl 0 rfl) ?_
    refine zget E hw (Nat.le_of_ble_eq_true rfl) (ceM_0 ad cy _) rfl inX12 0 (by decide) k5_223 (fun _ h => h) rfl dX12_windNow_12 ?_
    refine lv_bipush (v := 7) hx hb dX12_windNow_15 (by decide) ?_
    refine lv_aload_n hx hb dX12_windNow_17 rfl (lv_at hl 0 rfl) ?_
    refine zget E hw (Nat.le_of_ble_eq_true rfl) (ceM_0 ad cy _) rfl inX12 0 (by decide) k5_223 (fun _ h => h) rfl dX12_windNow_18 ?_
    refine lv_iconst (v := 3) hx hb dX12_windNow_21 (by decide) ?_
    refine zaldk E hw (Nat.le_of_ble_eq_true rfl) (ceM_1 ad cy) 3 (by rfl) (Nat.le_of_ble_eq_true rfl) (by decide) dX12_windNow_22 ?_
    refine lv_iadd hx hb dX12_windNow_23 ?_
    obtain ⟨vq1, hvq1, hf⟩ := bd_e hf
    refine zaldr E hw (Nat.le_of_ble_eq_true rfl) (ceM_1 ad cy) hvq1 dX12_windNow_24 ?_
    refine lv_goto (tgt := 29) hx hb dX12_windNow_25 (by decide) ?_
    exact zreti E hw hr hlk (rt_1 hf) rfl dX12_windNow_29
set_option maxRecDepth 100000 in
set_option maxHeartbeats 4000000 in
theorem c_X12_driftOf {l : Launch} {D : va_G} {cy : Cy} {ad : Nat → Nat} {A : Nat → Prop} (hA : okAd 17 ad A) (xq0 : Int32) (xq1 : Int32) (xq2 : Int32) (σ : Sg) {r : Int32} (hf : f_X12_driftOf xq0 xq1 xq2 σ = r) : Met l yX12_driftOf (.code yX12_driftOf cX12_driftOf 5 (some .int) :: TT) ({ frames := 0, cells := 0, slots := 0, locals := 0 } : Room) (zPc D cy 17 (celM ad cy) ad A [.int xq0, .int xq1, .int xq2] σ) (zQi D 17 (celM ad cy) ad A r σ) 0 0 A := by
  refine zofW (by decide) hA (Nat.le_of_ble_eq_true rfl) ?_
  intro p e s m args below meth c ls E hw hr hlk hl
  have E : ZE p s m args c cX12_driftOf 5 "KiteSummonsModel" D cy 17 ad A := E
  have hx := E.hx
  have hb := E.hb
  have hl : lv_has ls 5 [(0, .int xq0), (1, .int xq1), (2, .int xq2)] := hl
  have hB22 : ∀ (xq0 : Int32) (xq1 : Int32) (xq2 : Int32) (xq3 : Int32) (tq0 : Int32) (H : Heap) (locs : List Loc) (ls : Array Slot), ZS D 17 (celM ad cy) ad A s σ H locs → lv_has ls 5 [(0, .int xq0), (1, .int xq1), (2, .int xq2), (3, .int xq3)] → f_X12_driftOf_b22 xq0 xq1 xq2 xq3 tq0 σ = r → W p l e ({ frames := 0, cells := 0, slots := 0, locals := 0 } : Room) s m args below meth c H locs 0 0 (MQ below (zQi D 17 (celM ad cy) ad A r σ) args s 0 0 A) (F0 m 22 ls [.int tq0]) := by
    intro xq0 xq1 xq2 xq3 tq0 H locs ls hw hl hf
    unfold f_X12_driftOf_b22 at hf
    refine lv_istore (lv' := [(4, .int tq0), (0, .int xq0), (1, .int xq1), (2, .int xq2), (3, .int xq3)]) hx hb dX12_driftOf_22 hl (by decide) rfl (fun ls hl => ?_)
    refine lv_iload_n hx hb dX12_driftOf_24 rfl (lv_at hl 1 rfl) ?_
    by_cases hc25_0 : xq0 = 1
    · replace hf := it_t hc25_0 hf
      refine lv_tableIn (tgt := 60) (off := 35) hx hb dX12_driftOf_25 (by rw [hc25_0]; decide) (by rw [hc25_0]; decide) (by rw [hc25_0]; rfl) (by decide) ?_
      refine lv_iconst (v := 2) hx hb dX12_driftOf_60 (by decide) ?_
      refine lv_iload_n hx hb dX12_driftOf_61 rfl (lv_at hl 2 rfl) ?_
      refine lv_imul hx hb dX12_driftOf_62 ?_
      exact zreti E hw hr hlk hf rfl dX12_driftOf_63
    · replace hf := it_f hc25_0 hf
      by_cases hc25_1 : xq0 = 2
      · replace hf := it_t hc25_1 hf
        refine lv_tableIn (tgt := 64) (off := 39) hx hb dX12_driftOf_25 (by rw [hc25_1]; decide) (by rw [hc25_1]; decide) (by rw [hc25_1]; rfl) (by decide) ?_
        refine lv_iload_n hx hb dX12_driftOf_64 rfl (lv_at hl 4 rfl) ?_
        exact zreti E hw hr hlk hf rfl dX12_driftOf_65
      · replace hf := it_f hc25_1 hf
        by_cases hc25_2 : xq0 = 3
        · replace hf := it_t hc25_2 hf
          refine lv_tableIn (tgt := 66) (off := 41) hx hb dX12_driftOf_25 (by rw [hc25_2]; decide) (by rw [hc25_2]; decide) (by rw [hc25_2]; rfl) (by decide) ?_
          refine lv_iload_n hx hb dX12_driftOf_66 rfl (lv_at hl 3 rfl) ?_
          refine lv_iconst (v := 2) hx hb dX12_driftOf_67 (by decide) ?_
          refine zirem hx hb dX12_driftOf_68 (by decide) ?_
          refine lv_if_ne (tgt := 78) hx hb dX12_driftOf_69 (by decide) (fun h => ?_) (fun h => ?_)
          · replace hf := it_t h hf
            refine lv_iload_n hx hb dX12_driftOf_78 rfl (lv_at hl 4 rfl) ?_
            exact zreti E hw hr hlk hf rfl dX12_driftOf_79
          · replace hf := it_n h hf
            refine lv_iload_n hx hb dX12_driftOf_72 rfl (lv_at hl 4 rfl) ?_
            refine lv_iconst (v := 1) hx hb dX12_driftOf_73 (by decide) ?_
            refine lv_iadd hx hb dX12_driftOf_74 ?_
            refine lv_goto (tgt := 79) hx hb dX12_driftOf_75 (by decide) ?_
            exact zreti E hw hr hlk hf rfl dX12_driftOf_79
        · replace hf := it_f hc25_2 hf
          by_cases hc25_3 : xq0 = 4
          · replace hf := it_t hc25_3 hf
            refine lv_tableIn (tgt := 80) (off := 55) hx hb dX12_driftOf_25 (by rw [hc25_3]; decide) (by rw [hc25_3]; decide) (by rw [hc25_3]; rfl) (by decide) ?_
            refine lv_iload hx hb dX12_driftOf_80 (lv_at hl 0 rfl) ?_
            exact zreti E hw hr hlk hf rfl dX12_driftOf_82
          · replace hf := it_f hc25_3 hf
            by_cases hc25_4 : xq0 = 5
            · replace hf := it_t hc25_4 hf
              refine lv_tableIn (tgt := 83) (off := 58) hx hb dX12_driftOf_25 (by rw [hc25_4]; decide) (by rw [hc25_4]; decide) (by rw [hc25_4]; rfl) (by decide) ?_
              refine lv_iload_n hx hb dX12_driftOf_83 rfl (lv_at hl 3 rfl) ?_
              refine lv_iconst (v := 2) hx hb dX12_driftOf_84 (by decide) ?_
              refine zirem hx hb dX12_driftOf_85 (by decide) ?_
              refine lv_if_ne (tgt := 94) hx hb dX12_driftOf_86 (by decide) (fun h => ?_) (fun h => ?_)
              · replace hf := it_t h hf
                refine lv_iconst (v := 0) hx hb dX12_driftOf_94 (by decide) ?_
                exact zreti E hw hr hlk hf rfl dX12_driftOf_95
              · replace hf := it_n h hf
                refine lv_iload hx hb dX12_driftOf_89 (lv_at hl 0 rfl) ?_
                refine lv_goto (tgt := 95) hx hb dX12_driftOf_91 (by decide) ?_
                exact zreti E hw hr hlk hf rfl dX12_driftOf_95
            · replace hf := it_f hc25_4 hf
              refine lv_tableOut (tgt := 96) hx hb dX12_driftOf_25 (by have := lv_neT hc25_0 (a := 1) rfl; have := lv_neT hc25_1 (a := 2) rfl; have := lv_neT hc25_2 (a := 3) rfl; have := lv_neT hc25_3 (a := 4) rfl; have := lv_neT hc25_4 (a := 5) rfl; omega) (by decide) ?_
              refine lv_iload_n hx hb dX12_driftOf_96 rfl (lv_at hl 2 rfl) ?_
              exact zreti E hw hr hlk hf rfl dX12_driftOf_97
  have hB11 : ∀ (xq0 : Int32) (xq1 : Int32) (xq2 : Int32) (tq0 : Int32) (H : Heap) (locs : List Loc) (ls : Array Slot), ZS D 17 (celM ad cy) ad A s σ H locs → lv_has ls 5 [(0, .int xq0), (1, .int xq1), (2, .int xq2)] → f_X12_driftOf_b11 xq0 xq1 xq2 tq0 σ = r → W p l e ({ frames := 0, cells := 0, slots := 0, locals := 0 } : Room) s m args below meth c H locs 0 0 (MQ below (zQi D 17 (celM ad cy) ad A r σ) args s 0 0 A) (F0 m 11 ls [.int tq0]) := by
    intro xq0 xq1 xq2 tq0 H locs ls hw hl hf
    unfold f_X12_driftOf_b11 at hf
    refine lv_istore_n (lv' := [(3, .int tq0), (0, .int xq0), (1, .int xq1), (2, .int xq2)]) hx hb dX12_driftOf_11 rfl hl (by decide) rfl (fun ls hl => ?_)
    refine lv_iload_n hx hb dX12_driftOf_12 rfl (lv_at hl 2 rfl) ?_
    refine lv_iconst (v := 1) hx hb dX12_driftOf_13 (by decide) ?_
    refine lv_icmp_le (tgt := 21) hx hb dX12_driftOf_14 (by decide) (fun h => ?_) (fun h => ?_)
    · replace hf := it_t h hf
      refine lv_iload_n hx hb dX12_driftOf_21 rfl (lv_at hl 2 rfl) ?_
      exact hB22 xq0 xq1 xq2 tq0 xq1 _ _ _ hw (lv_sub hl [1, 2, 3, 0] rfl) hf
    · replace hf := it_f h hf
      refine lv_iconst (v := 1) hx hb dX12_driftOf_17 (by decide) ?_
      refine lv_goto (tgt := 22) hx hb dX12_driftOf_18 (by decide) ?_
      exact hB22 xq0 xq1 xq2 tq0 1 _ _ _ hw (lv_sub hl [1, 2, 3, 0] rfl) hf
  unfold f_X12_driftOf at hf
  refine lv_iload_n hx hb dX12_driftOf_0 rfl (lv_at hl 1 rfl) ?_
  refine lv_if_le (tgt := 10) hx hb dX12_driftOf_1 (by decide) (fun h => ?_) (fun h => ?_)
  · replace hf := it_t h hf
    refine lv_iconst (v := 0) hx hb dX12_driftOf_10 (by decide) ?_
    exact hB11 xq0 xq1 xq2 0 _ _ _ hw (lv_sub hl [0, 1, 2] rfl) hf
  · replace hf := it_f h hf
    refine lv_iload_n hx hb dX12_driftOf_4 rfl (lv_at hl 1 rfl) ?_
    refine lv_iconst (v := 1) hx hb dX12_driftOf_5 (by decide) ?_
    refine lv_isub hx hb dX12_driftOf_6 ?_
    refine lv_goto (tgt := 11) hx hb dX12_driftOf_7 (by decide) ?_
    exact hB11 xq0 xq1 xq2 (xq1 - 1) _ _ _ hw (lv_sub hl [0, 1, 2] rfl) hf
set_option maxRecDepth 100000 in
set_option maxHeartbeats 4000000 in
theorem c_X12_drifts {l : Launch} {D : va_G} {cy : Cy} {ad : Nat → Nat} {A : Nat → Prop} (hA : okAd 17 ad A) (xq1 : Int32) (σ : Sg) {r : Int32} (hf : f_X12_drifts xq1 σ = some r) : Met l yX12_drifts (.code yX12_drifts cX12_drifts 2 (some .int) :: TT) ({ frames := 2, cells := 0, slots := 0, locals := 43 } : Room) (zPc D cy 17 (celM ad cy) ad A [.ref (ad 0), .int xq1] σ) (zQi D 17 (celM ad cy) ad A r σ) 0 0 A := by
  refine zofW (by decide) hA (Nat.le_of_ble_eq_true rfl) ?_
  intro p e s m args below meth c ls E hw hr hlk hl
  have E : ZE p s m args c cX12_drifts 2 "KiteSummonsModel" D cy 17 ad A := E
  have hx := E.hx
  have hb := E.hb
  have hl : lv_has ls 2 [(0, .ref (ad 0)), (1, .int xq1)] := hl
  unfold f_X12_drifts at hf
  refine lv_aload_n hx hb dX12_drifts_0 rfl (lv_at hl 0 rfl) ?_
  refine zget E hw (Nat.le_of_ble_eq_true rfl) (ceM_0 ad cy _) rfl inX12 0 (by decide) k5_223 (fun _ h => h) rfl dX12_drifts_1 ?_
  refine lv_iconst (v := 3) hx hb dX12_drifts_4 (by decide) ?_
  refine zaldk E hw (Nat.le_of_ble_eq_true rfl) (ceM_1 ad cy) 3 (by rfl) (Nat.le_of_ble_eq_true rfl) (by decide) dX12_drifts_5 ?_
  refine lv_bipush (v := 16) hx hb dX12_drifts_6 (by decide) ?_
  refine lv_icmp_ge (tgt := 35) hx hb dX12_drifts_8 (by decide) (fun h => ?_) (fun h => ?_)
  · replace hf := it_t h hf
    refine lv_iconst (v := 0) hx hb dX12_drifts_35 (by decide) ?_
    exact zreti E hw hr hlk (rt_1 hf) rfl dX12_drifts_36
  · replace hf := it_f h hf
    refine lv_aload_n hx hb dX12_drifts_11 rfl (lv_at hl 0 rfl) ?_
    refine lv_iload_n hx hb dX12_drifts_12 rfl (lv_at hl 1 rfl) ?_
    refine lv_iconst (v := 0) hx hb dX12_drifts_13 (by decide) ?_
    obtain ⟨vq1, hc, hf⟩ := bd_e hf
    refine zcali hw (va_runV (As := [.int xq1, .int 0]) (rest := []) E.fix (c_X12_its (l := l) hA xq1 0 σ hc) (zcV E k6_145 k1_14 k6_142 k6_144 kp3_9 mf_X12_its rfl rfl ⟨Nat.le_of_ble_eq_true rfl, Nat.le_of_ble_eq_true rfl⟩) (zPreV E hw (Nat.le_of_ble_eq_true rfl) (ceM_0 ad cy _) rfl _) rfl rfl hl.1 rfl (lv_room (Nat.le_of_ble_eq_true rfl)) dX12_drifts_14 ⟨Nat.zero_le _, Nat.zero_le _⟩) (fun H locs hw => ?_)
    refine lv_aload_n hx hb dX12_drifts_17 rfl (lv_at hl 0 rfl) ?_
    obtain ⟨vq2, hc, hf⟩ := bd_e hf
    refine zcali hw (va_runV (As := []) (rest := [.int vq1]) E.fix (c_X12_windNow (l := l) hA σ hc) (zcV E k6_149 k1_14 k6_146 k6_148 kp3_10 mf_X12_windNow rfl rfl ⟨Nat.le_of_ble_eq_true rfl, Nat.le_of_ble_eq_true rfl⟩) (zPreV E hw (Nat.le_of_ble_eq_true rfl) (ceM_0 ad cy _) rfl _) rfl rfl hl.1 rfl (lv_room (Nat.le_of_ble_eq_true rfl)) dX12_drifts_18 ⟨Nat.zero_le _, Nat.zero_le _⟩) (fun H locs hw => ?_)
    refine lv_iconst (v := 4) hx hb dX12_drifts_21 (by decide) ?_
    refine lv_idiv hx hb dX12_drifts_22 (by decide) ?_
    refine lv_aload_n hx hb dX12_drifts_23 rfl (lv_at hl 0 rfl) ?_
    refine zget E hw (Nat.le_of_ble_eq_true rfl) (ceM_0 ad cy _) rfl inX12 0 (by decide) k5_223 (fun _ h => h) rfl dX12_drifts_24 ?_
    refine lv_iconst (v := 3) hx hb dX12_drifts_27 (by decide) ?_
    refine zaldk E hw (Nat.le_of_ble_eq_true rfl) (ceM_1 ad cy) 3 (by rfl) (Nat.le_of_ble_eq_true rfl) (by decide) dX12_drifts_28 ?_
    refine zcali hw (va_runS (As := [.int vq1, .int (vq2 / 4), .int (σ 1 3)]) (rest := []) E.fix (c_X12_driftOf (l := l) hA vq1 (vq2 / 4) (σ 1 3) σ rfl) (zcS E k6_152 k1_14 k6_150 k6_151 mf_X12_driftOf rfl rfl ⟨Nat.le_of_ble_eq_true rfl, Nat.le_of_ble_eq_true rfl⟩) (zPre E hw _) rfl rfl hl.1 rfl (lv_room (Nat.le_of_ble_eq_true rfl)) dX12_drifts_29 ⟨Nat.zero_le _, Nat.zero_le _⟩) (fun H locs hw => ?_)
    refine lv_goto (tgt := 36) hx hb dX12_drifts_32 (by decide) ?_
    exact zreti E hw hr hlk (rt_1 hf) rfl dX12_drifts_36
set_option maxRecDepth 100000 in
set_option maxHeartbeats 4000000 in
theorem c_X12_fee {l : Launch} {D : va_G} {cy : Cy} {ad : Nat → Nat} {A : Nat → Prop} (hA : okAd 17 ad A) (xq1 : Int32) (σ : Sg) {r : Int32} (hf : f_X12_fee xq1 σ = some r) : Met l yX12_fee (.code yX12_fee cX12_fee 2 (some .int) :: TT) ({ frames := 2, cells := 0, slots := 0, locals := 43 } : Room) (zPc D cy 17 (celM ad cy) ad A [.ref (ad 0), .int xq1] σ) (zQi D 17 (celM ad cy) ad A r σ) 0 0 A := by
  refine zofW (by decide) hA (Nat.le_of_ble_eq_true rfl) ?_
  intro p e s m args below meth c ls E hw hr hlk hl
  have E : ZE p s m args c cX12_fee 2 "KiteSummonsModel" D cy 17 ad A := E
  have hx := E.hx
  have hb := E.hb
  have hl : lv_has ls 2 [(0, .ref (ad 0)), (1, .int xq1)] := hl
  unfold f_X12_fee at hf
  refine lv_aload_n hx hb dX12_fee_0 rfl (lv_at hl 0 rfl) ?_
  refine lv_iload_n hx hb dX12_fee_1 rfl (lv_at hl 1 rfl) ?_
  refine lv_iconst (v := 0) hx hb dX12_fee_2 (by decide) ?_
  obtain ⟨vq1, hc, hf⟩ := bd_e hf
  refine zcali hw (va_runV (As := [.int xq1, .int 0]) (rest := []) E.fix (c_X12_its (l := l) hA xq1 0 σ hc) (zcV E k6_145 k1_14 k6_142 k6_144 kp3_9 mf_X12_its rfl rfl ⟨Nat.le_of_ble_eq_true rfl, Nat.le_of_ble_eq_true rfl⟩) (zPreV E hw (Nat.le_of_ble_eq_true rfl) (ceM_0 ad cy _) rfl _) rfl rfl hl.1 rfl (lv_room (Nat.le_of_ble_eq_true rfl)) dX12_fee_3 ⟨Nat.zero_le _, Nat.zero_le _⟩) (fun H locs hw => ?_)
  by_cases hc6_0 : vq1 = 1
  · replace hf := it_t hc6_0 hf
    refine lv_tableIn (tgt := 40) (off := 34) hx hb dX12_fee_6 (by rw [hc6_0]; decide) (by rw [hc6_0]; decide) (by rw [hc6_0]; rfl) (by decide) ?_
    refine lv_bipush (v := 6) hx hb dX12_fee_40 (by decide) ?_
    exact zreti E hw hr hlk (rt_1 hf) rfl dX12_fee_42
  · replace hf := it_f hc6_0 hf
    by_cases hc6_1 : vq1 = 2
    · replace hf := it_t hc6_1 hf
      refine lv_tableIn (tgt := 43) (off := 37) hx hb dX12_fee_6 (by rw [hc6_1]; decide) (by rw [hc6_1]; decide) (by rw [hc6_1]; rfl) (by decide) ?_
      refine lv_iconst (v := 4) hx hb dX12_fee_43 (by decide) ?_
      refine lv_iload_n hx hb dX12_fee_44 rfl (lv_at hl 1 rfl) ?_
      refine lv_iadd hx hb dX12_fee_45 ?_
      exact zreti E hw hr hlk (rt_1 hf) rfl dX12_fee_46
    · replace hf := it_f hc6_1 hf
      by_cases hc6_2 : vq1 = 3
      · replace hf := it_t hc6_2 hf
        refine lv_tableIn (tgt := 47) (off := 41) hx hb dX12_fee_6 (by rw [hc6_2]; decide) (by rw [hc6_2]; decide) (by rw [hc6_2]; rfl) (by decide) ?_
        refine lv_bipush (v := 8) hx hb dX12_fee_47 (by decide) ?_
        refine lv_iconst (v := 2) hx hb dX12_fee_49 (by decide) ?_
        refine lv_iload_n hx hb dX12_fee_50 rfl (lv_at hl 1 rfl) ?_
        refine lv_imul hx hb dX12_fee_51 ?_
        refine lv_iadd hx hb dX12_fee_52 ?_
        exact zreti E hw hr hlk (rt_1 hf) rfl dX12_fee_53
      · replace hf := it_f hc6_2 hf
        by_cases hc6_3 : vq1 = 4
        · replace hf := it_t hc6_3 hf
          refine lv_tableIn (tgt := 54) (off := 48) hx hb dX12_fee_6 (by rw [hc6_3]; decide) (by rw [hc6_3]; decide) (by rw [hc6_3]; rfl) (by decide) ?_
          refine lv_iconst (v := 3) hx hb dX12_fee_54 (by decide) ?_
          exact zreti E hw hr hlk (rt_1 hf) rfl dX12_fee_55
        · replace hf := it_f hc6_3 hf
          by_cases hc6_4 : vq1 = 5
          · replace hf := it_t hc6_4 hf
            refine lv_tableIn (tgt := 56) (off := 50) hx hb dX12_fee_6 (by rw [hc6_4]; decide) (by rw [hc6_4]; decide) (by rw [hc6_4]; rfl) (by decide) ?_
            refine lv_iconst (v := 1) hx hb dX12_fee_56 (by decide) ?_
            exact zreti E hw hr hlk (rt_1 hf) rfl dX12_fee_57
          · replace hf := it_f hc6_4 hf
            refine lv_tableOut (tgt := 58) hx hb dX12_fee_6 (by have := lv_neT hc6_0 (a := 1) rfl; have := lv_neT hc6_1 (a := 2) rfl; have := lv_neT hc6_2 (a := 3) rfl; have := lv_neT hc6_3 (a := 4) rfl; have := lv_neT hc6_4 (a := 5) rfl; omega) (by decide) ?_
            refine lv_iconst (v := 4) hx hb dX12_fee_58 (by decide) ?_
            exact zreti E hw hr hlk (rt_1 hf) rfl dX12_fee_59
set_option maxRecDepth 100000 in
set_option maxHeartbeats 4000000 in
theorem c_X12_isUnder {l : Launch} {D : va_G} {cy : Cy} {ad : Nat → Nat} {A : Nat → Prop} (hA : okAd 17 ad A) (xq0 : Int32) (xq1 : Int32) (σ : Sg) {r : Bool} (hf : f_X12_isUnder xq0 xq1 σ = r) : Met l yX12_isUnder (.code yX12_isUnder cX12_isUnder 2 (some .boolean) :: TT) ({ frames := 0, cells := 0, slots := 0, locals := 0 } : Room) (zPc D cy 17 (celM ad cy) ad A [.int xq0, .int xq1] σ) (zQi D 17 (celM ad cy) ad A (b2i r) σ) 0 0 A := by
  refine zofW (by decide) hA (Nat.le_of_ble_eq_true rfl) ?_
  intro p e s m args below meth c ls E hw hr hlk hl
  have E : ZE p s m args c cX12_isUnder 2 "KiteSummonsModel" D cy 17 ad A := E
  have hx := E.hx
  have hb := E.hb
  have hl : lv_has ls 2 [(0, .int xq0), (1, .int xq1)] := hl
  have hB19 : ∀ (xq0 : Int32) (xq1 : Int32) (H : Heap) (locs : List Loc) (ls : Array Slot), ZS D 17 (celM ad cy) ad A s σ H locs → lv_has ls 2 [(0, .int xq0), (1, .int xq1)] → f_X12_isUnder_b19 xq0 xq1 σ = r → W p l e ({ frames := 0, cells := 0, slots := 0, locals := 0 } : Room) s m args below meth c H locs 0 0 (MQ below (zQi D 17 (celM ad cy) ad A (b2i r) σ) args s 0 0 A) (F0 m 19 ls []) := by
    intro xq0 xq1 H locs ls hw hl hf
    unfold f_X12_isUnder_b19 at hf
    refine lv_iload_n hx hb dX12_isUnder_19 rfl (lv_at hl 0 rfl) ?_
    refine lv_iconst (v := 5) hx hb dX12_isUnder_20 (by decide) ?_
    refine lv_icmp_ne (tgt := 33) hx hb dX12_isUnder_21 (by decide) (fun h => ?_) (fun h => ?_)
    · replace hf := it_t h hf
      refine lv_iconst (v := 0) hx hb dX12_isUnder_33 (by decide) ?_
      exact zretz E hw hr hlk (b_e hf (by rfl)) rfl dX12_isUnder_34
    · replace hf := it_n h hf
      refine lv_iload_n hx hb dX12_isUnder_24 rfl (lv_at hl 1 rfl) ?_
      refine lv_iconst (v := 4) hx hb dX12_isUnder_25 (by decide) ?_
      refine lv_icmp_ne (tgt := 33) hx hb dX12_isUnder_26 (by decide) (fun h => ?_) (fun h => ?_)
      · replace hf := it_t h hf
        refine lv_iconst (v := 0) hx hb dX12_isUnder_33 (by decide) ?_
        exact zretz E hw hr hlk (b_e hf (by rfl)) rfl dX12_isUnder_34
      · replace hf := it_n h hf
        refine lv_iconst (v := 1) hx hb dX12_isUnder_29 (by decide) ?_
        refine lv_goto (tgt := 34) hx hb dX12_isUnder_30 (by decide) ?_
        exact zretz E hw hr hlk (b_e hf (by rfl)) rfl dX12_isUnder_34
  unfold f_X12_isUnder at hf
  refine lv_iload_n hx hb dX12_isUnder_0 rfl (lv_at hl 1 rfl) ?_
  refine lv_if_eq (tgt := 29) hx hb dX12_isUnder_1 (by decide) (fun h => ?_) (fun h => ?_)
  · replace hf := it_t h hf
    refine lv_iconst (v := 1) hx hb dX12_isUnder_29 (by decide) ?_
    refine lv_goto (tgt := 34) hx hb dX12_isUnder_30 (by decide) ?_
    exact zretz E hw hr hlk (b_e hf (by rfl)) rfl dX12_isUnder_34
  · replace hf := it_f h hf
    refine lv_iload_n hx hb dX12_isUnder_4 rfl (lv_at hl 0 rfl) ?_
    refine lv_iload_n hx hb dX12_isUnder_5 rfl (lv_at hl 1 rfl) ?_
    refine lv_icmp_eq (tgt := 29) hx hb dX12_isUnder_6 (by decide) (fun h => ?_) (fun h => ?_)
    · replace hf := it_t h hf
      refine lv_iconst (v := 1) hx hb dX12_isUnder_29 (by decide) ?_
      refine lv_goto (tgt := 34) hx hb dX12_isUnder_30 (by decide) ?_
      exact zretz E hw hr hlk (b_e hf (by rfl)) rfl dX12_isUnder_34
    · replace hf := it_f h hf
      refine lv_iload_n hx hb dX12_isUnder_9 rfl (lv_at hl 0 rfl) ?_
      refine lv_iconst (v := 3) hx hb dX12_isUnder_10 (by decide) ?_
      refine lv_icmp_ne (tgt := 19) hx hb dX12_isUnder_11 (by decide) (fun h => ?_) (fun h => ?_)
      · replace hf := it_t h hf
        exact hB19 xq0 xq1 _ _ _ hw (lv_sub hl [0, 1] rfl) hf
      · replace hf := it_n h hf
        refine lv_iload_n hx hb dX12_isUnder_14 rfl (lv_at hl 1 rfl) ?_
        refine lv_iconst (v := 2) hx hb dX12_isUnder_15 (by decide) ?_
        refine lv_icmp_eq (tgt := 29) hx hb dX12_isUnder_16 (by decide) (fun h => ?_) (fun h => ?_)
        · replace hf := it_t h hf
          refine lv_iconst (v := 1) hx hb dX12_isUnder_29 (by decide) ?_
          refine lv_goto (tgt := 34) hx hb dX12_isUnder_30 (by decide) ?_
          exact zretz E hw hr hlk (b_e hf (by rfl)) rfl dX12_isUnder_34
        · replace hf := it_f h hf
          exact hB19 xq0 xq1 _ _ _ hw (lv_sub hl [0, 1] rfl) hf
set_option maxRecDepth 100000 in
set_option maxHeartbeats 4000000 in
theorem c_X12_isHolding {l : Launch} {D : va_G} {cy : Cy} {ad : Nat → Nat} {A : Nat → Prop} (hA : okAd 17 ad A) (xq0 : Int32) (xq1 : Int32) (xq2 : Int32) (σ : Sg) {r : Bool} (hf : f_X12_isHolding xq0 xq1 xq2 σ = r) : Met l yX12_isHolding (.code yX12_isHolding cX12_isHolding 3 (some .boolean) :: TT) ({ frames := 0, cells := 0, slots := 0, locals := 0 } : Room) (zPc D cy 17 (celM ad cy) ad A [.int xq0, .int xq1, .int xq2] σ) (zQi D 17 (celM ad cy) ad A (b2i r) σ) 0 0 A := by
  refine zofW (by decide) hA (Nat.le_of_ble_eq_true rfl) ?_
  intro p e s m args below meth c ls E hw hr hlk hl
  have E : ZE p s m args c cX12_isHolding 3 "KiteSummonsModel" D cy 17 ad A := E
  have hx := E.hx
  have hb := E.hb
  have hl : lv_has ls 3 [(0, .int xq0), (1, .int xq1), (2, .int xq2)] := hl
  unfold f_X12_isHolding at hf
  refine lv_iload_n hx hb dX12_isHolding_0 rfl (lv_at hl 0 rfl) ?_
  by_cases hc1_0 : xq0 = (-21)
  · replace hf := it_t hc1_0 hf
    refine lv_lookup (tgt := 77) (off := 76) hx hb dX12_isHolding_1 (by decide +kernel) (by rw [hc1_0]; decide +kernel) (by decide) ?_
    refine lv_iload_n hx hb dX12_isHolding_77 rfl (lv_at hl 1 rfl) ?_
    refine lv_iconst (v := 1) hx hb dX12_isHolding_78 (by decide) ?_
    refine lv_icmp_ne (tgt := 91) hx hb dX12_isHolding_79 (by decide) (fun h => ?_) (fun h => ?_)
    · replace hf := it_t h hf
      refine lv_iconst (v := 0) hx hb dX12_isHolding_91 (by decide) ?_
      exact zretz E hw hr hlk (b_e hf (by rfl)) rfl dX12_isHolding_92
    · replace hf := it_n h hf
      refine lv_iload_n hx hb dX12_isHolding_82 rfl (lv_at hl 2 rfl) ?_
      refine lv_iconst (v := 1) hx hb dX12_isHolding_83 (by decide) ?_
      refine lv_icmp_ne (tgt := 91) hx hb dX12_isHolding_84 (by decide) (fun h => ?_) (fun h => ?_)
      · replace hf := it_t h hf
        refine lv_iconst (v := 0) hx hb dX12_isHolding_91 (by decide) ?_
        exact zretz E hw hr hlk (b_e hf (by rfl)) rfl dX12_isHolding_92
      · replace hf := it_n h hf
        refine lv_iconst (v := 1) hx hb dX12_isHolding_87 (by decide) ?_
        refine lv_goto (tgt := 92) hx hb dX12_isHolding_88 (by decide) ?_
        exact zretz E hw hr hlk (b_e hf (by rfl)) rfl dX12_isHolding_92
  · replace hf := it_f hc1_0 hf
    by_cases hc1_1 : xq0 = (-13)
    · replace hf := it_t hc1_1 hf
      refine lv_lookup (tgt := 66) (off := 65) hx hb dX12_isHolding_1 (by decide +kernel) (by rw [hc1_1]; decide +kernel) (by decide) ?_
      refine lv_iload_n hx hb dX12_isHolding_66 rfl (lv_at hl 1 rfl) ?_
      refine lv_iload_n hx hb dX12_isHolding_67 rfl (lv_at hl 2 rfl) ?_
      refine lv_icmp_le (tgt := 75) hx hb dX12_isHolding_68 (by decide) (fun h => ?_) (fun h => ?_)
      · replace hf := it_t h hf
        refine lv_iconst (v := 0) hx hb dX12_isHolding_75 (by decide) ?_
        exact zretz E hw hr hlk (b_e hf (by rfl)) rfl dX12_isHolding_76
      · replace hf := it_f h hf
        refine lv_iconst (v := 1) hx hb dX12_isHolding_71 (by decide) ?_
        refine lv_goto (tgt := 76) hx hb dX12_isHolding_72 (by decide) ?_
        exact zretz E hw hr hlk (b_e hf (by rfl)) rfl dX12_isHolding_76
    · replace hf := it_f hc1_1 hf
      by_cases hc1_2 : xq0 = (-12)
      · replace hf := it_t hc1_2 hf
        refine lv_lookup (tgt := 55) (off := 54) hx hb dX12_isHolding_1 (by decide +kernel) (by rw [hc1_2]; decide +kernel) (by decide) ?_
        refine lv_iload_n hx hb dX12_isHolding_55 rfl (lv_at hl 1 rfl) ?_
        refine lv_iload_n hx hb dX12_isHolding_56 rfl (lv_at hl 2 rfl) ?_
        refine lv_icmp_ne (tgt := 64) hx hb dX12_isHolding_57 (by decide) (fun h => ?_) (fun h => ?_)
        · replace hf := it_t h hf
          refine lv_iconst (v := 0) hx hb dX12_isHolding_64 (by decide) ?_
          exact zretz E hw hr hlk (b_e hf (by rfl)) rfl dX12_isHolding_65
        · replace hf := it_n h hf
          refine lv_iconst (v := 1) hx hb dX12_isHolding_60 (by decide) ?_
          refine lv_goto (tgt := 65) hx hb dX12_isHolding_61 (by decide) ?_
          exact zretz E hw hr hlk (b_e hf (by rfl)) rfl dX12_isHolding_65
      · replace hf := it_f hc1_2 hf
        by_cases hc1_3 : xq0 = (-11)
        · replace hf := it_t hc1_3 hf
          refine lv_lookup (tgt := 44) (off := 43) hx hb dX12_isHolding_1 (by decide +kernel) (by rw [hc1_3]; decide +kernel) (by decide) ?_
          refine lv_iload_n hx hb dX12_isHolding_44 rfl (lv_at hl 1 rfl) ?_
          refine lv_iload_n hx hb dX12_isHolding_45 rfl (lv_at hl 2 rfl) ?_
          refine lv_icmp_ge (tgt := 53) hx hb dX12_isHolding_46 (by decide) (fun h => ?_) (fun h => ?_)
          · replace hf := it_t h hf
            refine lv_iconst (v := 0) hx hb dX12_isHolding_53 (by decide) ?_
            exact zretz E hw hr hlk (b_e hf (by rfl)) rfl dX12_isHolding_54
          · replace hf := it_f h hf
            refine lv_iconst (v := 1) hx hb dX12_isHolding_49 (by decide) ?_
            refine lv_goto (tgt := 54) hx hb dX12_isHolding_50 (by decide) ?_
            exact zretz E hw hr hlk (b_e hf (by rfl)) rfl dX12_isHolding_54
        · replace hf := it_f hc1_3 hf
          refine lv_lookup (tgt := 93) (off := 92) hx hb dX12_isHolding_1 (by decide +kernel) (by rw [show Op.lookupswitch.offset _ _ _ = _ from lv_osw hc1_0 (by rfl)]; rw [show Op.lookupswitch.offset _ _ _ = _ from lv_osw hc1_1 (by rfl)]; rw [show Op.lookupswitch.offset _ _ _ = _ from lv_osw hc1_2 (by rfl)]; rw [show Op.lookupswitch.offset _ _ _ = _ from lv_osw hc1_3 (by rfl)]; rfl) (by decide) ?_
          refine lv_iload_n hx hb dX12_isHolding_93 rfl (lv_at hl 1 rfl) ?_
          refine lv_iconst (v := 1) hx hb dX12_isHolding_94 (by decide) ?_
          refine lv_icmp_eq (tgt := 103) hx hb dX12_isHolding_95 (by decide) (fun h => ?_) (fun h => ?_)
          · replace hf := it_t h hf
            refine lv_iconst (v := 1) hx hb dX12_isHolding_103 (by decide) ?_
            refine lv_goto (tgt := 108) hx hb dX12_isHolding_104 (by decide) ?_
            exact zretz E hw hr hlk (b_e hf (by rfl)) rfl dX12_isHolding_108
          · replace hf := it_f h hf
            refine lv_iload_n hx hb dX12_isHolding_98 rfl (lv_at hl 2 rfl) ?_
            refine lv_iconst (v := 1) hx hb dX12_isHolding_99 (by decide) ?_
            refine lv_icmp_ne (tgt := 107) hx hb dX12_isHolding_100 (by decide) (fun h => ?_) (fun h => ?_)
            · replace hf := it_t h hf
              refine lv_iconst (v := 0) hx hb dX12_isHolding_107 (by decide) ?_
              exact zretz E hw hr hlk (b_e hf (by rfl)) rfl dX12_isHolding_108
            · replace hf := it_n h hf
              refine lv_iconst (v := 1) hx hb dX12_isHolding_103 (by decide) ?_
              refine lv_goto (tgt := 108) hx hb dX12_isHolding_104 (by decide) ?_
              exact zretz E hw hr hlk (b_e hf (by rfl)) rfl dX12_isHolding_108
set_option maxRecDepth 100000 in
set_option maxHeartbeats 4000000 in
theorem c_X12_distance {l : Launch} {D : va_G} {cy : Cy} {ad : Nat → Nat} {A : Nat → Prop} (hA : okAd 17 ad A) (xq0 : Int32) (xq1 : Int32) (σ : Sg) {r : Int32} (hf : f_X12_distance xq0 xq1 σ = r) : Met l yX12_distance (.code yX12_distance cX12_distance 2 (some .int) :: TT) ({ frames := 0, cells := 0, slots := 0, locals := 0 } : Room) (zPc D cy 17 (celM ad cy) ad A [.int xq0, .int xq1] σ) (zQi D 17 (celM ad cy) ad A r σ) 0 0 A := by
  refine zofW (by decide) hA (Nat.le_of_ble_eq_true rfl) ?_
  intro p e s m args below meth c ls E hw hr hlk hl
  have E : ZE p s m args c cX12_distance 2 "KiteSummonsModel" D cy 17 ad A := E
  have hx := E.hx
  have hb := E.hb
  have hl : lv_has ls 2 [(0, .int xq0), (1, .int xq1)] := hl
  unfold f_X12_distance at hf
  refine lv_iload_n hx hb dX12_distance_0 rfl (lv_at hl 0 rfl) ?_
  refine lv_iload_n hx hb dX12_distance_1 rfl (lv_at hl 1 rfl) ?_
  refine lv_icmp_ge (tgt := 11) hx hb dX12_distance_2 (by decide) (fun h => ?_) (fun h => ?_)
  · replace hf := it_t h hf
    refine lv_iload_n hx hb dX12_distance_11 rfl (lv_at hl 0 rfl) ?_
    refine lv_iload_n hx hb dX12_distance_12 rfl (lv_at hl 1 rfl) ?_
    refine lv_isub hx hb dX12_distance_13 ?_
    exact zreti E hw hr hlk hf rfl dX12_distance_14
  · replace hf := it_f h hf
    refine lv_iload_n hx hb dX12_distance_5 rfl (lv_at hl 1 rfl) ?_
    refine lv_iload_n hx hb dX12_distance_6 rfl (lv_at hl 0 rfl) ?_
    refine lv_isub hx hb dX12_distance_7 ?_
    refine lv_goto (tgt := 14) hx hb dX12_distance_8 (by decide) ?_
    exact zreti E hw hr hlk hf rfl dX12_distance_14
set_option maxRecDepth 100000 in
set_option maxHeartbeats 4000000 in
theorem c_X12_far {l : Launch} {D : va_G} {cy : Cy} {ad : Nat → Nat} {A : Nat → Prop} (hA : okAd 17 ad A) (xq0 : Int32) (xq1 : Int32) (σ : Sg) {r : Int32} (hf : f_X12_far xq0 xq1 σ = r) : Met l yX12_far (.code yX12_far cX12_far 2 (some .int) :: TT) ({ frames := 1, cells := 0, slots := 0, locals := 21 } : Room) (zPc D cy 17 (celM ad cy) ad A [.int xq0, .int xq1] σ) (zQi D 17 (celM ad cy) ad A r σ) 0 0 A := by
  refine zofW (by decide) hA (Nat.le_of_ble_eq_true rfl) ?_
  intro p e s m args below meth c ls E hw hr hlk hl
  have E : ZE p s m args c cX12_far 2 "KiteSummonsModel" D cy 17 ad A := E
  have hx := E.hx
  have hb := E.hb
  have hl : lv_has ls 2 [(0, .int xq0), (1, .int xq1)] := hl
  unfold f_X12_far at hf
  refine lv_iload_n hx hb dX12_far_0 rfl (lv_at hl 0 rfl) ?_
  refine lv_bipush (v := 8) hx hb dX12_far_1 (by decide) ?_
  refine zirem hx hb dX12_far_3 (by decide) ?_
  refine lv_iload_n hx hb dX12_far_4 rfl (lv_at hl 1 rfl) ?_
  refine lv_bipush (v := 8) hx hb dX12_far_5 (by decide) ?_
  refine zirem hx hb dX12_far_7 (by decide) ?_
  refine zcali hw (va_runS (As := [.int (rem32 xq0 8), .int (rem32 xq1 8)]) (rest := []) E.fix (c_X12_distance (l := l) hA (rem32 xq0 8) (rem32 xq1 8) σ rfl) (zcS E k6_181 k1_14 k6_179 k6_180 mf_X12_distance rfl rfl ⟨Nat.le_of_ble_eq_true rfl, Nat.le_of_ble_eq_true rfl⟩) (zPre E hw _) rfl rfl hl.1 rfl (lv_room (Nat.le_of_ble_eq_true rfl)) dX12_far_8 ⟨Nat.zero_le _, Nat.zero_le _⟩) (fun H locs hw => ?_)
  refine lv_iload_n hx hb dX12_far_11 rfl (lv_at hl 0 rfl) ?_
  refine lv_bipush (v := 8) hx hb dX12_far_12 (by decide) ?_
  refine lv_idiv hx hb dX12_far_14 (by decide) ?_
  refine lv_iload_n hx hb dX12_far_15 rfl (lv_at hl 1 rfl) ?_
  refine lv_bipush (v := 8) hx hb dX12_far_16 (by decide) ?_
  refine lv_idiv hx hb dX12_far_18 (by decide) ?_
  refine zcali hw (va_runS (As := [.int (xq0 / 8), .int (xq1 / 8)]) (rest := [.int (f_X12_distance (rem32 xq0 8) (rem32 xq1 8) σ)]) E.fix (c_X12_distance (l := l) hA (xq0 / 8) (xq1 / 8) σ rfl) (zcS E k6_181 k1_14 k6_179 k6_180 mf_X12_distance rfl rfl ⟨Nat.le_of_ble_eq_true rfl, Nat.le_of_ble_eq_true rfl⟩) (zPre E hw _) rfl rfl hl.1 rfl (lv_room (Nat.le_of_ble_eq_true rfl)) dX12_far_19 ⟨Nat.zero_le _, Nat.zero_le _⟩) (fun H locs hw => ?_)
  refine lv_iadd hx hb dX12_far_22 ?_
  exact zreti E hw hr hlk hf rfl dX12_far_23
set_option maxRecDepth 100000 in
set_option maxHeartbeats 4000000 in
theorem c_X12_farOf {l : Launch} {D : va_G} {cy : Cy} {ad : Nat → Nat} {A : Nat → Prop} (hA : okAd 17 ad A) (xq1 : Int32) (σ : Sg) {r : Int32} (hf : f_X12_farOf xq1 σ = some r) : Met l yX12_farOf (.code yX12_farOf cX12_farOf 2 (some .int) :: TT) ({ frames := 2, cells := 0, slots := 0, locals := 43 } : Room) (zPc D cy 17 (celM ad cy) ad A [.ref (ad 0), .int xq1] σ) (zQi D 17 (celM ad cy) ad A r σ) 0 0 A := by
  refine zofW (by decide) hA (Nat.le_of_ble_eq_true rfl) ?_
  intro p e s m args below meth c ls E hw hr hlk hl
  have E : ZE p s m args c cX12_farOf 2 "KiteSummonsModel" D cy 17 ad A := E
  have hx := E.hx
  have hb := E.hb
  have hl : lv_has ls 2 [(0, .ref (ad 0)), (1, .int xq1)] := hl
  unfold f_X12_farOf at hf
  refine lv_aload_n hx hb dX12_farOf_0 rfl (lv_at hl 0 rfl) ?_
  refine lv_iload_n hx hb dX12_farOf_1 rfl (lv_at hl 1 rfl) ?_
  refine lv_iconst (v := 1) hx hb dX12_farOf_2 (by decide) ?_
  obtain ⟨vq1, hc, hf⟩ := bd_e hf
  refine zcali hw (va_runV (As := [.int xq1, .int 1]) (rest := []) E.fix (c_X12_its (l := l) hA xq1 1 σ hc) (zcV E k6_145 k1_14 k6_142 k6_144 kp3_9 mf_X12_its rfl rfl ⟨Nat.le_of_ble_eq_true rfl, Nat.le_of_ble_eq_true rfl⟩) (zPreV E hw (Nat.le_of_ble_eq_true rfl) (ceM_0 ad cy _) rfl _) rfl rfl hl.1 rfl (lv_room (Nat.le_of_ble_eq_true rfl)) dX12_farOf_3 ⟨Nat.zero_le _, Nat.zero_le _⟩) (fun H locs hw => ?_)
  refine lv_aload_n hx hb dX12_farOf_6 rfl (lv_at hl 0 rfl) ?_
  refine zget E hw (Nat.le_of_ble_eq_true rfl) (ceM_0 ad cy _) rfl inX12 0 (by decide) k5_223 (fun _ h => h) rfl dX12_farOf_7 ?_
  refine lv_bipush (v := 23) hx hb dX12_farOf_10 (by decide) ?_
  refine lv_iconst (v := 2) hx hb dX12_farOf_12 (by decide) ?_
  refine lv_aload_n hx hb dX12_farOf_13 rfl (lv_at hl 0 rfl) ?_
  refine lv_iload_n hx hb dX12_farOf_14 rfl (lv_at hl 1 rfl) ?_
  refine lv_iconst (v := 3) hx hb dX12_farOf_15 (by decide) ?_
  obtain ⟨vq2, hc, hf⟩ := bd_e hf
  refine zcali hw (va_runV (As := [.int xq1, .int 3]) (rest := [.int 2, .int 23, .ref (ad 1), .int vq1]) E.fix (c_X12_its (l := l) hA xq1 3 σ hc) (zcV E k6_145 k1_14 k6_142 k6_144 kp3_9 mf_X12_its rfl rfl ⟨Nat.le_of_ble_eq_true rfl, Nat.le_of_ble_eq_true rfl⟩) (zPreV E hw (Nat.le_of_ble_eq_true rfl) (ceM_0 ad cy _) rfl _) rfl rfl hl.1 rfl (lv_room (Nat.le_of_ble_eq_true rfl)) dX12_farOf_16 ⟨Nat.zero_le _, Nat.zero_le _⟩) (fun H locs hw => ?_)
  refine lv_imul hx hb dX12_farOf_19 ?_
  refine lv_iadd hx hb dX12_farOf_20 ?_
  obtain ⟨vq3, hvq3, hf⟩ := bd_e hf
  refine zaldr E hw (Nat.le_of_ble_eq_true rfl) (ceM_1 ad cy) hvq3 dX12_farOf_21 ?_
  refine zcali hw (va_runS (As := [.int vq1, .int vq3]) (rest := []) E.fix (c_X12_far (l := l) hA vq1 vq3 σ rfl) (zcS E k6_178 k1_14 k6_176 k6_177 mf_X12_far rfl rfl ⟨Nat.le_of_ble_eq_true rfl, Nat.le_of_ble_eq_true rfl⟩) (zPre E hw _) rfl rfl hl.1 rfl (lv_room (Nat.le_of_ble_eq_true rfl)) dX12_farOf_22 ⟨Nat.zero_le _, Nat.zero_le _⟩) (fun H locs hw => ?_)
  exact zreti E hw hr hlk (rt_1 hf) rfl dX12_farOf_25
set_option maxRecDepth 100000 in
set_option maxHeartbeats 4000000 in
theorem c_X12_fact {l : Launch} {D : va_G} {cy : Cy} {ad : Nat → Nat} {A : Nat → Prop} (hA : okAd 17 ad A) (xq1 : Int32) (xq2 : Int32) (σ : Sg) {r : Int32} (hf : f_X12_fact xq1 xq2 σ = some r) : Met l yX12_fact (.code yX12_fact cX12_fact 3 (some .int) :: TT) ({ frames := 3, cells := 0, slots := 0, locals := 64 } : Room) (zPc D cy 17 (celM ad cy) ad A [.ref (ad 0), .int xq1, .int xq2] σ) (zQi D 17 (celM ad cy) ad A r σ) 0 0 A := by
  refine zofW (by decide) hA (Nat.le_of_ble_eq_true rfl) ?_
  intro p e s m args below meth c ls E hw hr hlk hl
  have E : ZE p s m args c cX12_fact 3 "KiteSummonsModel" D cy 17 ad A := E
  have hx := E.hx
  have hb := E.hb
  have hl : lv_has ls 3 [(0, .ref (ad 0)), (1, .int xq1), (2, .int xq2)] := hl
  unfold f_X12_fact at hf
  refine lv_iload_n hx hb dX12_fact_0 rfl (lv_at hl 1 rfl) ?_
  by_cases hc1_0 : xq1 = (-5)
  · replace hf := it_t hc1_0 hf
    refine lv_tableIn (tgt := 63) (off := 62) hx hb dX12_fact_1 (by rw [hc1_0]; decide) (by rw [hc1_0]; decide) (by rw [hc1_0]; rfl) (by decide) ?_
    refine lv_iload_n hx hb dX12_fact_63 rfl (lv_at hl 2 rfl) ?_
    exact zreti E hw hr hlk (rt_1 hf) rfl dX12_fact_64
  · replace hf := it_f hc1_0 hf
    by_cases hc1_1 : xq1 = (-4)
    · replace hf := it_t hc1_1 hf
      refine lv_tableIn (tgt := 56) (off := 55) hx hb dX12_fact_1 (by rw [hc1_1]; decide) (by rw [hc1_1]; decide) (by rw [hc1_1]; rfl) (by decide) ?_
      refine lv_aload_n hx hb dX12_fact_56 rfl (lv_at hl 0 rfl) ?_
      refine lv_iload_n hx hb dX12_fact_57 rfl (lv_at hl 2 rfl) ?_
      refine lv_iconst (v := 3) hx hb dX12_fact_58 (by decide) ?_
      obtain ⟨vq1, hc, hf⟩ := bd_e hf
      refine zcali hw (va_runV (As := [.int xq2, .int 3]) (rest := []) E.fix (c_X12_its (l := l) hA xq2 3 σ hc) (zcV E k6_145 k1_14 k6_142 k6_144 kp3_9 mf_X12_its rfl rfl ⟨Nat.le_of_ble_eq_true rfl, Nat.le_of_ble_eq_true rfl⟩) (zPreV E hw (Nat.le_of_ble_eq_true rfl) (ceM_0 ad cy _) rfl _) rfl rfl hl.1 rfl (lv_room (Nat.le_of_ble_eq_true rfl)) dX12_fact_59 ⟨Nat.zero_le _, Nat.zero_le _⟩) (fun H locs hw => ?_)
      exact zreti E hw hr hlk (rt_1 hf) rfl dX12_fact_62
    · replace hf := it_f hc1_1 hf
      by_cases hc1_2 : xq1 = (-3)
      · replace hf := it_t hc1_2 hf
        refine lv_tableIn (tgt := 50) (off := 49) hx hb dX12_fact_1 (by rw [hc1_2]; decide) (by rw [hc1_2]; decide) (by rw [hc1_2]; rfl) (by decide) ?_
        refine lv_aload_n hx hb dX12_fact_50 rfl (lv_at hl 0 rfl) ?_
        refine lv_iload_n hx hb dX12_fact_51 rfl (lv_at hl 2 rfl) ?_
        obtain ⟨vq2, hc, hf⟩ := bd_e hf
        refine zcali hw (va_runV (As := [.int xq2]) (rest := []) E.fix (c_X12_farOf (l := l) hA xq2 σ hc) (zcV E k6_175 k1_14 k6_172 k6_174 kp3_15 mf_X12_farOf rfl rfl ⟨Nat.le_of_ble_eq_true rfl, Nat.le_of_ble_eq_true rfl⟩) (zPreV E hw (Nat.le_of_ble_eq_true rfl) (ceM_0 ad cy _) rfl _) rfl rfl hl.1 rfl (lv_room (Nat.le_of_ble_eq_true rfl)) dX12_fact_52 ⟨Nat.zero_le _, Nat.zero_le _⟩) (fun H locs hw => ?_)
        exact zreti E hw hr hlk (rt_1 hf) rfl dX12_fact_55
      · replace hf := it_f hc1_2 hf
        by_cases hc1_3 : xq1 = (-2)
        · replace hf := it_t hc1_3 hf
          refine lv_tableIn (tgt := 43) (off := 42) hx hb dX12_fact_1 (by rw [hc1_3]; decide) (by rw [hc1_3]; decide) (by rw [hc1_3]; rfl) (by decide) ?_
          refine lv_aload_n hx hb dX12_fact_43 rfl (lv_at hl 0 rfl) ?_
          refine lv_iload_n hx hb dX12_fact_44 rfl (lv_at hl 2 rfl) ?_
          refine lv_iconst (v := 2) hx hb dX12_fact_45 (by decide) ?_
          obtain ⟨vq3, hc, hf⟩ := bd_e hf
          refine zcali hw (va_runV (As := [.int xq2, .int 2]) (rest := []) E.fix (c_X12_its (l := l) hA xq2 2 σ hc) (zcV E k6_145 k1_14 k6_142 k6_144 kp3_9 mf_X12_its rfl rfl ⟨Nat.le_of_ble_eq_true rfl, Nat.le_of_ble_eq_true rfl⟩) (zPreV E hw (Nat.le_of_ble_eq_true rfl) (ceM_0 ad cy _) rfl _) rfl rfl hl.1 rfl (lv_room (Nat.le_of_ble_eq_true rfl)) dX12_fact_46 ⟨Nat.zero_le _, Nat.zero_le _⟩) (fun H locs hw => ?_)
          exact zreti E hw hr hlk (rt_1 hf) rfl dX12_fact_49
        · replace hf := it_f hc1_3 hf
          by_cases hc1_4 : xq1 = (-1)
          · replace hf := it_t hc1_4 hf
            refine lv_tableIn (tgt := 36) (off := 35) hx hb dX12_fact_1 (by rw [hc1_4]; decide) (by rw [hc1_4]; decide) (by rw [hc1_4]; rfl) (by decide) ?_
            refine lv_aload_n hx hb dX12_fact_36 rfl (lv_at hl 0 rfl) ?_
            refine zget E hw (Nat.le_of_ble_eq_true rfl) (ceM_0 ad cy _) rfl inX12 0 (by decide) k5_223 (fun _ h => h) rfl dX12_fact_37 ?_
            refine lv_iconst (v := 3) hx hb dX12_fact_40 (by decide) ?_
            refine zaldk E hw (Nat.le_of_ble_eq_true rfl) (ceM_1 ad cy) 3 (by rfl) (Nat.le_of_ble_eq_true rfl) (by decide) dX12_fact_41 ?_
            exact zreti E hw hr hlk (rt_1 hf) rfl dX12_fact_42
          · replace hf := it_f hc1_4 hf
            refine lv_tableOut (tgt := 65) hx hb dX12_fact_1 (by have := lv_neT hc1_0 (a := -5) rfl; have := lv_neT hc1_1 (a := -4) rfl; have := lv_neT hc1_2 (a := -3) rfl; have := lv_neT hc1_3 (a := -2) rfl; have := lv_neT hc1_4 (a := -1) rfl; omega) (by decide) ?_
            refine lv_iload_n hx hb dX12_fact_65 rfl (lv_at hl 1 rfl) ?_
            exact zreti E hw hr hlk (rt_1 hf) rfl dX12_fact_66
set_option maxRecDepth 100000 in
set_option maxHeartbeats 4000000 in
theorem c_X12_isSo {l : Launch} {D : va_G} {cy : Cy} {ad : Nat → Nat} {A : Nat → Prop} (hA : okAd 17 ad A) (xq1 : Int32) (xq2 : Int32) (xq3 : Int32) (σ : Sg) {r : Bool} {σ9 : Sg} (hf : f_X12_isSo xq1 xq2 xq3 σ = some (r, σ9)) : Met l yX12_isSo (.code yX12_isSo cX12_isSo 7 (some .boolean) :: TT) ({ frames := 4, cells := 0, slots := 0, locals := 86 } : Room) (zPc D cy 17 (celM ad cy) ad A [.ref (ad 0), .int xq1, .int xq2, .int xq3] σ) (zQi D 17 (celM ad cy) ad A (b2i r) σ9) 0 0 A := by
  refine zofW (by decide) hA (Nat.le_of_ble_eq_true rfl) ?_
  intro p e s m args below meth c ls E hw hr hlk hl
  have E : ZE p s m args c cX12_isSo 7 "KiteSummonsModel" D cy 17 ad A := E
  have hx := E.hx
  have hb := E.hb
  have hl : lv_has ls 7 [(0, .ref (ad 0)), (1, .int xq1), (2, .int xq2), (3, .int xq3)] := hl
  have hB6 : ∀ (xq2 : Int32) (xq3 : Int32) (kq6 : Int32 → Int32 → Sg → Option (Bool × Sg)) (hkq6 : ∀ (xq4 : Int32) (xq5 : Int32) (σ : Sg) (H : Heap) (locs : List Loc) (ls : Array Slot), ZS D 17 (celM ad cy) ad A s σ H locs → lv_has ls 7 [(0, .ref (ad 0)), (2, .int xq2), (3, .int xq3), (4, .int xq4), (5, .int xq5)] → kq6 xq4 xq5 σ = some (r, σ9) → W p l e ({ frames := 4, cells := 0, slots := 0, locals := 86 } : Room) s m args below meth c H locs 0 0 (MQ below (zQi D 17 (celM ad cy) ad A (b2i r) σ9) args s 0 0 A) (F0 m 6 ls [])) (xq4 : Int32) (xq5 : Int32) (σ : Sg) (H : Heap) (locs : List Loc) (ls : Array Slot), ZS D 17 (celM ad cy) ad A s σ H locs → lv_has ls 7 [(0, .ref (ad 0)), (2, .int xq2), (3, .int xq3), (4, .int xq4), (5, .int xq5)] → f_X12_isSo_b6 kq6 xq2 xq3 xq4 xq5 σ = some (r, σ9) → W p l e ({ frames := 4, cells := 0, slots := 0, locals := 86 } : Room) s m args below meth c H locs 0 0 (MQ below (zQi D 17 (celM ad cy) ad A (b2i r) σ9) args s 0 0 A) (F0 m 6 ls []) := by
    intro xq2 xq3 kq6 hkq6 xq4 xq5 σ H locs ls hw hl hf
    unfold f_X12_isSo_b6 at hf
    refine lv_iload hx hb dX12_isSo_6 (lv_at hl 4 rfl) ?_
    refine lv_iload_n hx hb dX12_isSo_8 rfl (lv_at hl 1 rfl) ?_
    refine lv_icmp_ge (tgt := 128) hx hb dX12_isSo_9 (by decide) (fun h => ?_) (fun h => ?_)
    · replace hf := it_t h hf
      refine lv_iload hx hb dX12_isSo_128 (lv_at hl 3 rfl) ?_
      refine lv_if_eq (tgt := 143) hx hb dX12_isSo_130 (by decide) (fun h => ?_) (fun h => ?_)
      · replace hf := it_t h hf
        refine lv_iconst (v := 1) hx hb dX12_isSo_143 (by decide) ?_
        refine lv_goto (tgt := 148) hx hb dX12_isSo_144 (by decide) ?_
        exact zretz E hw hr hlk (b_e (rt_a hf) (by rfl)) (rt_b hf) dX12_isSo_148
      · replace hf := it_f h hf
        refine lv_aload_n hx hb dX12_isSo_133 rfl (lv_at hl 0 rfl) ?_
        refine zget E hw (Nat.le_of_ble_eq_true rfl) (ceM_0 ad cy _) rfl inX12 4 (by decide) k5_227 (fun _ h => h) rfl dX12_isSo_134 ?_
        refine lv_iconst (v := 0) hx hb dX12_isSo_137 (by decide) ?_
        refine zaldk E hw (Nat.le_of_ble_eq_true rfl) (ceM_4 ad cy) 0 (by rfl) (Nat.le_of_ble_eq_true rfl) (by decide) dX12_isSo_138 ?_
        refine lv_iconst (v := 1) hx hb dX12_isSo_139 (by decide) ?_
        refine lv_icmp_ne (tgt := 147) hx hb dX12_isSo_140 (by decide) (fun h => ?_) (fun h => ?_)
        · replace hf := it_t h hf
          refine lv_iconst (v := 0) hx hb dX12_isSo_147 (by decide) ?_
          exact zretz E hw hr hlk (b_e (rt_a hf) (by rfl)) (rt_b hf) dX12_isSo_148
        · replace hf := it_n h hf
          refine lv_iconst (v := 1) hx hb dX12_isSo_143 (by decide) ?_
          refine lv_goto (tgt := 148) hx hb dX12_isSo_144 (by decide) ?_
          exact zretz E hw hr hlk (b_e (rt_a hf) (by rfl)) (rt_b hf) dX12_isSo_148
    · replace hf := it_f h hf
      refine lv_aload_n hx hb dX12_isSo_12 rfl (lv_at hl 0 rfl) ?_
      refine zget E hw (Nat.le_of_ble_eq_true rfl) (ceM_0 ad cy _) rfl inX12 0 (by decide) k5_223 (fun _ h => h) rfl dX12_isSo_13 ?_
      refine lv_bipush (v := 119) hx hb dX12_isSo_16 (by decide) ?_
      refine lv_iload hx hb dX12_isSo_18 (lv_at hl 4 rfl) ?_
      refine lv_iadd hx hb dX12_isSo_20 ?_
      obtain ⟨vq1, hvq1, hf⟩ := bd_e hf
      refine zaldr E hw (Nat.le_of_ble_eq_true rfl) (ceM_1 ad cy) hvq1 dX12_isSo_21 ?_
      refine lv_istore (lv' := [(6, .int vq1), (0, .ref (ad 0)), (2, .int xq2), (3, .int xq3), (4, .int xq4), (5, .int xq5)]) hx hb dX12_isSo_22 hl (by decide) rfl (fun ls hl => ?_)
      refine lv_iload hx hb dX12_isSo_24 (lv_at hl 0 rfl) ?_
      refine lv_bipush (v := (-10)) hx hb dX12_isSo_26 (by decide) ?_
      refine lv_icmp_le (tgt := 51) hx hb dX12_isSo_28 (by decide) (fun h => ?_) (fun h => ?_)
      · replace hf := it_t h hf
        refine lv_iload hx hb dX12_isSo_51 (lv_at hl 0 rfl) ?_
        refine lv_bipush (v := (-20)) hx hb dX12_isSo_53 (by decide) ?_
        refine lv_icmp_ne (tgt := 81) hx hb dX12_isSo_55 (by decide) (fun h => ?_) (fun h => ?_)
        · replace hf := it_t h hf
          refine lv_iinc (v := (xq4 + (-1))) (lv' := [(4, .int (xq4 + (-1))), (6, .int vq1), (0, .ref (ad 0)), (2, .int xq2), (3, .int xq3), (5, .int xq5)]) hx hb dX12_isSo_81 hl (k := 4) rfl (by rfl) (by decide) rfl (fun ls hl => ?_)
          refine lv_aload_n hx hb dX12_isSo_84 rfl (lv_at hl 2 rfl) ?_
          refine zget E hw (Nat.le_of_ble_eq_true rfl) (ceM_0 ad cy _) rfl inX12 4 (by decide) k5_227 (fun _ h => h) rfl dX12_isSo_85 ?_
          refine lv_iload hx hb dX12_isSo_88 (lv_at hl 0 rfl) ?_
          refine lv_iconst (v := 1) hx hb dX12_isSo_90 (by decide) ?_
          refine lv_isub hx hb dX12_isSo_91 ?_
          refine lv_iload hx hb dX12_isSo_92 (lv_at hl 1 rfl) ?_
          refine lv_aload_n hx hb dX12_isSo_94 rfl (lv_at hl 2 rfl) ?_
          refine zget E hw (Nat.le_of_ble_eq_true rfl) (ceM_0 ad cy _) rfl inX12 4 (by decide) k5_227 (fun _ h => h) rfl dX12_isSo_95 ?_
          refine lv_iload hx hb dX12_isSo_98 (lv_at hl 0 rfl) ?_
          refine lv_iconst (v := 1) hx hb dX12_isSo_100 (by decide) ?_
          refine lv_isub hx hb dX12_isSo_101 ?_
          obtain ⟨vq2, hvq2, hf⟩ := bd_e hf
          refine zaldr E hw (Nat.le_of_ble_eq_true rfl) (ceM_4 ad cy) hvq2 dX12_isSo_102 ?_
          refine lv_aload_n hx hb dX12_isSo_103 rfl (lv_at hl 2 rfl) ?_
          refine zget E hw (Nat.le_of_ble_eq_true rfl) (ceM_0 ad cy _) rfl inX12 4 (by decide) k5_227 (fun _ h => h) rfl dX12_isSo_104 ?_
          refine lv_iload hx hb dX12_isSo_107 (lv_at hl 0 rfl) ?_
          obtain ⟨vq3, hvq3, hf⟩ := bd_e hf
          refine zaldr E hw (Nat.le_of_ble_eq_true rfl) (ceM_4 ad cy) hvq3 dX12_isSo_109 ?_
          refine zcali hw (va_runS (As := [.int vq1, .int vq2, .int vq3]) (rest := [.int ((xq4 + (-1)) - 1), .ref (ad 4)]) E.fix (c_X12_isHolding (l := l) hA vq1 vq2 vq3 σ rfl) (zcS E k6_184 k1_14 k6_182 k6_183 mf_X12_isHolding rfl rfl ⟨Nat.le_of_ble_eq_true rfl, Nat.le_of_ble_eq_true rfl⟩) (zPre E hw _) rfl rfl hl.1 rfl (lv_room (Nat.le_of_ble_eq_true rfl)) dX12_isSo_110 ⟨Nat.zero_le _, Nat.zero_le _⟩) (fun H locs hw => ?_)
          refine lv_if_eq (tgt := 120) hx hb dX12_isSo_113 (by decide) (fun h => ?_) (fun h => ?_)
          · replace hf := it_f (b2i_0 h) hf
            refine lv_iconst (v := 0) hx hb dX12_isSo_120 (by decide) ?_
            obtain ⟨σ4, hσ4, hf⟩ := bd_e hf
            refine zastr E hw (Nat.le_of_ble_eq_true rfl) (ceM_4 ad cy) hσ4 dX12_isSo_121 (fun H locs hw => ?_)
            refine lv_iinc (v := (xq5 + 1)) (lv' := [(5, .int (xq5 + 1)), (4, .int (xq4 + (-1))), (6, .int vq1), (0, .ref (ad 0)), (2, .int xq2), (3, .int xq3)]) hx hb dX12_isSo_122 hl (k := 5) rfl (by rfl) (by decide) rfl (fun ls hl => ?_)
            refine lv_goto (tgt := 6) hx hb dX12_isSo_125 (by decide) ?_
            exact hkq6 (xq4 + (-1)) (xq5 + 1) σ4 _ _ _ hw (lv_sub hl [3, 4, 5, 1, 0] rfl) hf
          · replace hf := it_t (b2i_n h) hf
            refine lv_iconst (v := 1) hx hb dX12_isSo_116 (by decide) ?_
            refine lv_goto (tgt := 121) hx hb dX12_isSo_117 (by decide) ?_
            obtain ⟨σ5, hσ5, hf⟩ := bd_e hf
            refine zastr E hw (Nat.le_of_ble_eq_true rfl) (ceM_4 ad cy) hσ5 dX12_isSo_121 (fun H locs hw => ?_)
            refine lv_iinc (v := (xq5 + 1)) (lv' := [(5, .int (xq5 + 1)), (4, .int (xq4 + (-1))), (6, .int vq1), (0, .ref (ad 0)), (2, .int xq2), (3, .int xq3)]) hx hb dX12_isSo_122 hl (k := 5) rfl (by rfl) (by decide) rfl (fun ls hl => ?_)
            refine lv_goto (tgt := 6) hx hb dX12_isSo_125 (by decide) ?_
            exact hkq6 (xq4 + (-1)) (xq5 + 1) σ5 _ _ _ hw (lv_sub hl [3, 4, 5, 1, 0] rfl) hf
        · replace hf := it_n h hf
          refine lv_aload_n hx hb dX12_isSo_58 rfl (lv_at hl 1 rfl) ?_
          refine zget E hw (Nat.le_of_ble_eq_true rfl) (ceM_0 ad cy _) rfl inX12 4 (by decide) k5_227 (fun _ h => h) rfl dX12_isSo_59 ?_
          refine lv_iload hx hb dX12_isSo_62 (lv_at hl 4 rfl) ?_
          refine lv_iconst (v := 1) hx hb dX12_isSo_64 (by decide) ?_
          refine lv_isub hx hb dX12_isSo_65 ?_
          refine lv_iconst (v := 1) hx hb dX12_isSo_66 (by decide) ?_
          refine lv_aload_n hx hb dX12_isSo_67 rfl (lv_at hl 1 rfl) ?_
          refine zget E hw (Nat.le_of_ble_eq_true rfl) (ceM_0 ad cy _) rfl inX12 4 (by decide) k5_227 (fun _ h => h) rfl dX12_isSo_68 ?_
          refine lv_iload hx hb dX12_isSo_71 (lv_at hl 4 rfl) ?_
          refine lv_iconst (v := 1) hx hb dX12_isSo_73 (by decide) ?_
          refine lv_isub hx hb dX12_isSo_74 ?_
          obtain ⟨vq6, hvq6, hf⟩ := bd_e hf
          refine zaldr E hw (Nat.le_of_ble_eq_true rfl) (ceM_4 ad cy) hvq6 dX12_isSo_75 ?_
          refine lv_isub hx hb dX12_isSo_76 ?_
          obtain ⟨σ7, hσ7, hf⟩ := bd_e hf
          refine zastr E hw (Nat.le_of_ble_eq_true rfl) (ceM_4 ad cy) hσ7 dX12_isSo_77 (fun H locs hw => ?_)
          refine lv_goto (tgt := 122) hx hb dX12_isSo_78 (by decide) ?_
          refine lv_iinc (v := (xq5 + 1)) (lv' := [(5, .int (xq5 + 1)), (6, .int vq1), (0, .ref (ad 0)), (2, .int xq2), (3, .int xq3), (4, .int xq4)]) hx hb dX12_isSo_122 hl (k := 5) rfl (by rfl) (by decide) rfl (fun ls hl => ?_)
          refine lv_goto (tgt := 6) hx hb dX12_isSo_125 (by decide) ?_
          exact hkq6 xq4 (xq5 + 1) σ7 _ _ _ hw (lv_sub hl [2, 3, 4, 5, 0] rfl) hf
      · replace hf := it_f h hf
        refine lv_aload_n hx hb dX12_isSo_31 rfl (lv_at hl 1 rfl) ?_
        refine zget E hw (Nat.le_of_ble_eq_true rfl) (ceM_0 ad cy _) rfl inX12 4 (by decide) k5_227 (fun _ h => h) rfl dX12_isSo_32 ?_
        refine lv_iload hx hb dX12_isSo_35 (lv_at hl 4 rfl) ?_
        refine lv_aload_n hx hb dX12_isSo_37 rfl (lv_at hl 1 rfl) ?_
        refine lv_iload hx hb dX12_isSo_38 (lv_at hl 0 rfl) ?_
        refine lv_iload_n hx hb dX12_isSo_40 rfl (lv_at hl 3 rfl) ?_
        obtain ⟨vq8, hc, hf⟩ := bd_e hf
        refine zcali hw (va_runV (As := [.int vq1, .int xq3]) (rest := [.int xq4, .ref (ad 4)]) E.fix (c_X12_fact (l := l) hA vq1 xq3 σ hc) (zcV E k6_171 k1_14 k6_168 k6_170 kp3_14 mf_X12_fact rfl rfl ⟨Nat.le_of_ble_eq_true rfl, Nat.le_of_ble_eq_true rfl⟩) (zPreV E hw (Nat.le_of_ble_eq_true rfl) (ceM_0 ad cy _) rfl _) rfl rfl hl.1 rfl (lv_room (Nat.le_of_ble_eq_true rfl)) dX12_isSo_41 ⟨Nat.zero_le _, Nat.zero_le _⟩) (fun H locs hw => ?_)
        obtain ⟨σ9, hσ9, hf⟩ := bd_e hf
        refine zastr E hw (Nat.le_of_ble_eq_true rfl) (ceM_4 ad cy) hσ9 dX12_isSo_44 (fun H locs hw => ?_)
        refine lv_iinc (v := (xq4 + 1)) (lv' := [(4, .int (xq4 + 1)), (6, .int vq1), (0, .ref (ad 0)), (2, .int xq2), (3, .int xq3), (5, .int xq5)]) hx hb dX12_isSo_45 hl (k := 4) rfl (by rfl) (by decide) rfl (fun ls hl => ?_)
        refine lv_goto (tgt := 122) hx hb dX12_isSo_48 (by decide) ?_
        refine lv_iinc (v := (xq5 + 1)) (lv' := [(5, .int (xq5 + 1)), (4, .int (xq4 + 1)), (6, .int vq1), (0, .ref (ad 0)), (2, .int xq2), (3, .int xq3)]) hx hb dX12_isSo_122 hl (k := 5) rfl (by rfl) (by decide) rfl (fun ls hl => ?_)
        refine lv_goto (tgt := 6) hx hb dX12_isSo_125 (by decide) ?_
        exact hkq6 (xq4 + 1) (xq5 + 1) σ9 _ _ _ hw (lv_sub hl [3, 4, 5, 1, 0] rfl) hf
  have hL6 : ∀ (xq2 : Int32) (xq3 : Int32) (n : Nat) (xq4 : Int32) (xq5 : Int32) (σ : Sg) (H : Heap) (locs : List Loc) (ls : Array Slot), ZS D 17 (celM ad cy) ad A s σ H locs → lv_has ls 7 [(0, .ref (ad 0)), (2, .int xq2), (3, .int xq3), (4, .int xq4), (5, .int xq5)] → f_X12_isSo_l6 xq2 xq3 n xq4 xq5 σ = some (r, σ9) → W p l e ({ frames := 4, cells := 0, slots := 0, locals := 86 } : Room) s m args below meth c H locs 0 0 (MQ below (zQi D 17 (celM ad cy) ad A (b2i r) σ9) args s 0 0 A) (F0 m 6 ls []) := by
    intro xq2 xq3 n
    induction n with
    | zero =>
      intro xq4 xq5 σ H locs ls hw hl hf
      exact nn_e hf
    | succ n ih =>
      intro xq4 xq5 σ H locs ls hw hl hf
      exact hB6 xq2 xq3 (f_X12_isSo_l6 xq2 xq3 n) ih xq4 xq5 σ H locs ls hw hl hf
  unfold f_X12_isSo at hf
  refine lv_iconst (v := 0) hx hb dX12_isSo_0 (by decide) ?_
  refine lv_istore (lv' := [(4, .int 0), (0, .ref (ad 0)), (1, .int xq1), (2, .int xq2), (3, .int xq3)]) hx hb dX12_isSo_1 hl (by decide) rfl (fun ls hl => ?_)
  refine lv_iload_n hx hb dX12_isSo_3 rfl (lv_at hl 2 rfl) ?_
  refine lv_istore (lv' := [(5, .int xq1), (4, .int 0), (0, .ref (ad 0)), (1, .int xq1), (2, .int xq2), (3, .int xq3)]) hx hb dX12_isSo_4 hl (by decide) rfl (fun ls hl => ?_)
  exact hL6 xq2 xq3 400 0 xq1 σ _ _ _ hw (lv_sub hl [2, 4, 5, 1, 0] rfl) hf
set_option maxRecDepth 100000 in
set_option maxHeartbeats 4000000 in
theorem c_X12_will {l : Launch} {D : va_G} {cy : Cy} {ad : Nat → Nat} {A : Nat → Prop} (hA : okAd 17 ad A) (xq1 : Int32) (σ : Sg) {r : Int32} {σ9 : Sg} (hf : f_X12_will xq1 σ = some (r, σ9)) : Met l yX12_will (.code yX12_will cX12_will 7 (some .int) :: TT) ({ frames := 5, cells := 0, slots := 0, locals := 112 } : Room) (zPc D cy 17 (celM ad cy) ad A [.ref (ad 0), .int xq1] σ) (zQi D 17 (celM ad cy) ad A r σ9) 0 0 A := by
  refine zofW (by decide) hA (Nat.le_of_ble_eq_true rfl) ?_
  intro p e s m args below meth c ls E hw hr hlk hl
  have E : ZE p s m args c cX12_will 7 "KiteSummonsModel" D cy 17 ad A := E
  have hx := E.hx
  have hb := E.hb
  have hl : lv_has ls 7 [(0, .ref (ad 0)), (1, .int xq1)] := hl
  have hB87 : ∀ (xq1 : Int32) (xq2 : Int32) (xq5 : Int32) (xq6 : Int32) (tq0 : Int32) (kq15 : Int32 → Int32 → Int32 → Sg → Option (Int32 × Sg)) (hkq15 : ∀ (xq3 : Int32) (xq4 : Int32) (xq5 : Int32) (σ : Sg) (H : Heap) (locs : List Loc) (ls : Array Slot), ZS D 17 (celM ad cy) ad A s σ H locs → lv_has ls 7 [(0, .ref (ad 0)), (1, .int xq1), (2, .int xq2), (3, .int xq3), (4, .int xq4), (5, .int xq5)] → kq15 xq3 xq4 xq5 σ = some (r, σ9) → W p l e ({ frames := 5, cells := 0, slots := 0, locals := 112 } : Room) s m args below meth c H locs 0 0 (MQ below (zQi D 17 (celM ad cy) ad A r σ9) args s 0 0 A) (F0 m 15 ls [])) (σ : Sg) (H : Heap) (locs : List Loc) (ls : Array Slot), ZS D 17 (celM ad cy) ad A s σ H locs → lv_has ls 7 [(0, .ref (ad 0)), (1, .int xq1), (2, .int xq2), (5, .int xq5), (6, .int xq6)] → f_X12_will_b87 kq15 xq1 xq2 xq5 xq6 tq0 σ = some (r, σ9) → W p l e ({ frames := 5, cells := 0, slots := 0, locals := 112 } : Room) s m args below meth c H locs 0 0 (MQ below (zQi D 17 (celM ad cy) ad A r σ9) args s 0 0 A) (F0 m 87 ls [.int tq0]) := by
    intro xq1 xq2 xq5 xq6 tq0 kq15 hkq15 σ H locs ls hw hl hf
    unfold f_X12_will_b87 at hf
    refine lv_istore_n (lv' := [(3, .int tq0), (0, .ref (ad 0)), (1, .int xq1), (2, .int xq2), (5, .int xq5), (6, .int xq6)]) hx hb dX12_will_87 rfl hl (by decide) rfl (fun ls hl => ?_)
    refine lv_aload_n hx hb dX12_will_88 rfl (lv_at hl 1 rfl) ?_
    refine zget E hw (Nat.le_of_ble_eq_true rfl) (ceM_0 ad cy _) rfl inX12 0 (by decide) k5_223 (fun _ h => h) rfl dX12_will_89 ?_
    refine lv_iload hx hb dX12_will_92 (lv_at hl 5 rfl) ?_
    refine lv_iconst (v := 2) hx hb dX12_will_94 (by decide) ?_
    refine lv_iadd hx hb dX12_will_95 ?_
    obtain ⟨vq8, hvq8, hf⟩ := bd_e hf
    refine zaldr E hw (Nat.le_of_ble_eq_true rfl) (ceM_1 ad cy) hvq8 dX12_will_96 ?_
    refine lv_istore (lv' := [(4, .int vq8), (3, .int tq0), (0, .ref (ad 0)), (1, .int xq1), (2, .int xq2), (5, .int xq5), (6, .int xq6)]) hx hb dX12_will_97 hl (by decide) rfl (fun ls hl => ?_)
    refine lv_iinc (v := (xq5 + 1)) (lv' := [(5, .int (xq5 + 1)), (4, .int vq8), (3, .int tq0), (0, .ref (ad 0)), (1, .int xq1), (2, .int xq2), (6, .int xq6)]) hx hb dX12_will_99 hl (k := 5) rfl (by rfl) (by decide) rfl (fun ls hl => ?_)
    refine lv_goto (tgt := 15) hx hb dX12_will_102 (by decide) ?_
    exact hkq15 tq0 vq8 (xq5 + 1) σ _ _ _ hw (lv_sub hl [3, 4, 5, 2, 1, 0] rfl) hf
  have hB105 : ∀ (xq3 : Int32) (σ : Sg) (H : Heap) (locs : List Loc) (ls : Array Slot), ZS D 17 (celM ad cy) ad A s σ H locs → lv_has ls 7 [(3, .int xq3)] → f_X12_will_b105 xq3 σ = some (r, σ9) → W p l e ({ frames := 5, cells := 0, slots := 0, locals := 112 } : Room) s m args below meth c H locs 0 0 (MQ below (zQi D 17 (celM ad cy) ad A r σ9) args s 0 0 A) (F0 m 105 ls []) := by
    intro xq3 σ H locs ls hw hl hf
    unfold f_X12_will_b105 at hf
    refine lv_iload_n hx hb dX12_will_105 rfl (lv_at hl 0 rfl) ?_
    refine lv_if_ge (tgt := 113) hx hb dX12_will_106 (by decide) (fun h => ?_) (fun h => ?_)
    · replace hf := it_t h hf
      refine lv_iload_n hx hb dX12_will_113 rfl (lv_at hl 0 rfl) ?_
      exact zreti E hw hr hlk (rt_a hf) (rt_b hf) dX12_will_114
    · replace hf := it_f h hf
      refine lv_iconst (v := 0) hx hb dX12_will_109 (by decide) ?_
      refine lv_goto (tgt := 114) hx hb dX12_will_110 (by decide) ?_
      exact zreti E hw hr hlk (rt_a hf) (rt_b hf) dX12_will_114
  have hB15 : ∀ (xq1 : Int32) (xq2 : Int32) (kq15 : Int32 → Int32 → Int32 → Sg → Option (Int32 × Sg)) (hkq15 : ∀ (xq3 : Int32) (xq4 : Int32) (xq5 : Int32) (σ : Sg) (H : Heap) (locs : List Loc) (ls : Array Slot), ZS D 17 (celM ad cy) ad A s σ H locs → lv_has ls 7 [(0, .ref (ad 0)), (1, .int xq1), (2, .int xq2), (3, .int xq3), (4, .int xq4), (5, .int xq5)] → kq15 xq3 xq4 xq5 σ = some (r, σ9) → W p l e ({ frames := 5, cells := 0, slots := 0, locals := 112 } : Room) s m args below meth c H locs 0 0 (MQ below (zQi D 17 (celM ad cy) ad A r σ9) args s 0 0 A) (F0 m 15 ls [])) (xq3 : Int32) (xq4 : Int32) (xq5 : Int32) (σ : Sg) (H : Heap) (locs : List Loc) (ls : Array Slot), ZS D 17 (celM ad cy) ad A s σ H locs → lv_has ls 7 [(0, .ref (ad 0)), (1, .int xq1), (2, .int xq2), (3, .int xq3), (4, .int xq4), (5, .int xq5)] → f_X12_will_b15 kq15 xq1 xq2 xq3 xq4 xq5 σ = some (r, σ9) → W p l e ({ frames := 5, cells := 0, slots := 0, locals := 112 } : Room) s m args below meth c H locs 0 0 (MQ below (zQi D 17 (celM ad cy) ad A r σ9) args s 0 0 A) (F0 m 15 ls []) := by
    intro xq1 xq2 kq15 hkq15 xq3 xq4 xq5 σ H locs ls hw hl hf
    unfold f_X12_will_b15 at hf
    refine lv_iload hx hb dX12_will_15 (lv_at hl 5 rfl) ?_
    refine lv_aload_n hx hb dX12_will_17 rfl (lv_at hl 0 rfl) ?_
    refine zget E hw (Nat.le_of_ble_eq_true rfl) (ceM_0 ad cy _) rfl inX12 0 (by decide) k5_223 (fun _ h => h) rfl dX12_will_18 ?_
    refine lv_iconst (v := 1) hx hb dX12_will_21 (by decide) ?_
    refine zaldk E hw (Nat.le_of_ble_eq_true rfl) (ceM_1 ad cy) 1 (by rfl) (Nat.le_of_ble_eq_true rfl) (by decide) dX12_will_22 ?_
    refine lv_icmp_ge (tgt := 105) hx hb dX12_will_23 (by decide) (fun h => ?_) (fun h => ?_)
    · replace hf := it_t h hf
      exact hB105 xq3 σ _ _ _ hw (lv_sub hl [3] rfl) hf
    · replace hf := it_f h hf
      refine lv_iload_n hx hb dX12_will_26 rfl (lv_at hl 3 rfl) ?_
      refine lv_if_ge (tgt := 105) hx hb dX12_will_27 (by decide) (fun h => ?_) (fun h => ?_)
      · replace hf := it_t h hf
        exact hB105 xq3 σ _ _ _ hw (lv_sub hl [3] rfl) hf
      · replace hf := it_f h hf
        refine lv_bipush (v := 95) hx hb dX12_will_30 (by decide) ?_
        refine lv_iconst (v := 3) hx hb dX12_will_32 (by decide) ?_
        refine lv_iload hx hb dX12_will_33 (lv_at hl 5 rfl) ?_
        refine lv_imul hx hb dX12_will_35 ?_
        refine lv_iadd hx hb dX12_will_36 ?_
        refine lv_topi (fun vq2 evq2 => ?_)
        replace hf := lt_i evq2 hf
        refine lv_istore (lv' := [(6, .int vq2), (0, .ref (ad 0)), (1, .int xq1), (2, .int xq2), (3, .int xq3), (4, .int xq4), (5, .int xq5)]) hx hb dX12_will_37 hl (by decide) rfl (fun ls hl => ?_)
        refine lv_iload_n hx hb dX12_will_39 rfl (lv_at hl 3 rfl) ?_
        refine lv_aload_n hx hb dX12_will_40 rfl (lv_at hl 1 rfl) ?_
        refine zget E hw (Nat.le_of_ble_eq_true rfl) (ceM_0 ad cy _) rfl inX12 0 (by decide) k5_223 (fun _ h => h) rfl dX12_will_41 ?_
        refine lv_iload hx hb dX12_will_44 (lv_at hl 0 rfl) ?_
        refine lv_iconst (v := 0) hx hb dX12_will_46 (by decide) ?_
        refine lv_iadd hx hb dX12_will_47 ?_
        obtain ⟨vq3, hvq3, hf⟩ := bd_e hf
        refine zaldr E hw (Nat.le_of_ble_eq_true rfl) (ceM_1 ad cy) hvq3 dX12_will_48 ?_
        refine zcali hw (va_runS (As := [.int xq2, .int vq3]) (rest := []) E.fix (c_X12_isUnder (l := l) hA xq2 vq3 σ rfl) (zcS E k6_163 k1_14 k6_161 k6_162 mf_X12_isUnder rfl rfl ⟨Nat.le_of_ble_eq_true rfl, Nat.le_of_ble_eq_true rfl⟩) (zPre E hw _) rfl rfl hl.1 rfl (lv_room (Nat.le_of_ble_eq_true rfl)) dX12_will_49 ⟨Nat.zero_le _, Nat.zero_le _⟩) (fun H locs hw => ?_)
        refine lv_if_eq (tgt := 86) hx hb dX12_will_52 (by decide) (fun h => ?_) (fun h => ?_)
        · replace hf := it_f (b2i_0 h) hf
          refine lv_iconst (v := (-1)) hx hb dX12_will_86 (by decide) ?_
          exact hB87 xq1 xq2 xq5 vq2 (-1) kq15 hkq15 σ _ _ _ hw (lv_sub hl [1, 2, 3, 6, 0] rfl) hf
        · replace hf := it_t (b2i_n h) hf
          refine lv_aload_n hx hb dX12_will_55 rfl (lv_at hl 1 rfl) ?_
          refine lv_iload hx hb dX12_will_56 (lv_at hl 5 rfl) ?_
          refine lv_aload_n hx hb dX12_will_58 rfl (lv_at hl 1 rfl) ?_
          refine zget E hw (Nat.le_of_ble_eq_true rfl) (ceM_0 ad cy _) rfl inX12 0 (by decide) k5_223 (fun _ h => h) rfl dX12_will_59 ?_
          refine lv_iload hx hb dX12_will_62 (lv_at hl 0 rfl) ?_
          refine lv_iconst (v := 2) hx hb dX12_will_64 (by decide) ?_
          refine lv_iadd hx hb dX12_will_65 ?_
          obtain ⟨vq4, hvq4, hf⟩ := bd_e hf
          refine zaldr E hw (Nat.le_of_ble_eq_true rfl) (ceM_1 ad cy) hvq4 dX12_will_66 ?_
          refine lv_iload_n hx hb dX12_will_67 rfl (lv_at hl 2 rfl) ?_
          obtain ⟨vq5, σ6, hc, hf⟩ := bd2_e hf
          refine zcali hw (va_runV (As := [.int xq4, .int vq4, .int xq1]) (rest := []) E.fix (c_X12_isSo (l := l) hA xq4 vq4 xq1 σ hc) (zcV E k6_167 k1_14 k6_164 k6_166 kp3_13 mf_X12_isSo rfl rfl ⟨Nat.le_of_ble_eq_true rfl, Nat.le_of_ble_eq_true rfl⟩) (zPreV E hw (Nat.le_of_ble_eq_true rfl) (ceM_0 ad cy _) rfl _) rfl rfl hl.1 rfl (lv_room (Nat.le_of_ble_eq_true rfl)) dX12_will_68 ⟨Nat.zero_le _, Nat.zero_le _⟩) (fun H locs hw => ?_)
          refine lv_if_eq (tgt := 86) hx hb dX12_will_71 (by decide) (fun h => ?_) (fun h => ?_)
          · replace hf := it_f (b2i_0 h) hf
            refine lv_iconst (v := (-1)) hx hb dX12_will_86 (by decide) ?_
            exact hB87 xq1 xq2 xq5 vq2 (-1) kq15 hkq15 σ6 _ _ _ hw (lv_sub hl [1, 2, 3, 6, 0] rfl) hf
          · replace hf := it_t (b2i_n h) hf
            refine lv_aload_n hx hb dX12_will_74 rfl (lv_at hl 1 rfl) ?_
            refine zget E hw (Nat.le_of_ble_eq_true rfl) (ceM_0 ad cy _) rfl inX12 0 (by decide) k5_223 (fun _ h => h) rfl dX12_will_75 ?_
            refine lv_iload hx hb dX12_will_78 (lv_at hl 0 rfl) ?_
            refine lv_iconst (v := 1) hx hb dX12_will_80 (by decide) ?_
            refine lv_iadd hx hb dX12_will_81 ?_
            obtain ⟨vq7, hvq7, hf⟩ := bd_e hf
            refine zaldr E hw (Nat.le_of_ble_eq_true rfl) (ceM_1 ad cy) hvq7 dX12_will_82 ?_
            refine lv_goto (tgt := 87) hx hb dX12_will_83 (by decide) ?_
            exact hB87 xq1 xq2 xq5 vq2 vq7 kq15 hkq15 σ6 _ _ _ hw (lv_sub hl [1, 2, 3, 6, 0] rfl) hf
  have hL15 : ∀ (xq1 : Int32) (xq2 : Int32) (n : Nat) (xq3 : Int32) (xq4 : Int32) (xq5 : Int32) (σ : Sg) (H : Heap) (locs : List Loc) (ls : Array Slot), ZS D 17 (celM ad cy) ad A s σ H locs → lv_has ls 7 [(0, .ref (ad 0)), (1, .int xq1), (2, .int xq2), (3, .int xq3), (4, .int xq4), (5, .int xq5)] → f_X12_will_l15 xq1 xq2 n xq3 xq4 xq5 σ = some (r, σ9) → W p l e ({ frames := 5, cells := 0, slots := 0, locals := 112 } : Room) s m args below meth c H locs 0 0 (MQ below (zQi D 17 (celM ad cy) ad A r σ9) args s 0 0 A) (F0 m 15 ls []) := by
    intro xq1 xq2 n
    induction n with
    | zero =>
      intro xq3 xq4 xq5 σ H locs ls hw hl hf
      exact nn_e hf
    | succ n ih =>
      intro xq3 xq4 xq5 σ H locs ls hw hl hf
      exact hB15 xq1 xq2 (f_X12_will_l15 xq1 xq2 n) ih xq3 xq4 xq5 σ H locs ls hw hl hf
  unfold f_X12_will at hf
  refine lv_aload_n hx hb dX12_will_0 rfl (lv_at hl 0 rfl) ?_
  refine lv_iload_n hx hb dX12_will_1 rfl (lv_at hl 1 rfl) ?_
  refine lv_iconst (v := 0) hx hb dX12_will_2 (by decide) ?_
  obtain ⟨vq1, hc, hf⟩ := bd_e hf
  refine zcali hw (va_runV (As := [.int xq1, .int 0]) (rest := []) E.fix (c_X12_its (l := l) hA xq1 0 σ hc) (zcV E k6_145 k1_14 k6_142 k6_144 kp3_9 mf_X12_its rfl rfl ⟨Nat.le_of_ble_eq_true rfl, Nat.le_of_ble_eq_true rfl⟩) (zPreV E hw (Nat.le_of_ble_eq_true rfl) (ceM_0 ad cy _) rfl _) rfl rfl hl.1 rfl (lv_room (Nat.le_of_ble_eq_true rfl)) dX12_will_3 ⟨Nat.zero_le _, Nat.zero_le _⟩) (fun H locs hw => ?_)
  refine lv_istore_n (lv' := [(2, .int vq1), (0, .ref (ad 0)), (1, .int xq1)]) hx hb dX12_will_6 rfl hl (by decide) rfl (fun ls hl => ?_)
  refine lv_iconst (v := (-1)) hx hb dX12_will_7 (by decide) ?_
  refine lv_istore_n (lv' := [(3, .int (-1)), (2, .int vq1), (0, .ref (ad 0)), (1, .int xq1)]) hx hb dX12_will_8 rfl hl (by decide) rfl (fun ls hl => ?_)
  refine lv_iconst (v := 0) hx hb dX12_will_9 (by decide) ?_
  refine lv_istore (lv' := [(4, .int 0), (3, .int (-1)), (2, .int vq1), (0, .ref (ad 0)), (1, .int xq1)]) hx hb dX12_will_10 hl (by decide) rfl (fun ls hl => ?_)
  refine lv_iconst (v := 0) hx hb dX12_will_12 (by decide) ?_
  refine lv_istore (lv' := [(5, .int 0), (4, .int 0), (3, .int (-1)), (2, .int vq1), (0, .ref (ad 0)), (1, .int xq1)]) hx hb dX12_will_13 hl (by decide) rfl (fun ls hl => ?_)
  exact hL15 xq1 vq1 400 (-1) 0 0 σ _ _ _ hw (lv_sub hl [4, 5, 3, 2, 1, 0] rfl) hf
set_option maxRecDepth 100000 in
set_option maxHeartbeats 4000000 in
theorem c_X12_kiteOf {l : Launch} {D : va_G} {cy : Cy} {ad : Nat → Nat} {A : Nat → Prop} (hA : okAd 17 ad A) (xq1 : Int32) (xq2 : Int32) (σ : Sg) {r : Int32} {σ9 : Sg} (hf : f_X12_kiteOf xq1 xq2 σ = some (r, σ9)) : Met l yX12_kiteOf (.code yX12_kiteOf cX12_kiteOf 3 (some .int) :: TT) ({ frames := 6, cells := 0, slots := 0, locals := 138 } : Room) (zPc D cy 17 (celM ad cy) ad A [.ref (ad 0), .int xq1, .int xq2] σ) (zQi D 17 (celM ad cy) ad A r σ9) 0 0 A := by
  refine zofW (by decide) hA (Nat.le_of_ble_eq_true rfl) ?_
  intro p e s m args below meth c ls E hw hr hlk hl
  have E : ZE p s m args c cX12_kiteOf 3 "KiteSummonsModel" D cy 17 ad A := E
  have hx := E.hx
  have hb := E.hb
  have hl : lv_has ls 3 [(0, .ref (ad 0)), (1, .int xq1), (2, .int xq2)] := hl
  unfold f_X12_kiteOf at hf
  refine lv_aload_n hx hb dX12_kiteOf_0 rfl (lv_at hl 0 rfl) ?_
  refine lv_iload_n hx hb dX12_kiteOf_1 rfl (lv_at hl 1 rfl) ?_
  refine zcali hw (va_runV (As := [.int xq1]) (rest := []) E.fix (c_X12_isKite (l := l) hA xq1 σ rfl) (zcV E k6_137 k1_14 k6_134 k6_136 kp3_7 mf_X12_isKite rfl rfl ⟨Nat.le_of_ble_eq_true rfl, Nat.le_of_ble_eq_true rfl⟩) (zPreV E hw (Nat.le_of_ble_eq_true rfl) (ceM_0 ad cy _) rfl _) rfl rfl hl.1 rfl (lv_room (Nat.le_of_ble_eq_true rfl)) dX12_kiteOf_2 ⟨Nat.zero_le _, Nat.zero_le _⟩) (fun H locs hw => ?_)
  refine lv_if_eq (tgt := 20) hx hb dX12_kiteOf_5 (by decide) (fun h => ?_) (fun h => ?_)
  · replace hf := it_f (b2i_0 h) hf
    refine lv_iconst (v := (-1)) hx hb dX12_kiteOf_20 (by decide) ?_
    exact zreti E hw hr hlk (rt_a hf) (rt_b hf) dX12_kiteOf_21
  · replace hf := it_t (b2i_n h) hf
    refine lv_iload_n hx hb dX12_kiteOf_8 rfl (lv_at hl 2 rfl) ?_
    refine lv_i2l hx hb dX12_kiteOf_9 rfl ?_
    refine lv_lconst (v := 0) hx hb dX12_kiteOf_10 (by decide) ?_
    refine lv_ldc2 (v := 9) hx hb E.hown (E.ht _ k6_122) dX12_kiteOf_11 ?_
    refine zcali hw (va_runS (As := [.long xq2.toInt64, .long (0 : Int64), .long (9 : Int64)]) (rest := []) E.fix (c_X12_in (l := l) hA xq2.toInt64 (0 : Int64) (9 : Int64) σ rfl) (zcS E k6_114 k1_14 k6_112 k6_113 mf_X12_in rfl rfl ⟨Nat.le_of_ble_eq_true rfl, Nat.le_of_ble_eq_true rfl⟩) (zPre E hw _) rfl rfl hl.1 rfl (lv_room (Nat.le_of_ble_eq_true rfl)) dX12_kiteOf_14 ⟨Nat.zero_le _, Nat.zero_le _⟩) (fun H locs hw => ?_)
    refine lv_if_ne (tgt := 22) hx hb dX12_kiteOf_17 (by decide) (fun h => ?_) (fun h => ?_)
    · replace hf := it_t (b2i_n h) hf
      refine lv_iload_n hx hb dX12_kiteOf_22 rfl (lv_at hl 2 rfl) ?_
      by_cases hc23_0 : xq2 = 6
      · replace hf := it_t hc23_0 hf
        refine lv_tableIn (tgt := 52) (off := 29) hx hb dX12_kiteOf_23 (by rw [hc23_0]; decide) (by rw [hc23_0]; decide) (by rw [hc23_0]; rfl) (by decide) ?_
        refine lv_aload_n hx hb dX12_kiteOf_52 rfl (lv_at hl 0 rfl) ?_
        refine lv_iload_n hx hb dX12_kiteOf_53 rfl (lv_at hl 1 rfl) ?_
        obtain ⟨vq1, hc, hf⟩ := bd_e hf
        refine zcali hw (va_runV (As := [.int xq1]) (rest := []) E.fix (c_X12_drifts (l := l) hA xq1 σ hc) (zcV E k6_141 k1_14 k6_138 k6_140 kp3_8 mf_X12_drifts rfl rfl ⟨Nat.le_of_ble_eq_true rfl, Nat.le_of_ble_eq_true rfl⟩) (zPreV E hw (Nat.le_of_ble_eq_true rfl) (ceM_0 ad cy _) rfl _) rfl rfl hl.1 rfl (lv_room (Nat.le_of_ble_eq_true rfl)) dX12_kiteOf_54 ⟨Nat.zero_le _, Nat.zero_le _⟩) (fun H locs hw => ?_)
        exact zreti E hw hr hlk (rt_a hf) (rt_b hf) dX12_kiteOf_57
      · replace hf := it_f hc23_0 hf
        by_cases hc23_1 : xq2 = 7
        · replace hf := it_t hc23_1 hf
          refine lv_tableIn (tgt := 58) (off := 35) hx hb dX12_kiteOf_23 (by rw [hc23_1]; decide) (by rw [hc23_1]; decide) (by rw [hc23_1]; rfl) (by decide) ?_
          refine lv_aload_n hx hb dX12_kiteOf_58 rfl (lv_at hl 0 rfl) ?_
          refine lv_iload_n hx hb dX12_kiteOf_59 rfl (lv_at hl 1 rfl) ?_
          obtain ⟨vq2, hc, hf⟩ := bd_e hf
          refine zcali hw (va_runV (As := [.int xq1]) (rest := []) E.fix (c_X12_fee (l := l) hA xq1 σ hc) (zcV E k6_156 k1_14 k6_153 k6_155 kp3_11 mf_X12_fee rfl rfl ⟨Nat.le_of_ble_eq_true rfl, Nat.le_of_ble_eq_true rfl⟩) (zPreV E hw (Nat.le_of_ble_eq_true rfl) (ceM_0 ad cy _) rfl _) rfl rfl hl.1 rfl (lv_room (Nat.le_of_ble_eq_true rfl)) dX12_kiteOf_60 ⟨Nat.zero_le _, Nat.zero_le _⟩) (fun H locs hw => ?_)
          exact zreti E hw hr hlk (rt_a hf) (rt_b hf) dX12_kiteOf_63
        · replace hf := it_f hc23_1 hf
          by_cases hc23_2 : xq2 = 8
          · replace hf := it_t hc23_2 hf
            refine lv_tableIn (tgt := 64) (off := 41) hx hb dX12_kiteOf_23 (by rw [hc23_2]; decide) (by rw [hc23_2]; decide) (by rw [hc23_2]; rfl) (by decide) ?_
            refine lv_aload_n hx hb dX12_kiteOf_64 rfl (lv_at hl 0 rfl) ?_
            refine lv_iload_n hx hb dX12_kiteOf_65 rfl (lv_at hl 1 rfl) ?_
            obtain ⟨vq3, σ4, hc, hf⟩ := bd2_e hf
            refine zcali hw (va_runV (As := [.int xq1]) (rest := []) E.fix (c_X12_will (l := l) hA xq1 σ hc) (zcV E k6_160 k1_14 k6_157 k6_159 kp3_12 mf_X12_will rfl rfl ⟨Nat.le_of_ble_eq_true rfl, Nat.le_of_ble_eq_true rfl⟩) (zPreV E hw (Nat.le_of_ble_eq_true rfl) (ceM_0 ad cy _) rfl _) rfl rfl hl.1 rfl (lv_room (Nat.le_of_ble_eq_true rfl)) dX12_kiteOf_66 ⟨Nat.zero_le _, Nat.zero_le _⟩) (fun H locs hw => ?_)
            exact zreti E hw hr hlk (rt_a hf) (rt_b hf) dX12_kiteOf_69
          · replace hf := it_f hc23_2 hf
            by_cases hc23_3 : xq2 = 9
            · replace hf := it_t hc23_3 hf
              refine lv_tableIn (tgt := 70) (off := 47) hx hb dX12_kiteOf_23 (by rw [hc23_3]; decide) (by rw [hc23_3]; decide) (by rw [hc23_3]; rfl) (by decide) ?_
              refine lv_aload_n hx hb dX12_kiteOf_70 rfl (lv_at hl 0 rfl) ?_
              refine lv_iload_n hx hb dX12_kiteOf_71 rfl (lv_at hl 1 rfl) ?_
              obtain ⟨vq5, hc, hf⟩ := bd_e hf
              refine zcali hw (va_runV (As := [.int xq1]) (rest := []) E.fix (c_X12_farOf (l := l) hA xq1 σ hc) (zcV E k6_175 k1_14 k6_172 k6_174 kp3_15 mf_X12_farOf rfl rfl ⟨Nat.le_of_ble_eq_true rfl, Nat.le_of_ble_eq_true rfl⟩) (zPreV E hw (Nat.le_of_ble_eq_true rfl) (ceM_0 ad cy _) rfl _) rfl rfl hl.1 rfl (lv_room (Nat.le_of_ble_eq_true rfl)) dX12_kiteOf_72 ⟨Nat.zero_le _, Nat.zero_le _⟩) (fun H locs hw => ?_)
              exact zreti E hw hr hlk (rt_a hf) (rt_b hf) dX12_kiteOf_75
            · replace hf := it_f hc23_3 hf
              refine lv_tableOut (tgt := 76) hx hb dX12_kiteOf_23 (by have := lv_neT hc23_0 (a := 6) rfl; have := lv_neT hc23_1 (a := 7) rfl; have := lv_neT hc23_2 (a := 8) rfl; have := lv_neT hc23_3 (a := 9) rfl; omega) (by decide) ?_
              refine lv_aload_n hx hb dX12_kiteOf_76 rfl (lv_at hl 0 rfl) ?_
              refine lv_iload_n hx hb dX12_kiteOf_77 rfl (lv_at hl 1 rfl) ?_
              refine lv_iload_n hx hb dX12_kiteOf_78 rfl (lv_at hl 2 rfl) ?_
              obtain ⟨vq6, hc, hf⟩ := bd_e hf
              refine zcali hw (va_runV (As := [.int xq1, .int xq2]) (rest := []) E.fix (c_X12_its (l := l) hA xq1 xq2 σ hc) (zcV E k6_145 k1_14 k6_142 k6_144 kp3_9 mf_X12_its rfl rfl ⟨Nat.le_of_ble_eq_true rfl, Nat.le_of_ble_eq_true rfl⟩) (zPreV E hw (Nat.le_of_ble_eq_true rfl) (ceM_0 ad cy _) rfl _) rfl rfl hl.1 rfl (lv_room (Nat.le_of_ble_eq_true rfl)) dX12_kiteOf_79 ⟨Nat.zero_le _, Nat.zero_le _⟩) (fun H locs hw => ?_)
              exact zreti E hw hr hlk (rt_a hf) (rt_b hf) dX12_kiteOf_82
    · replace hf := it_f (b2i_0 h) hf
      refine lv_iconst (v := (-1)) hx hb dX12_kiteOf_20 (by decide) ?_
      exact zreti E hw hr hlk (rt_a hf) (rt_b hf) dX12_kiteOf_21
set_option maxRecDepth 100000 in
set_option maxHeartbeats 4000000 in
theorem c_X12_becomes {l : Launch} {D : va_G} {cy : Cy} {ad : Nat → Nat} {A : Nat → Prop} (hA : okAd 17 ad A) (xq1 : Int32) (xq2 : Int32) (σ : Sg) {r : Int32} {σ9 : Sg} (hf : f_X12_becomes xq1 xq2 σ = some (r, σ9)) : Met l yX12_becomes (.code yX12_becomes cX12_becomes 4 (some .int) :: TT) ({ frames := 0, cells := 0, slots := 0, locals := 0 } : Room) (zPc D cy 17 (celM ad cy) ad A [.ref (ad 0), .int xq1, .int xq2] σ) (zQi D 17 (celM ad cy) ad A r σ9) 0 0 A := by
  refine zofW (by decide) hA (Nat.le_of_ble_eq_true rfl) ?_
  intro p e s m args below meth c ls E hw hr hlk hl
  have E : ZE p s m args c cX12_becomes 4 "KiteSummonsModel" D cy 17 ad A := E
  have hx := E.hx
  have hb := E.hb
  have hl : lv_has ls 4 [(0, .ref (ad 0)), (1, .int xq1), (2, .int xq2)] := hl
  unfold f_X12_becomes at hf
  refine lv_aload_n hx hb dX12_becomes_0 rfl (lv_at hl 0 rfl) ?_
  refine zget E hw (Nat.le_of_ble_eq_true rfl) (ceM_0 ad cy _) rfl inX12 0 (by decide) k5_223 (fun _ h => h) rfl dX12_becomes_1 ?_
  refine lv_iload_n hx hb dX12_becomes_4 rfl (lv_at hl 1 rfl) ?_
  obtain ⟨vq1, hvq1, hf⟩ := bd_e hf
  refine zaldr E hw (Nat.le_of_ble_eq_true rfl) (ceM_1 ad cy) hvq1 dX12_becomes_5 ?_
  refine lv_istore_n (lv' := [(3, .int vq1), (0, .ref (ad 0)), (1, .int xq1), (2, .int xq2)]) hx hb dX12_becomes_6 rfl hl (by decide) rfl (fun ls hl => ?_)
  refine lv_aload_n hx hb dX12_becomes_7 rfl (lv_at hl 1 rfl) ?_
  refine zget E hw (Nat.le_of_ble_eq_true rfl) (ceM_0 ad cy _) rfl inX12 0 (by decide) k5_223 (fun _ h => h) rfl dX12_becomes_8 ?_
  refine lv_iload_n hx hb dX12_becomes_11 rfl (lv_at hl 2 rfl) ?_
  refine lv_iload_n hx hb dX12_becomes_12 rfl (lv_at hl 3 rfl) ?_
  obtain ⟨σ2, hσ2, hf⟩ := bd_e hf
  refine zastr E hw (Nat.le_of_ble_eq_true rfl) (ceM_1 ad cy) hσ2 dX12_becomes_13 (fun H locs hw => ?_)
  refine lv_iload_n hx hb dX12_becomes_14 rfl (lv_at hl 0 rfl) ?_
  exact zreti E hw hr hlk (rt_a hf) (rt_b hf) dX12_becomes_15
set_option maxRecDepth 100000 in
set_option maxHeartbeats 4000000 in
theorem c_X12_change {l : Launch} {D : va_G} {cy : Cy} {ad : Nat → Nat} {A : Nat → Prop} (hA : okAd 17 ad A) (xq1 : Int32) (xq2 : Int32) (xq3 : Int32) (σ : Sg) {r : Int32} {σ9 : Sg} (hf : f_X12_change xq1 xq2 xq3 σ = some (r, σ9)) : Met l yX12_change (.code yX12_change cX12_change 4 (some .int) :: TT) ({ frames := 3, cells := 0, slots := 0, locals := 66 } : Room) (zPc D cy 17 (celM ad cy) ad A [.ref (ad 0), .int xq1, .int xq2, .int xq3] σ) (zQi D 17 (celM ad cy) ad A r σ9) 0 0 A := by
  refine zofW (by decide) hA (Nat.le_of_ble_eq_true rfl) ?_
  intro p e s m args below meth c ls E hw hr hlk hl
  have E : ZE p s m args c cX12_change 4 "KiteSummonsModel" D cy 17 ad A := E
  have hx := E.hx
  have hb := E.hb
  have hl : lv_has ls 4 [(0, .ref (ad 0)), (1, .int xq1), (2, .int xq2), (3, .int xq3)] := hl
  unfold f_X12_change at hf
  refine lv_aload_n hx hb dX12_change_0 rfl (lv_at hl 0 rfl) ?_
  refine lv_iload_n hx hb dX12_change_1 rfl (lv_at hl 1 rfl) ?_
  refine zcali hw (va_runV (As := [.int xq1]) (rest := []) E.fix (c_X12_isKite (l := l) hA xq1 σ rfl) (zcV E k6_137 k1_14 k6_134 k6_136 kp3_7 mf_X12_isKite rfl rfl ⟨Nat.le_of_ble_eq_true rfl, Nat.le_of_ble_eq_true rfl⟩) (zPreV E hw (Nat.le_of_ble_eq_true rfl) (ceM_0 ad cy _) rfl _) rfl rfl hl.1 rfl (lv_room (Nat.le_of_ble_eq_true rfl)) dX12_change_2 ⟨Nat.zero_le _, Nat.zero_le _⟩) (fun H locs hw => ?_)
  refine lv_if_eq (tgt := 29) hx hb dX12_change_5 (by decide) (fun h => ?_) (fun h => ?_)
  · replace hf := it_f (b2i_0 h) hf
    refine lv_iconst (v := (-1)) hx hb dX12_change_29 (by decide) ?_
    exact zreti E hw hr hlk (rt_a hf) (rt_b hf) dX12_change_30
  · replace hf := it_t (b2i_n h) hf
    refine lv_iload_n hx hb dX12_change_8 rfl (lv_at hl 2 rfl) ?_
    refine lv_iload_n hx hb dX12_change_9 rfl (lv_at hl 3 rfl) ?_
    refine zcali hw (va_runS (As := [.int xq2, .int xq3]) (rest := []) E.fix (c_X12_isPart (l := l) hA xq2 xq3 σ rfl) (zcS E k6_117 k1_14 k6_115 k6_116 mf_X12_isPart rfl rfl ⟨Nat.le_of_ble_eq_true rfl, Nat.le_of_ble_eq_true rfl⟩) (zPre E hw _) rfl rfl hl.1 rfl (lv_room (Nat.le_of_ble_eq_true rfl)) dX12_change_10 ⟨Nat.zero_le _, Nat.zero_le _⟩) (fun H locs hw => ?_)
    refine lv_if_eq (tgt := 29) hx hb dX12_change_13 (by decide) (fun h => ?_) (fun h => ?_)
    · replace hf := it_f (b2i_0 h) hf
      refine lv_iconst (v := (-1)) hx hb dX12_change_29 (by decide) ?_
      exact zreti E hw hr hlk (rt_a hf) (rt_b hf) dX12_change_30
    · replace hf := it_t (b2i_n h) hf
      refine lv_aload_n hx hb dX12_change_16 rfl (lv_at hl 0 rfl) ?_
      refine lv_iload_n hx hb dX12_change_17 rfl (lv_at hl 1 rfl) ?_
      refine lv_iload_n hx hb dX12_change_18 rfl (lv_at hl 2 rfl) ?_
      refine zcali hw (va_runS (As := [.int xq1, .int xq2]) (rest := [.ref (ad 0)]) E.fix (c_X12_at (l := l) hA xq1 xq2 σ rfl) (zcS E k6_129 k1_14 k6_127 k6_128 mf_X12_at rfl rfl ⟨Nat.le_of_ble_eq_true rfl, Nat.le_of_ble_eq_true rfl⟩) (zPre E hw _) rfl rfl hl.1 rfl (lv_room (Nat.le_of_ble_eq_true rfl)) dX12_change_19 ⟨Nat.zero_le _, Nat.zero_le _⟩) (fun H locs hw => ?_)
      refine lv_iload_n hx hb dX12_change_22 rfl (lv_at hl 3 rfl) ?_
      obtain ⟨vq1, σ2, hc, hf⟩ := bd2_e hf
      refine zcali hw (va_runV (As := [.int (f_X12_at xq1 xq2 σ), .int xq3]) (rest := []) E.fix (c_X12_becomes (l := l) hA (f_X12_at xq1 xq2 σ) xq3 σ hc) (zcV E k6_192 k1_14 k6_189 k6_191 kp4_0 mf_X12_becomes rfl rfl ⟨Nat.le_of_ble_eq_true rfl, Nat.le_of_ble_eq_true rfl⟩) (zPreV E hw (Nat.le_of_ble_eq_true rfl) (ceM_0 ad cy _) rfl _) rfl rfl hl.1 rfl (lv_room (Nat.le_of_ble_eq_true rfl)) dX12_change_23 ⟨Nat.zero_le _, Nat.zero_le _⟩) (fun H locs hw => ?_)
      refine lv_goto (tgt := 30) hx hb dX12_change_26 (by decide) ?_
      exact zreti E hw hr hlk (rt_a hf) (rt_b hf) dX12_change_30
