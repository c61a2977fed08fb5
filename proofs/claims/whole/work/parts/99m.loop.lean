/-! the law's loop -/
theorem law_gt {i L : Nat} (hL : L ≤ 2560) (hi : i ≤ L) (h : ¬ (nI i > nI L - 5)) : i + 5 ≤ L := by
  by_cases h5 : 5 ≤ L
  · rw [show nI L - 5 = nI (L - 5) from pk_sub h5] at h
    have h2 : nI i ≤ nI (L - 5) := Int32.not_lt.mp h
    have h3 := (nI_leI (by omega) (by omega)).mp h2
    omega
  · exact absurd ((by decide +kernel : ∀ L, L < 5 → ∀ i, i < 5 → nI i > nI L - 5) L (by omega) i (by omega)) h
theorem law_out {j : Nat} (h : 50 ≤ j) (h2 : j < 64) : (49 : Int) < (nI j).toInt := (by decide +kernel : ∀ j, j < 64 → 50 ≤ j → (49 : Int) < (nI j).toInt) j h2 h
set_option maxRecDepth 100000 in
set_option maxHeartbeats 8000000 in
theorem law_loop {p : Program} {l : Launch} {e : Env} {s : State} {m : MethodId} {below : List Frame} {meth : Method} {c : Code} {cells slots : Nat} {b L : Nat} {xs : Nat → Int32} {D : va_G} {cy : Cy} {adC adM : Nat → Nat} {AC AM : Nat → Prop} (E : LWe p s m #[Value.ref b] c b L xs D cy adC adM AC AM) (hcs : cells ≤ room_1.cells ∧ slots ≤ room_1.slots) (hr : meth.sig.returnType = ret) (hlocks : meth.locks = false) :
    ∀ (n i : Nat), L < i + n → i ≤ L → ∀ (σC σM : Sg) (H : Heap) (locs : List Loc) (ls : Array Slot), LWs D cy adC adM s σC σM H locs → Rel σM σC → lv_has ls 4 [(3, .int (nI i)), (1, .ref (adC 0)), (2, .ref (adM 0)), (0, .ref b)] → W p l e room_1 s m #[Value.ref b] below meth c H locs cells slots (lw_Z below #[Value.ref b] s) (F0 m 18 ls []) := by
  intro n
  induction n with
  | zero =>
    intro i h1 h2
    exact absurd h1 (by omega)
  | succ n ih =>
    intro i hin hiL σC σM H locs ls h hR hl
    have hLb := E.hL
    refine lv_iload_n E.hx E.hb dL_law_18 rfl (lv_at hl 0 rfl) ?_
    refine lv_aload_n E.hx E.hb dL_law_19 rfl (lv_at hl 3 rfl) ?_
    refine va_slen E.hx E.hb E.scr E.hbl (Nat.not_le.mpr E.hbl) h.2.2 dL_law_20 ?_
    refine lv_iconst (v := 5) E.hx E.hb dL_law_21 (by decide) ?_
    refine lv_isub E.hx E.hb dL_law_22 ?_
    refine lv_icmp_gt (tgt := 1724) E.hx E.hb dL_law_23 (by decide) (fun _ => ?_) (fun hg => ?_)
    · refine lv_iconst (v := 1) E.hx E.hb dL_law_1724 (by decide) ?_
      refine va_forget (fun q hq => h.2.2.2.2 q hq) ?_
      refine W.widen (k := 600000) (n := 7302250) hcs.1 hcs.2 ?_
      exact lw_ret E.hx E.hb hr hlocks dL_law_1725
    · have hi5 : i + 5 ≤ L := law_gt hLb hiL hg
      have next : ∀ (σC1 σM1 : Sg) (H1 : Heap) (locs1 : List Loc), LWs D cy adC adM s σC1 σM1 H1 locs1 → Rel σM1 σC1 → W p l e room_1 s m #[Value.ref b] below meth c H1 locs1 cells slots (lw_Z below #[Value.ref b] s) (F0 m 1718 ls []) := by
        intro σC1 σM1 H1 locs1 h1 R1
        refine lv_iinc (v := nI (i + 5)) (lv' := [(3, .int (nI (i + 5))), (1, .ref (adC 0)), (2, .ref (adM 0)), (0, .ref b)]) E.hx E.hb dL_law_1718 hl (k := 0) rfl (nI_add i 5) (by decide) rfl (fun ls hl => ?_)
        refine lv_goto (tgt := 18) E.hx E.hb dL_law_1721 (by decide) ?_
        exact ih (i + 5) (by omega) hi5 σC1 σM1 H1 locs1 ls h1 R1 hl
      refine lv_aload_n E.hx E.hb dL_law_26 rfl (lv_at hl 3 rfl) ?_
      refine lv_iload_n E.hx E.hb dL_law_27 rfl (lv_at hl 0 rfl) ?_
      refine va_sld E.hx E.hb E.scr E.hbl (Nat.not_le.mpr E.hbl) h.2.2 (vp_in_nI (by omega) (by omega)) dL_law_28 ?_
      refine lv_bipush (v := 63) E.hx E.hb dL_law_29 (by decide) ?_
      refine lv_iand E.hx E.hb dL_law_31 ?_
      obtain ⟨j, hj, ej⟩ := pk_andE (xs (nI i).toNatClampNeg) (m := 63) 6 (by decide)
      rw [show xs (nI i).toNatClampNeg &&& 63 = nI j from ej]
      clear ej hin ih hg
      have h4 : i + 4 < L := by omega
      have hj64 : j < 64 := by omega
      clear hj
      match j, hj64 with
      | 0, _ => exact lv_tableIn (tgt := 248) E.hx E.hb dL_law_32 (by decide) (by decide) rfl (by decide) (L_248 E hcs h4 h hR hl next)
      | 1, _ => exact lv_tableIn (tgt := 301) E.hx E.hb dL_law_32 (by decide) (by decide) rfl (by decide) (L_301 E hcs h4 h hR hl next)
      | 2, _ => exact lv_tableIn (tgt := 334) E.hx E.hb dL_law_32 (by decide) (by decide) rfl (by decide) (L_334 E hcs h4 h hR hl next)
      | 3, _ => exact lv_tableIn (tgt := 377) E.hx E.hb dL_law_32 (by decide) (by decide) rfl (by decide) (L_377 E hcs h4 h hR hl next)
      | 4, _ => exact lv_tableIn (tgt := 410) E.hx E.hb dL_law_32 (by decide) (by decide) rfl (by decide) (L_410 E hcs h4 h hR hl next)
      | 5, _ => exact lv_tableIn (tgt := 443) E.hx E.hb dL_law_32 (by decide) (by decide) rfl (by decide) (L_443 E hcs h4 h hR hl next)
      | 6, _ => exact lv_tableIn (tgt := 486) E.hx E.hb dL_law_32 (by decide) (by decide) rfl (by decide) (L_486 E hcs h4 h hR hl next)
      | 7, _ => exact lv_tableIn (tgt := 519) E.hx E.hb dL_law_32 (by decide) (by decide) rfl (by decide) (L_519 E hcs h4 h hR hl next)
      | 8, _ => exact lv_tableIn (tgt := 542) E.hx E.hb dL_law_32 (by decide) (by decide) rfl (by decide) (L_542 E hcs h4 h hR hl next)
      | 9, _ => exact lv_tableIn (tgt := 555) E.hx E.hb dL_law_32 (by decide) (by decide) rfl (by decide) (L_555 E hcs h4 h hR hl next)
      | 10, _ => exact lv_tableIn (tgt := 578) E.hx E.hb dL_law_32 (by decide) (by decide) rfl (by decide) (L_578 E hcs h4 h hR hl next)
      | 11, _ => exact lv_tableIn (tgt := 641) E.hx E.hb dL_law_32 (by decide) (by decide) rfl (by decide) (L_641 E hcs h4 h hR hl next)
      | 12, _ => exact lv_tableIn (tgt := 654) E.hx E.hb dL_law_32 (by decide) (by decide) rfl (by decide) (L_654 E hcs h4 h hR hl next)
      | 13, _ => exact lv_tableIn (tgt := 667) E.hx E.hb dL_law_32 (by decide) (by decide) rfl (by decide) (L_667 E hcs h4 h hR hl next)
      | 14, _ => exact lv_tableIn (tgt := 690) E.hx E.hb dL_law_32 (by decide) (by decide) rfl (by decide) (L_690 E hcs h4 h hR hl next)
      | 15, _ => exact lv_tableIn (tgt := 713) E.hx E.hb dL_law_32 (by decide) (by decide) rfl (by decide) (L_713 E hcs h4 h hR hl next)
      | 16, _ => exact lv_tableIn (tgt := 736) E.hx E.hb dL_law_32 (by decide) (by decide) rfl (by decide) (L_736 E hcs h4 h hR hl next)
      | 17, _ => exact lv_tableIn (tgt := 759) E.hx E.hb dL_law_32 (by decide) (by decide) rfl (by decide) (L_759 E hcs h4 h hR hl next)
      | 18, _ => exact lv_tableIn (tgt := 782) E.hx E.hb dL_law_32 (by decide) (by decide) rfl (by decide) (L_782 E hcs h4 h hR hl next)
      | 19, _ => exact lv_tableIn (tgt := 805) E.hx E.hb dL_law_32 (by decide) (by decide) rfl (by decide) (L_805 E hcs h4 h hR hl next)
      | 20, _ => exact lv_tableIn (tgt := 838) E.hx E.hb dL_law_32 (by decide) (by decide) rfl (by decide) (L_838 E hcs h4 h hR hl next)
      | 21, _ => exact lv_tableIn (tgt := 861) E.hx E.hb dL_law_32 (by decide) (by decide) rfl (by decide) (L_861 E hcs h4 h hR hl next)
      | 22, _ => exact lv_tableIn (tgt := 894) E.hx E.hb dL_law_32 (by decide) (by decide) rfl (by decide) (L_894 E hcs h4 h hR hl next)
      | 23, _ => exact lv_tableIn (tgt := 917) E.hx E.hb dL_law_32 (by decide) (by decide) rfl (by decide) (L_917 E hcs h4 h hR hl next)
      | 24, _ => exact lv_tableIn (tgt := 950) E.hx E.hb dL_law_32 (by decide) (by decide) rfl (by decide) (L_950 E hcs h4 h hR hl next)
      | 25, _ => exact lv_tableIn (tgt := 983) E.hx E.hb dL_law_32 (by decide) (by decide) rfl (by decide) (L_983 E hcs h4 h hR hl next)
      | 26, _ => exact lv_tableIn (tgt := 1006) E.hx E.hb dL_law_32 (by decide) (by decide) rfl (by decide) (L_1006 E hcs h4 h hR hl next)
      | 27, _ => exact lv_tableIn (tgt := 1029) E.hx E.hb dL_law_32 (by decide) (by decide) rfl (by decide) (L_1029 E hcs h4 h hR hl next)
      | 28, _ => exact lv_tableIn (tgt := 1082) E.hx E.hb dL_law_32 (by decide) (by decide) rfl (by decide) (L_1082 E hcs h4 h hR hl next)
      | 29, _ => exact lv_tableIn (tgt := 1095) E.hx E.hb dL_law_32 (by decide) (by decide) rfl (by decide) (L_1095 E hcs h4 h hR hl next)
      | 30, _ => exact lv_tableIn (tgt := 1118) E.hx E.hb dL_law_32 (by decide) (by decide) rfl (by decide) (L_1118 E hcs h4 h hR hl next)
      | 31, _ => exact lv_tableIn (tgt := 1131) E.hx E.hb dL_law_32 (by decide) (by decide) rfl (by decide) (L_1131 E hcs h4 h hR hl next)
      | 32, _ => exact lv_tableIn (tgt := 1154) E.hx E.hb dL_law_32 (by decide) (by decide) rfl (by decide) (L_1154 E hcs h4 h hR hl next)
      | 33, _ => exact lv_tableIn (tgt := 1167) E.hx E.hb dL_law_32 (by decide) (by decide) rfl (by decide) (L_1167 E hcs h4 h hR hl next)
      | 34, _ => exact lv_tableIn (tgt := 1200) E.hx E.hb dL_law_32 (by decide) (by decide) rfl (by decide) (L_1200 E hcs h4 h hR hl next)
      | 35, _ => exact lv_tableIn (tgt := 1223) E.hx E.hb dL_law_32 (by decide) (by decide) rfl (by decide) (L_1223 E hcs h4 h hR hl next)
      | 36, _ => exact lv_tableIn (tgt := 1256) E.hx E.hb dL_law_32 (by decide) (by decide) rfl (by decide) (L_1256 E hcs h4 h hR hl next)
      | 37, _ => exact lv_tableIn (tgt := 1299) E.hx E.hb dL_law_32 (by decide) (by decide) rfl (by decide) (L_1299 E hcs h4 h hR hl next)
      | 38, _ => exact lv_tableIn (tgt := 1312) E.hx E.hb dL_law_32 (by decide) (by decide) rfl (by decide) (L_1312 E hcs h4 h hR hl next)
      | 39, _ => exact lv_tableIn (tgt := 1355) E.hx E.hb dL_law_32 (by decide) (by decide) rfl (by decide) (L_1355 E hcs h4 h hR hl next)
      | 40, _ => exact lv_tableIn (tgt := 1398) E.hx E.hb dL_law_32 (by decide) (by decide) rfl (by decide) (L_1398 E hcs h4 h hR hl next)
      | 41, _ => exact lv_tableIn (tgt := 1441) E.hx E.hb dL_law_32 (by decide) (by decide) rfl (by decide) (L_1441 E hcs h4 h hR hl next)
      | 42, _ => exact lv_tableIn (tgt := 1484) E.hx E.hb dL_law_32 (by decide) (by decide) rfl (by decide) (L_1484 E hcs h4 h hR hl next)
      | 43, _ => exact lv_tableIn (tgt := 1527) E.hx E.hb dL_law_32 (by decide) (by decide) rfl (by decide) (L_1527 E hcs h4 h hR hl next)
      | 44, _ => exact lv_tableIn (tgt := 1570) E.hx E.hb dL_law_32 (by decide) (by decide) rfl (by decide) (L_1570 E hcs h4 h hR hl next)
      | 45, _ => exact lv_tableIn (tgt := 1603) E.hx E.hb dL_law_32 (by decide) (by decide) rfl (by decide) (L_1603 E hcs h4 h hR hl next)
      | 46, _ => exact lv_tableIn (tgt := 1646) E.hx E.hb dL_law_32 (by decide) (by decide) rfl (by decide) (L_1646 E hcs h4 h hR hl next)
      | 47, _ => exact lv_tableIn (tgt := 1669) E.hx E.hb dL_law_32 (by decide) (by decide) rfl (by decide) (L_1669 E hcs h4 h hR hl next)
      | 48, _ => exact lv_tableIn (tgt := 1692) E.hx E.hb dL_law_32 (by decide) (by decide) rfl (by decide) (L_1692 E hcs h4 h hR hl next)
      | 49, _ => exact lv_tableIn (tgt := 1705) E.hx E.hb dL_law_32 (by decide) (by decide) rfl (by decide) (L_1705 E hcs h4 h hR hl next)
      | j + 50, hj => exact lv_tableOut (tgt := 1718) E.hx E.hb dL_law_32 (Or.inr (law_out (by omega) (by omega))) (by decide) (next σC σM H locs h hR)
