/-! the law's cases (by wip/gen/lawgen.py) -/
set_option maxRecDepth 100000 in
set_option maxHeartbeats 8000000 in
/-- game -/
theorem L_983 {p : Program} {l : Launch} {e : Env} {s : State} {m : MethodId} {args : Array Value} {below : List Frame} {meth : Method} {c : Code} {H : Heap} {locs : List Loc} {cells slots : Nat} {Q : State → Prop} {b L : Nat} {xs : Nat → Int32} {D : va_G} {cy : Cy} {adC adM : Nat → Nat} {AC AM : Nat → Prop} {σC σM : Sg} {ls : Array Slot} (E : LWe p s m args c b L xs D cy adC adM AC AM) (hcs : cells ≤ room_1.cells ∧ slots ≤ room_1.slots) {i : Nat} (hi : i + 4 < L) (h : LWs D cy adC adM s σC σM H locs) (hR : Rel σM σC) (hl : lv_has ls 4 [(3, .int (nI i)), (1, .ref (adC 0)), (2, .ref (adM 0)), (0, .ref b)])
    (kk : ∀ (σC1 σM1 : Sg) (H1 : Heap) (locs1 : List Loc), LWs D cy adC adM s σC1 σM1 H1 locs1 → Rel σM1 σC1 → W p l e room_1 s m args below meth c H1 locs1 cells slots Q (F0 m 1718 ls [])) : W p l e room_1 s m args below meth c H locs cells slots Q (F0 m 983 ls []) := by
  obtain ⟨r, σM1, σC1, eM, eC, R1⟩ := eq_game hR (xs (i + 1))
  refine lv_aload_n E.hx E.hb dL_law_983 rfl (lv_at hl 1 rfl) ?_
  refine larg (k := 1) E h (by omega) hl rfl rfl dL_law_984 dL_law_985 dL_law_986 dL_law_987 dL_law_988 (by decide) ?_
  refine lcalC E h (va_runV (As := [.int (xs (i + 1))]) (rest := []) E.fix (c_X11_game (l := l) (D := D) (cy := cy) E.oC (xs (i + 1)) σC eC) (lcV E k4_166 k1_1 k4_163 k4_164 k4_165 mL_X11_game rfl rfl ⟨Nat.le_of_ble_eq_true rfl, Nat.le_of_ble_eq_true rfl⟩) (lPreC E h _) rfl rfl hl.1 rfl (lv_room (Nat.le_of_ble_eq_true rfl)) dL_law_989 ⟨hcs.1, hcs.2⟩) (fun H locs h => ?_)
  refine lv_aload_n E.hx E.hb dL_law_992 rfl (lv_at hl 2 rfl) ?_
  refine larg (k := 1) E h (by omega) hl rfl rfl dL_law_993 dL_law_994 dL_law_995 dL_law_996 dL_law_997 (by decide) ?_
  refine lcalM E h (va_runV (As := [.int (xs (i + 1))]) (rest := [.int r]) E.fix (c_X12_game (l := l) (D := D) (cy := cy) E.oM (xs (i + 1)) σM eM) (lcV E k7_136 k1_14 k7_133 k7_134 k7_135 mL_X12_game rfl rfl ⟨Nat.le_of_ble_eq_true rfl, Nat.le_of_ble_eq_true rfl⟩) (lPreM E h _) rfl rfl hl.1 rfl (lv_room (Nat.le_of_ble_eq_true rfl)) dL_law_998 ⟨hcs.1, hcs.2⟩) (fun H locs h => ?_)
  refine lv_icmp_eq (tgt := 1718) E.hx E.hb dL_law_1001 (by decide) (fun _ => ?_) (fun ne => absurd rfl ne)
  exact kk σC1 σM1 _ _ h R1
set_option maxRecDepth 100000 in
set_option maxHeartbeats 8000000 in
/-- play -/
theorem L_1006 {p : Program} {l : Launch} {e : Env} {s : State} {m : MethodId} {args : Array Value} {below : List Frame} {meth : Method} {c : Code} {H : Heap} {locs : List Loc} {cells slots : Nat} {Q : State → Prop} {b L : Nat} {xs : Nat → Int32} {D : va_G} {cy : Cy} {adC adM : Nat → Nat} {AC AM : Nat → Prop} {σC σM : Sg} {ls : Array Slot} (E : LWe p s m args c b L xs D cy adC adM AC AM) (hcs : cells ≤ room_1.cells ∧ slots ≤ room_1.slots) {i : Nat} (hi : i + 4 < L) (h : LWs D cy adC adM s σC σM H locs) (hR : Rel σM σC) (hl : lv_has ls 4 [(3, .int (nI i)), (1, .ref (adC 0)), (2, .ref (adM 0)), (0, .ref b)])
    (kk : ∀ (σC1 σM1 : Sg) (H1 : Heap) (locs1 : List Loc), LWs D cy adC adM s σC1 σM1 H1 locs1 → Rel σM1 σC1 → W p l e room_1 s m args below meth c H1 locs1 cells slots Q (F0 m 1718 ls [])) : W p l e room_1 s m args below meth c H locs cells slots Q (F0 m 1006 ls []) := by
  obtain ⟨r, σM1, σC1, eM, eC, R1⟩ := eq_play hR (xs (i + 1))
  refine lv_aload_n E.hx E.hb dL_law_1006 rfl (lv_at hl 1 rfl) ?_
  refine larg (k := 1) E h (by omega) hl rfl rfl dL_law_1007 dL_law_1008 dL_law_1009 dL_law_1010 dL_law_1011 (by decide) ?_
  refine lcalC E h (va_runV (As := [.int (xs (i + 1))]) (rest := []) E.fix (c_X11_play (l := l) (D := D) (cy := cy) E.oC (xs (i + 1)) σC eC) (lcV E k4_178 k1_1 k4_175 k4_176 k4_177 mL_X11_play rfl rfl ⟨Nat.le_of_ble_eq_true rfl, Nat.le_of_ble_eq_true rfl⟩) (lPreC E h _) rfl rfl hl.1 rfl (lv_room (Nat.le_of_ble_eq_true rfl)) dL_law_1012 ⟨hcs.1, hcs.2⟩) (fun H locs h => ?_)
  refine lv_aload_n E.hx E.hb dL_law_1015 rfl (lv_at hl 2 rfl) ?_
  refine larg (k := 1) E h (by omega) hl rfl rfl dL_law_1016 dL_law_1017 dL_law_1018 dL_law_1019 dL_law_1020 (by decide) ?_
  refine lcalM E h (va_runV (As := [.int (xs (i + 1))]) (rest := [.int r]) E.fix (c_X12_play (l := l) (D := D) (cy := cy) E.oM (xs (i + 1)) σM eM) (lcV E k7_144 k1_14 k7_141 k7_142 k7_143 mL_X12_play rfl rfl ⟨Nat.le_of_ble_eq_true rfl, Nat.le_of_ble_eq_true rfl⟩) (lPreM E h _) rfl rfl hl.1 rfl (lv_room (Nat.le_of_ble_eq_true rfl)) dL_law_1021 ⟨hcs.1, hcs.2⟩) (fun H locs h => ?_)
  refine lv_icmp_eq (tgt := 1718) E.hx E.hb dL_law_1024 (by decide) (fun _ => ?_) (fun ne => absurd rfl ne)
  exact kk σC1 σM1 _ _ h R1
set_option maxRecDepth 100000 in
set_option maxHeartbeats 8000000 in
/-- report -/
theorem L_1029 {p : Program} {l : Launch} {e : Env} {s : State} {m : MethodId} {args : Array Value} {below : List Frame} {meth : Method} {c : Code} {H : Heap} {locs : List Loc} {cells slots : Nat} {Q : State → Prop} {b L : Nat} {xs : Nat → Int32} {D : va_G} {cy : Cy} {adC adM : Nat → Nat} {AC AM : Nat → Prop} {σC σM : Sg} {ls : Array Slot} (E : LWe p s m args c b L xs D cy adC adM AC AM) (hcs : cells ≤ room_1.cells ∧ slots ≤ room_1.slots) {i : Nat} (hi : i + 4 < L) (h : LWs D cy adC adM s σC σM H locs) (hR : Rel σM σC) (hl : lv_has ls 4 [(3, .int (nI i)), (1, .ref (adC 0)), (2, .ref (adM 0)), (0, .ref b)])
    (kk : ∀ (σC1 σM1 : Sg) (H1 : Heap) (locs1 : List Loc), LWs D cy adC adM s σC1 σM1 H1 locs1 → Rel σM1 σC1 → W p l e room_1 s m args below meth c H1 locs1 cells slots Q (F0 m 1718 ls [])) : W p l e room_1 s m args below meth c H locs cells slots Q (F0 m 1029 ls []) := by
  obtain ⟨r, σM1, σC1, eM, eC, R1⟩ := eq_report hR (xs (i + 1)) (xs (i + 2)) (xs (i + 3)) (xs (i + 4))
  refine lv_aload_n E.hx E.hb dL_law_1029 rfl (lv_at hl 1 rfl) ?_
  refine larg (k := 1) E h (by omega) hl rfl rfl dL_law_1030 dL_law_1031 dL_law_1032 dL_law_1033 dL_law_1034 (by decide) ?_
  refine larg (k := 2) E h (by omega) hl rfl rfl dL_law_1035 dL_law_1036 dL_law_1037 dL_law_1038 dL_law_1039 (by decide) ?_
  refine larg (k := 3) E h (by omega) hl rfl rfl dL_law_1040 dL_law_1041 dL_law_1042 dL_law_1043 dL_law_1044 (by decide) ?_
  refine larg (k := 4) E h (by omega) hl rfl rfl dL_law_1045 dL_law_1046 dL_law_1047 dL_law_1048 dL_law_1049 (by decide) ?_
  refine lcalC E h (va_runV (As := [.int (xs (i + 1)), .int (xs (i + 2)), .int (xs (i + 3)), .int (xs (i + 4))]) (rest := []) E.fix (c_X11_report (l := l) (D := D) (cy := cy) E.oC (xs (i + 1)) (xs (i + 2)) (xs (i + 3)) (xs (i + 4)) σC eC) (lcV E k4_182 k1_1 k4_179 k4_180 k4_181 mL_X11_report rfl rfl ⟨Nat.le_of_ble_eq_true rfl, Nat.le_of_ble_eq_true rfl⟩) (lPreC E h _) rfl rfl hl.1 rfl (lv_room (Nat.le_of_ble_eq_true rfl)) dL_law_1050 ⟨hcs.1, hcs.2⟩) (fun H locs h => ?_)
  refine lv_aload_n E.hx E.hb dL_law_1053 rfl (lv_at hl 2 rfl) ?_
  refine larg (k := 1) E h (by omega) hl rfl rfl dL_law_1054 dL_law_1055 dL_law_1056 dL_law_1057 dL_law_1058 (by decide) ?_
  refine larg (k := 2) E h (by omega) hl rfl rfl dL_law_1059 dL_law_1060 dL_law_1061 dL_law_1062 dL_law_1063 (by decide) ?_
  refine larg (k := 3) E h (by omega) hl rfl rfl dL_law_1064 dL_law_1065 dL_law_1066 dL_law_1067 dL_law_1068 (by decide) ?_
  refine larg (k := 4) E h (by omega) hl rfl rfl dL_law_1069 dL_law_1070 dL_law_1071 dL_law_1072 dL_law_1073 (by decide) ?_
  refine lcalM E h (va_runV (As := [.int (xs (i + 1)), .int (xs (i + 2)), .int (xs (i + 3)), .int (xs (i + 4))]) (rest := [.int r]) E.fix (c_X12_report (l := l) (D := D) (cy := cy) E.oM (xs (i + 1)) (xs (i + 2)) (xs (i + 3)) (xs (i + 4)) σM eM) (lcV E k7_148 k1_14 k7_145 k7_146 k7_147 mL_X12_report rfl rfl ⟨Nat.le_of_ble_eq_true rfl, Nat.le_of_ble_eq_true rfl⟩) (lPreM E h _) rfl rfl hl.1 rfl (lv_room (Nat.le_of_ble_eq_true rfl)) dL_law_1074 ⟨hcs.1, hcs.2⟩) (fun H locs h => ?_)
  refine lv_icmp_eq (tgt := 1718) E.hx E.hb dL_law_1077 (by decide) (fun _ => ?_) (fun ne => absurd rfl ne)
  exact kk σC1 σM1 _ _ h R1
set_option maxRecDepth 100000 in
set_option maxHeartbeats 8000000 in
/-- forget -/
theorem L_1082 {p : Program} {l : Launch} {e : Env} {s : State} {m : MethodId} {args : Array Value} {below : List Frame} {meth : Method} {c : Code} {H : Heap} {locs : List Loc} {cells slots : Nat} {Q : State → Prop} {b L : Nat} {xs : Nat → Int32} {D : va_G} {cy : Cy} {adC adM : Nat → Nat} {AC AM : Nat → Prop} {σC σM : Sg} {ls : Array Slot} (E : LWe p s m args c b L xs D cy adC adM AC AM) (hcs : cells ≤ room_1.cells ∧ slots ≤ room_1.slots) {i : Nat} (hi : i + 4 < L) (h : LWs D cy adC adM s σC σM H locs) (hR : Rel σM σC) (hl : lv_has ls 4 [(3, .int (nI i)), (1, .ref (adC 0)), (2, .ref (adM 0)), (0, .ref b)])
    (kk : ∀ (σC1 σM1 : Sg) (H1 : Heap) (locs1 : List Loc), LWs D cy adC adM s σC1 σM1 H1 locs1 → Rel σM1 σC1 → W p l e room_1 s m args below meth c H1 locs1 cells slots Q (F0 m 1718 ls [])) : W p l e room_1 s m args below meth c H locs cells slots Q (F0 m 1082 ls []) := by
  obtain ⟨r, σM1, σC1, eM, eC, R1⟩ := eq_forget hR
  refine lv_aload_n E.hx E.hb dL_law_1082 rfl (lv_at hl 1 rfl) ?_
  refine lcalC E h (va_runV (As := []) (rest := []) E.fix (c_X11_forget (l := l) (D := D) (cy := cy) E.oC σC eC) (lcV E k4_190 k1_1 k4_187 k4_188 k4_189 mL_X11_forget rfl rfl ⟨Nat.le_of_ble_eq_true rfl, Nat.le_of_ble_eq_true rfl⟩) (lPreC E h _) rfl rfl hl.1 rfl (lv_room (Nat.le_of_ble_eq_true rfl)) dL_law_1083 ⟨hcs.1, hcs.2⟩) (fun H locs h => ?_)
  refine lv_aload_n E.hx E.hb dL_law_1086 rfl (lv_at hl 2 rfl) ?_
  refine lcalM E h (va_runV (As := []) (rest := [.int r]) E.fix (c_X12_forget (l := l) (D := D) (cy := cy) E.oM σM eM) (lcV E k7_153 k1_14 k7_150 k7_151 k7_152 mL_X12_forget rfl rfl ⟨Nat.le_of_ble_eq_true rfl, Nat.le_of_ble_eq_true rfl⟩) (lPreM E h _) rfl rfl hl.1 rfl (lv_room (Nat.le_of_ble_eq_true rfl)) dL_law_1087 ⟨hcs.1, hcs.2⟩) (fun H locs h => ?_)
  refine lv_icmp_eq (tgt := 1718) E.hx E.hb dL_law_1090 (by decide) (fun _ => ?_) (fun ne => absurd rfl ne)
  exact kk σC1 σM1 _ _ h R1
set_option maxRecDepth 100000 in
set_option maxHeartbeats 8000000 in
/-- span -/
theorem L_1095 {p : Program} {l : Launch} {e : Env} {s : State} {m : MethodId} {args : Array Value} {below : List Frame} {meth : Method} {c : Code} {H : Heap} {locs : List Loc} {cells slots : Nat} {Q : State → Prop} {b L : Nat} {xs : Nat → Int32} {D : va_G} {cy : Cy} {adC adM : Nat → Nat} {AC AM : Nat → Prop} {σC σM : Sg} {ls : Array Slot} (E : LWe p s m args c b L xs D cy adC adM AC AM) (hcs : cells ≤ room_1.cells ∧ slots ≤ room_1.slots) {i : Nat} (hi : i + 4 < L) (h : LWs D cy adC adM s σC σM H locs) (hR : Rel σM σC) (hl : lv_has ls 4 [(3, .int (nI i)), (1, .ref (adC 0)), (2, .ref (adM 0)), (0, .ref b)])
    (kk : ∀ (σC1 σM1 : Sg) (H1 : Heap) (locs1 : List Loc), LWs D cy adC adM s σC1 σM1 H1 locs1 → Rel σM1 σC1 → W p l e room_1 s m args below meth c H1 locs1 cells slots Q (F0 m 1718 ls [])) : W p l e room_1 s m args below meth c H locs cells slots Q (F0 m 1095 ls []) := by
  obtain ⟨r, σM1, eM, eC, R1⟩ := eq_span hR (xs (i + 1))
  refine lv_aload_n E.hx E.hb dL_law_1095 rfl (lv_at hl 1 rfl) ?_
  refine larg (k := 1) E h (by omega) hl rfl rfl dL_law_1096 dL_law_1097 dL_law_1098 dL_law_1099 dL_law_1100 (by decide) ?_
  refine lcalC E h (va_runV (As := [.int (xs (i + 1))]) (rest := []) E.fix (c_X11_span (l := l) (D := D) (cy := cy) E.oC (xs (i + 1)) σC eC) (lcV E k4_194 k1_1 k4_191 k4_192 k4_193 mL_X11_span rfl rfl ⟨Nat.le_of_ble_eq_true rfl, Nat.le_of_ble_eq_true rfl⟩) (lPreC E h _) rfl rfl hl.1 rfl (lv_room (Nat.le_of_ble_eq_true rfl)) dL_law_1101 ⟨hcs.1, hcs.2⟩) (fun H locs h => ?_)
  refine lv_aload_n E.hx E.hb dL_law_1104 rfl (lv_at hl 2 rfl) ?_
  refine larg (k := 1) E h (by omega) hl rfl rfl dL_law_1105 dL_law_1106 dL_law_1107 dL_law_1108 dL_law_1109 (by decide) ?_
  refine lcalM E h (va_runV (As := [.int (xs (i + 1))]) (rest := [.int r]) E.fix (c_X12_span (l := l) (D := D) (cy := cy) E.oM (xs (i + 1)) σM eM) (lcV E k7_157 k1_14 k7_154 k7_155 k7_156 mL_X12_span rfl rfl ⟨Nat.le_of_ble_eq_true rfl, Nat.le_of_ble_eq_true rfl⟩) (lPreM E h _) rfl rfl hl.1 rfl (lv_room (Nat.le_of_ble_eq_true rfl)) dL_law_1110 ⟨hcs.1, hcs.2⟩) (fun H locs h => ?_)
  refine lv_icmp_eq (tgt := 1718) E.hx E.hb dL_law_1113 (by decide) (fun _ => ?_) (fun ne => absurd rfl ne)
  exact kk σC σM1 _ _ h R1
set_option maxRecDepth 100000 in
set_option maxHeartbeats 8000000 in
/-- liar -/
theorem L_1118 {p : Program} {l : Launch} {e : Env} {s : State} {m : MethodId} {args : Array Value} {below : List Frame} {meth : Method} {c : Code} {H : Heap} {locs : List Loc} {cells slots : Nat} {Q : State → Prop} {b L : Nat} {xs : Nat → Int32} {D : va_G} {cy : Cy} {adC adM : Nat → Nat} {AC AM : Nat → Prop} {σC σM : Sg} {ls : Array Slot} (E : LWe p s m args c b L xs D cy adC adM AC AM) (hcs : cells ≤ room_1.cells ∧ slots ≤ room_1.slots) {i : Nat} (hi : i + 4 < L) (h : LWs D cy adC adM s σC σM H locs) (hR : Rel σM σC) (hl : lv_has ls 4 [(3, .int (nI i)), (1, .ref (adC 0)), (2, .ref (adM 0)), (0, .ref b)])
    (kk : ∀ (σC1 σM1 : Sg) (H1 : Heap) (locs1 : List Loc), LWs D cy adC adM s σC1 σM1 H1 locs1 → Rel σM1 σC1 → W p l e room_1 s m args below meth c H1 locs1 cells slots Q (F0 m 1718 ls [])) : W p l e room_1 s m args below meth c H locs cells slots Q (F0 m 1118 ls []) := by
  obtain ⟨r, σM1, eM, eC, R1⟩ := eq_liar hR
  refine lv_aload_n E.hx E.hb dL_law_1118 rfl (lv_at hl 1 rfl) ?_
  refine lcalC E h (va_runV (As := []) (rest := []) E.fix (c_X11_liar (l := l) (D := D) (cy := cy) E.oC σC eC) (lcV E k4_214 k1_1 k4_211 k4_212 k4_213 mL_X11_liar rfl rfl ⟨Nat.le_of_ble_eq_true rfl, Nat.le_of_ble_eq_true rfl⟩) (lPreC E h _) rfl rfl hl.1 rfl (lv_room (Nat.le_of_ble_eq_true rfl)) dL_law_1119 ⟨hcs.1, hcs.2⟩) (fun H locs h => ?_)
  refine lv_aload_n E.hx E.hb dL_law_1122 rfl (lv_at hl 2 rfl) ?_
  refine lcalM E h (va_runV (As := []) (rest := [.int r]) E.fix (c_X12_liar (l := l) (D := D) (cy := cy) E.oM σM eM) (lcV E k7_174 k1_14 k7_171 k7_172 k7_173 mL_X12_liar rfl rfl ⟨Nat.le_of_ble_eq_true rfl, Nat.le_of_ble_eq_true rfl⟩) (lPreM E h _) rfl rfl hl.1 rfl (lv_room (Nat.le_of_ble_eq_true rfl)) dL_law_1123 ⟨hcs.1, hcs.2⟩) (fun H locs h => ?_)
  refine lv_icmp_eq (tgt := 1718) E.hx E.hb dL_law_1126 (by decide) (fun _ => ?_) (fun ne => absurd rfl ne)
  exact kk σC σM1 _ _ h R1
set_option maxRecDepth 100000 in
set_option maxHeartbeats 8000000 in
/-- seed -/
theorem L_1131 {p : Program} {l : Launch} {e : Env} {s : State} {m : MethodId} {args : Array Value} {below : List Frame} {meth : Method} {c : Code} {H : Heap} {locs : List Loc} {cells slots : Nat} {Q : State → Prop} {b L : Nat} {xs : Nat → Int32} {D : va_G} {cy : Cy} {adC adM : Nat → Nat} {AC AM : Nat → Prop} {σC σM : Sg} {ls : Array Slot} (E : LWe p s m args c b L xs D cy adC adM AC AM) (hcs : cells ≤ room_1.cells ∧ slots ≤ room_1.slots) {i : Nat} (hi : i + 4 < L) (h : LWs D cy adC adM s σC σM H locs) (hR : Rel σM σC) (hl : lv_has ls 4 [(3, .int (nI i)), (1, .ref (adC 0)), (2, .ref (adM 0)), (0, .ref b)])
    (kk : ∀ (σC1 σM1 : Sg) (H1 : Heap) (locs1 : List Loc), LWs D cy adC adM s σC1 σM1 H1 locs1 → Rel σM1 σC1 → W p l e room_1 s m args below meth c H1 locs1 cells slots Q (F0 m 1718 ls [])) : W p l e room_1 s m args below meth c H locs cells slots Q (F0 m 1131 ls []) := by
  obtain ⟨r, σM1, σC1, eM, eC, R1⟩ := eq_seed hR (xs (i + 1))
  refine lv_aload_n E.hx E.hb dL_law_1131 rfl (lv_at hl 1 rfl) ?_
  refine larg (k := 1) E h (by omega) hl rfl rfl dL_law_1132 dL_law_1133 dL_law_1134 dL_law_1135 dL_law_1136 (by decide) ?_
  refine lcalC E h (va_runV (As := [.int (xs (i + 1))]) (rest := []) E.fix (c_X11_seed (l := l) (D := D) (cy := cy) E.oC (xs (i + 1)) σC eC) (lcV E k4_218 k1_1 k4_215 k4_216 k4_217 mL_X11_seed rfl rfl ⟨Nat.le_of_ble_eq_true rfl, Nat.le_of_ble_eq_true rfl⟩) (lPreC E h _) rfl rfl hl.1 rfl (lv_room (Nat.le_of_ble_eq_true rfl)) dL_law_1137 ⟨hcs.1, hcs.2⟩) (fun H locs h => ?_)
  refine lv_aload_n E.hx E.hb dL_law_1140 rfl (lv_at hl 2 rfl) ?_
  refine larg (k := 1) E h (by omega) hl rfl rfl dL_law_1141 dL_law_1142 dL_law_1143 dL_law_1144 dL_law_1145 (by decide) ?_
  refine lcalM E h (va_runV (As := [.int (xs (i + 1))]) (rest := [.int r]) E.fix (c_X12_seed (l := l) (D := D) (cy := cy) E.oM (xs (i + 1)) σM eM) (lcV E k7_178 k1_14 k7_175 k7_176 k7_177 mL_X12_seed rfl rfl ⟨Nat.le_of_ble_eq_true rfl, Nat.le_of_ble_eq_true rfl⟩) (lPreM E h _) rfl rfl hl.1 rfl (lv_room (Nat.le_of_ble_eq_true rfl)) dL_law_1146 ⟨hcs.1, hcs.2⟩) (fun H locs h => ?_)
  refine lv_icmp_eq (tgt := 1718) E.hx E.hb dL_law_1149 (by decide) (fun _ => ?_) (fun ne => absurd rfl ne)
  exact kk σC1 σM1 _ _ h R1
set_option maxRecDepth 100000 in
set_option maxHeartbeats 8000000 in
/-- lot -/
theorem L_1154 {p : Program} {l : Launch} {e : Env} {s : State} {m : MethodId} {args : Array Value} {below : List Frame} {meth : Method} {c : Code} {H : Heap} {locs : List Loc} {cells slots : Nat} {Q : State → Prop} {b L : Nat} {xs : Nat → Int32} {D : va_G} {cy : Cy} {adC adM : Nat → Nat} {AC AM : Nat → Prop} {σC σM : Sg} {ls : Array Slot} (E : LWe p s m args c b L xs D cy adC adM AC AM) (hcs : cells ≤ room_1.cells ∧ slots ≤ room_1.slots) {i : Nat} (hi : i + 4 < L) (h : LWs D cy adC adM s σC σM H locs) (hR : Rel σM σC) (hl : lv_has ls 4 [(3, .int (nI i)), (1, .ref (adC 0)), (2, .ref (adM 0)), (0, .ref b)])
    (kk : ∀ (σC1 σM1 : Sg) (H1 : Heap) (locs1 : List Loc), LWs D cy adC adM s σC1 σM1 H1 locs1 → Rel σM1 σC1 → W p l e room_1 s m args below meth c H1 locs1 cells slots Q (F0 m 1718 ls [])) : W p l e room_1 s m args below meth c H locs cells slots Q (F0 m 1154 ls []) := by
  obtain ⟨r, σM1, σC1, eM, eC, R1⟩ := eq_lot hR
  refine lv_aload_n E.hx E.hb dL_law_1154 rfl (lv_at hl 1 rfl) ?_
  refine lcalC E h (va_runV (As := []) (rest := []) E.fix (c_X11_lot (l := l) (D := D) (cy := cy) E.oC σC eC) (lcV E k4_222 k1_1 k4_219 k4_220 k4_221 mL_X11_lot rfl rfl ⟨Nat.le_of_ble_eq_true rfl, Nat.le_of_ble_eq_true rfl⟩) (lPreC E h _) rfl rfl hl.1 rfl (lv_room (Nat.le_of_ble_eq_true rfl)) dL_law_1155 ⟨hcs.1, hcs.2⟩) (fun H locs h => ?_)
  refine lv_aload_n E.hx E.hb dL_law_1158 rfl (lv_at hl 2 rfl) ?_
  refine lcalM E h (va_runV (As := []) (rest := [.int r]) E.fix (c_X12_lot (l := l) (D := D) (cy := cy) E.oM σM eM) (lcV E k7_182 k1_14 k7_179 k7_180 k7_181 mL_X12_lot rfl rfl ⟨Nat.le_of_ble_eq_true rfl, Nat.le_of_ble_eq_true rfl⟩) (lPreM E h _) rfl rfl hl.1 rfl (lv_room (Nat.le_of_ble_eq_true rfl)) dL_law_1159 ⟨hcs.1, hcs.2⟩) (fun H locs h => ?_)
  refine lv_icmp_eq (tgt := 1718) E.hx E.hb dL_law_1162 (by decide) (fun _ => ?_) (fun ne => absurd rfl ne)
  exact kk σC1 σM1 _ _ h R1
set_option maxRecDepth 100000 in
set_option maxHeartbeats 8000000 in
/-- times -/
theorem L_1167 {p : Program} {l : Launch} {e : Env} {s : State} {m : MethodId} {args : Array Value} {below : List Frame} {meth : Method} {c : Code} {H : Heap} {locs : List Loc} {cells slots : Nat} {Q : State → Prop} {b L : Nat} {xs : Nat → Int32} {D : va_G} {cy : Cy} {adC adM : Nat → Nat} {AC AM : Nat → Prop} {σC σM : Sg} {ls : Array Slot} (E : LWe p s m args c b L xs D cy adC adM AC AM) (hcs : cells ≤ room_1.cells ∧ slots ≤ room_1.slots) {i : Nat} (hi : i + 4 < L) (h : LWs D cy adC adM s σC σM H locs) (hR : Rel σM σC) (hl : lv_has ls 4 [(3, .int (nI i)), (1, .ref (adC 0)), (2, .ref (adM 0)), (0, .ref b)])
    (kk : ∀ (σC1 σM1 : Sg) (H1 : Heap) (locs1 : List Loc), LWs D cy adC adM s σC1 σM1 H1 locs1 → Rel σM1 σC1 → W p l e room_1 s m args below meth c H1 locs1 cells slots Q (F0 m 1718 ls [])) : W p l e room_1 s m args below meth c H locs cells slots Q (F0 m 1167 ls []) := by
  obtain ⟨r, σM1, σC1, eM, eC, R1⟩ := eq_times hR (xs (i + 1)) (xs (i + 2))
  refine lv_aload_n E.hx E.hb dL_law_1167 rfl (lv_at hl 1 rfl) ?_
  refine larg (k := 1) E h (by omega) hl rfl rfl dL_law_1168 dL_law_1169 dL_law_1170 dL_law_1171 dL_law_1172 (by decide) ?_
  refine larg (k := 2) E h (by omega) hl rfl rfl dL_law_1173 dL_law_1174 dL_law_1175 dL_law_1176 dL_law_1177 (by decide) ?_
  refine lcalC E h (va_runV (As := [.int (xs (i + 1)), .int (xs (i + 2))]) (rest := []) E.fix (c_X11_times (l := l) (D := D) (cy := cy) E.oC (xs (i + 1)) (xs (i + 2)) σC eC) (lcV E k4_234 k1_1 k4_231 k4_232 k4_233 mL_X11_times rfl rfl ⟨Nat.le_of_ble_eq_true rfl, Nat.le_of_ble_eq_true rfl⟩) (lPreC E h _) rfl rfl hl.1 rfl (lv_room (Nat.le_of_ble_eq_true rfl)) dL_law_1178 ⟨hcs.1, hcs.2⟩) (fun H locs h => ?_)
  refine lv_aload_n E.hx E.hb dL_law_1181 rfl (lv_at hl 2 rfl) ?_
  refine larg (k := 1) E h (by omega) hl rfl rfl dL_law_1182 dL_law_1183 dL_law_1184 dL_law_1185 dL_law_1186 (by decide) ?_
  refine larg (k := 2) E h (by omega) hl rfl rfl dL_law_1187 dL_law_1188 dL_law_1189 dL_law_1190 dL_law_1191 (by decide) ?_
  refine lcalM E h (va_runV (As := [.int (xs (i + 1)), .int (xs (i + 2))]) (rest := [.int r]) E.fix (c_X12_times (l := l) (D := D) (cy := cy) E.oM (xs (i + 1)) (xs (i + 2)) σM eM) (lcV E k7_191 k1_14 k7_188 k7_189 k7_190 mL_X12_times rfl rfl ⟨Nat.le_of_ble_eq_true rfl, Nat.le_of_ble_eq_true rfl⟩) (lPreM E h _) rfl rfl hl.1 rfl (lv_room (Nat.le_of_ble_eq_true rfl)) dL_law_1192 ⟨hcs.1, hcs.2⟩) (fun H locs h => ?_)
  refine lv_icmp_eq (tgt := 1718) E.hx E.hb dL_law_1195 (by decide) (fun _ => ?_) (fun ne => absurd rfl ne)
  exact kk σC1 σM1 _ _ h R1
set_option maxRecDepth 100000 in
set_option maxHeartbeats 8000000 in
/-- prove -/
theorem L_1200 {p : Program} {l : Launch} {e : Env} {s : State} {m : MethodId} {args : Array Value} {below : List Frame} {meth : Method} {c : Code} {H : Heap} {locs : List Loc} {cells slots : Nat} {Q : State → Prop} {b L : Nat} {xs : Nat → Int32} {D : va_G} {cy : Cy} {adC adM : Nat → Nat} {AC AM : Nat → Prop} {σC σM : Sg} {ls : Array Slot} (E : LWe p s m args c b L xs D cy adC adM AC AM) (hcs : cells ≤ room_1.cells ∧ slots ≤ room_1.slots) {i : Nat} (hi : i + 4 < L) (h : LWs D cy adC adM s σC σM H locs) (hR : Rel σM σC) (hl : lv_has ls 4 [(3, .int (nI i)), (1, .ref (adC 0)), (2, .ref (adM 0)), (0, .ref b)])
    (kk : ∀ (σC1 σM1 : Sg) (H1 : Heap) (locs1 : List Loc), LWs D cy adC adM s σC1 σM1 H1 locs1 → Rel σM1 σC1 → W p l e room_1 s m args below meth c H1 locs1 cells slots Q (F0 m 1718 ls [])) : W p l e room_1 s m args below meth c H locs cells slots Q (F0 m 1200 ls []) := by
  obtain ⟨r, σM1, σC1, eM, eC, R1⟩ := eq_prove hR (xs (i + 1))
  refine lv_aload_n E.hx E.hb dL_law_1200 rfl (lv_at hl 1 rfl) ?_
  refine larg (k := 1) E h (by omega) hl rfl rfl dL_law_1201 dL_law_1202 dL_law_1203 dL_law_1204 dL_law_1205 (by decide) ?_
  refine lcalC E h (va_runV (As := [.int (xs (i + 1))]) (rest := []) E.fix (c_X11_prove (l := l) (D := D) (cy := cy) E.oC (xs (i + 1)) σC eC) (lcV E k4_238 k1_1 k4_235 k4_236 k4_237 mL_X11_prove rfl rfl ⟨Nat.le_of_ble_eq_true rfl, Nat.le_of_ble_eq_true rfl⟩) (lPreC E h _) rfl rfl hl.1 rfl (lv_room (Nat.le_of_ble_eq_true rfl)) dL_law_1206 ⟨hcs.1, hcs.2⟩) (fun H locs h => ?_)
  refine lv_aload_n E.hx E.hb dL_law_1209 rfl (lv_at hl 2 rfl) ?_
  refine larg (k := 1) E h (by omega) hl rfl rfl dL_law_1210 dL_law_1211 dL_law_1212 dL_law_1213 dL_law_1214 (by decide) ?_
  refine lcalM E h (va_runV (As := [.int (xs (i + 1))]) (rest := [.int r]) E.fix (c_X12_prove (l := l) (D := D) (cy := cy) E.oM (xs (i + 1)) σM eM) (lcV E k7_197 k1_14 k7_194 k7_195 k7_196 mL_X12_prove rfl rfl ⟨Nat.le_of_ble_eq_true rfl, Nat.le_of_ble_eq_true rfl⟩) (lPreM E h _) rfl rfl hl.1 rfl (lv_room (Nat.le_of_ble_eq_true rfl)) dL_law_1215 ⟨hcs.1, hcs.2⟩) (fun H locs h => ?_)
  refine lv_icmp_eq (tgt := 1718) E.hx E.hb dL_law_1218 (by decide) (fun _ => ?_) (fun ne => absurd rfl ne)
  exact kk σC1 σM1 _ _ h R1
set_option maxRecDepth 100000 in
set_option maxHeartbeats 8000000 in
/-- row -/
theorem L_1223 {p : Program} {l : Launch} {e : Env} {s : State} {m : MethodId} {args : Array Value} {below : List Frame} {meth : Method} {c : Code} {H : Heap} {locs : List Loc} {cells slots : Nat} {Q : State → Prop} {b L : Nat} {xs : Nat → Int32} {D : va_G} {cy : Cy} {adC adM : Nat → Nat} {AC AM : Nat → Prop} {σC σM : Sg} {ls : Array Slot} (E : LWe p s m args c b L xs D cy adC adM AC AM) (hcs : cells ≤ room_1.cells ∧ slots ≤ room_1.slots) {i : Nat} (hi : i + 4 < L) (h : LWs D cy adC adM s σC σM H locs) (hR : Rel σM σC) (hl : lv_has ls 4 [(3, .int (nI i)), (1, .ref (adC 0)), (2, .ref (adM 0)), (0, .ref b)])
    (kk : ∀ (σC1 σM1 : Sg) (H1 : Heap) (locs1 : List Loc), LWs D cy adC adM s σC1 σM1 H1 locs1 → Rel σM1 σC1 → W p l e room_1 s m args below meth c H1 locs1 cells slots Q (F0 m 1718 ls [])) : W p l e room_1 s m args below meth c H locs cells slots Q (F0 m 1223 ls []) := by
  obtain ⟨r, eM, eC⟩ := eq_row hR (xs (i + 1)) (xs (i + 2))
  refine lv_aload_n E.hx E.hb dL_law_1223 rfl (lv_at hl 1 rfl) ?_
  refine larg (k := 1) E h (by omega) hl rfl rfl dL_law_1224 dL_law_1225 dL_law_1226 dL_law_1227 dL_law_1228 (by decide) ?_
  refine larg (k := 2) E h (by omega) hl rfl rfl dL_law_1229 dL_law_1230 dL_law_1231 dL_law_1232 dL_law_1233 (by decide) ?_
  refine lcalC E h (va_runV (As := [.int (xs (i + 1)), .int (xs (i + 2))]) (rest := []) E.fix (c_X11_row (l := l) (D := D) (cy := cy) E.oC (xs (i + 1)) (xs (i + 2)) σC eC) (lcV E k5_2 k1_1 k4_239 k5_0 k5_1 mL_X11_row rfl rfl ⟨Nat.le_of_ble_eq_true rfl, Nat.le_of_ble_eq_true rfl⟩) (lPreC E h _) rfl rfl hl.1 rfl (lv_room (Nat.le_of_ble_eq_true rfl)) dL_law_1234 ⟨hcs.1, hcs.2⟩) (fun H locs h => ?_)
  refine lv_aload_n E.hx E.hb dL_law_1237 rfl (lv_at hl 2 rfl) ?_
  refine larg (k := 1) E h (by omega) hl rfl rfl dL_law_1238 dL_law_1239 dL_law_1240 dL_law_1241 dL_law_1242 (by decide) ?_
  refine larg (k := 2) E h (by omega) hl rfl rfl dL_law_1243 dL_law_1244 dL_law_1245 dL_law_1246 dL_law_1247 (by decide) ?_
  refine lcalM E h (va_runV (As := [.int (xs (i + 1)), .int (xs (i + 2))]) (rest := [.int r]) E.fix (c_X12_row (l := l) (D := D) (cy := cy) E.oM (xs (i + 1)) (xs (i + 2)) σM eM) (lcV E k7_201 k1_14 k7_198 k7_199 k7_200 mL_X12_row rfl rfl ⟨Nat.le_of_ble_eq_true rfl, Nat.le_of_ble_eq_true rfl⟩) (lPreM E h _) rfl rfl hl.1 rfl (lv_room (Nat.le_of_ble_eq_true rfl)) dL_law_1248 ⟨hcs.1, hcs.2⟩) (fun H locs h => ?_)
  refine lv_icmp_eq (tgt := 1718) E.hx E.hb dL_law_1251 (by decide) (fun _ => ?_) (fun ne => absurd rfl ne)
  exact kk σC σM _ _ h hR
set_option maxRecDepth 100000 in
set_option maxHeartbeats 8000000 in
/-- alterRow -/
theorem L_1256 {p : Program} {l : Launch} {e : Env} {s : State} {m : MethodId} {args : Array Value} {below : List Frame} {meth : Method} {c : Code} {H : Heap} {locs : List Loc} {cells slots : Nat} {Q : State → Prop} {b L : Nat} {xs : Nat → Int32} {D : va_G} {cy : Cy} {adC adM : Nat → Nat} {AC AM : Nat → Prop} {σC σM : Sg} {ls : Array Slot} (E : LWe p s m args c b L xs D cy adC adM AC AM) (hcs : cells ≤ room_1.cells ∧ slots ≤ room_1.slots) {i : Nat} (hi : i + 4 < L) (h : LWs D cy adC adM s σC σM H locs) (hR : Rel σM σC) (hl : lv_has ls 4 [(3, .int (nI i)), (1, .ref (adC 0)), (2, .ref (adM 0)), (0, .ref b)])
    (kk : ∀ (σC1 σM1 : Sg) (H1 : Heap) (locs1 : List Loc), LWs D cy adC adM s σC1 σM1 H1 locs1 → Rel σM1 σC1 → W p l e room_1 s m args below meth c H1 locs1 cells slots Q (F0 m 1718 ls [])) : W p l e room_1 s m args below meth c H locs cells slots Q (F0 m 1256 ls []) := by
  obtain ⟨r, σM1, σC1, eM, eC, R1⟩ := eq_alterRow hR (xs (i + 1)) (xs (i + 2)) (xs (i + 3))
  refine lv_aload_n E.hx E.hb dL_law_1256 rfl (lv_at hl 1 rfl) ?_
  refine larg (k := 1) E h (by omega) hl rfl rfl dL_law_1257 dL_law_1258 dL_law_1259 dL_law_1260 dL_law_1261 (by decide) ?_
  refine larg (k := 2) E h (by omega) hl rfl rfl dL_law_1262 dL_law_1263 dL_law_1264 dL_law_1265 dL_law_1266 (by decide) ?_
  refine larg (k := 3) E h (by omega) hl rfl rfl dL_law_1267 dL_law_1268 dL_law_1269 dL_law_1270 dL_law_1271 (by decide) ?_
  refine lcalC E h (va_runV (As := [.int (xs (i + 1)), .int (xs (i + 2)), .int (xs (i + 3))]) (rest := []) E.fix (c_X11_alterRow (l := l) (D := D) (cy := cy) E.oC (xs (i + 1)) (xs (i + 2)) (xs (i + 3)) σC eC) (lcV E k5_10 k1_1 k5_7 k5_8 k5_9 mL_X11_alterRow rfl rfl ⟨Nat.le_of_ble_eq_true rfl, Nat.le_of_ble_eq_true rfl⟩) (lPreC E h _) rfl rfl hl.1 rfl (lv_room (Nat.le_of_ble_eq_true rfl)) dL_law_1272 ⟨hcs.1, hcs.2⟩) (fun H locs h => ?_)
  refine lv_aload_n E.hx E.hb dL_law_1275 rfl (lv_at hl 2 rfl) ?_
  refine larg (k := 1) E h (by omega) hl rfl rfl dL_law_1276 dL_law_1277 dL_law_1278 dL_law_1279 dL_law_1280 (by decide) ?_
  refine larg (k := 2) E h (by omega) hl rfl rfl dL_law_1281 dL_law_1282 dL_law_1283 dL_law_1284 dL_law_1285 (by decide) ?_
  refine larg (k := 3) E h (by omega) hl rfl rfl dL_law_1286 dL_law_1287 dL_law_1288 dL_law_1289 dL_law_1290 (by decide) ?_
  refine lcalM E h (va_runV (As := [.int (xs (i + 1)), .int (xs (i + 2)), .int (xs (i + 3))]) (rest := [.int r]) E.fix (c_X12_alterRow (l := l) (D := D) (cy := cy) E.oM (xs (i + 1)) (xs (i + 2)) (xs (i + 3)) σM eM) (lcV E k7_209 k1_14 k7_206 k7_207 k7_208 mL_X12_alterRow rfl rfl ⟨Nat.le_of_ble_eq_true rfl, Nat.le_of_ble_eq_true rfl⟩) (lPreM E h _) rfl rfl hl.1 rfl (lv_room (Nat.le_of_ble_eq_true rfl)) dL_law_1291 ⟨hcs.1, hcs.2⟩) (fun H locs h => ?_)
  refine lv_icmp_eq (tgt := 1718) E.hx E.hb dL_law_1294 (by decide) (fun _ => ?_) (fun ne => absurd rfl ne)
  exact kk σC1 σM1 _ _ h R1
set_option maxRecDepth 100000 in
set_option maxHeartbeats 8000000 in
/-- judge -/
theorem L_1299 {p : Program} {l : Launch} {e : Env} {s : State} {m : MethodId} {args : Array Value} {below : List Frame} {meth : Method} {c : Code} {H : Heap} {locs : List Loc} {cells slots : Nat} {Q : State → Prop} {b L : Nat} {xs : Nat → Int32} {D : va_G} {cy : Cy} {adC adM : Nat → Nat} {AC AM : Nat → Prop} {σC σM : Sg} {ls : Array Slot} (E : LWe p s m args c b L xs D cy adC adM AC AM) (hcs : cells ≤ room_1.cells ∧ slots ≤ room_1.slots) {i : Nat} (hi : i + 4 < L) (h : LWs D cy adC adM s σC σM H locs) (hR : Rel σM σC) (hl : lv_has ls 4 [(3, .int (nI i)), (1, .ref (adC 0)), (2, .ref (adM 0)), (0, .ref b)])
    (kk : ∀ (σC1 σM1 : Sg) (H1 : Heap) (locs1 : List Loc), LWs D cy adC adM s σC1 σM1 H1 locs1 → Rel σM1 σC1 → W p l e room_1 s m args below meth c H1 locs1 cells slots Q (F0 m 1718 ls [])) : W p l e room_1 s m args below meth c H locs cells slots Q (F0 m 1299 ls []) := by
  obtain ⟨r, σM1, σC1, eM, eC, R1⟩ := eq_judge hR
  refine lv_aload_n E.hx E.hb dL_law_1299 rfl (lv_at hl 1 rfl) ?_
  refine lcalC E h (va_runV (As := []) (rest := []) E.fix (c_X11_judge (l := l) (D := D) (cy := cy) E.oC σC eC) (lcV E k5_14 k1_1 k5_11 k5_12 k5_13 mL_X11_judge rfl rfl ⟨Nat.le_of_ble_eq_true rfl, Nat.le_of_ble_eq_true rfl⟩) (lPreC E h _) rfl rfl hl.1 rfl (lv_room (Nat.le_of_ble_eq_true rfl)) dL_law_1300 ⟨hcs.1, hcs.2⟩) (fun H locs h => ?_)
  refine lv_aload_n E.hx E.hb dL_law_1303 rfl (lv_at hl 2 rfl) ?_
  refine lcalM E h (va_runV (As := []) (rest := [.int r]) E.fix (c_X12_judge (l := l) (D := D) (cy := cy) E.oM σM eM) (lcV E k7_213 k1_14 k7_210 k7_211 k7_212 mL_X12_judge rfl rfl ⟨Nat.le_of_ble_eq_true rfl, Nat.le_of_ble_eq_true rfl⟩) (lPreM E h _) rfl rfl hl.1 rfl (lv_room (Nat.le_of_ble_eq_true rfl)) dL_law_1304 ⟨hcs.1, hcs.2⟩) (fun H locs h => ?_)
  refine lv_icmp_eq (tgt := 1718) E.hx E.hb dL_law_1307 (by decide) (fun _ => ?_) (fun ne => absurd rfl ne)
  exact kk σC1 σM1 _ _ h R1
set_option maxRecDepth 100000 in
set_option maxHeartbeats 8000000 in
/-- sheet -/
theorem L_1312 {p : Program} {l : Launch} {e : Env} {s : State} {m : MethodId} {args : Array Value} {below : List Frame} {meth : Method} {c : Code} {H : Heap} {locs : List Loc} {cells slots : Nat} {Q : State → Prop} {b L : Nat} {xs : Nat → Int32} {D : va_G} {cy : Cy} {adC adM : Nat → Nat} {AC AM : Nat → Prop} {σC σM : Sg} {ls : Array Slot} (E : LWe p s m args c b L xs D cy adC adM AC AM) (hcs : cells ≤ room_1.cells ∧ slots ≤ room_1.slots) {i : Nat} (hi : i + 4 < L) (h : LWs D cy adC adM s σC σM H locs) (hR : Rel σM σC) (hl : lv_has ls 4 [(3, .int (nI i)), (1, .ref (adC 0)), (2, .ref (adM 0)), (0, .ref b)])
    (kk : ∀ (σC1 σM1 : Sg) (H1 : Heap) (locs1 : List Loc), LWs D cy adC adM s σC1 σM1 H1 locs1 → Rel σM1 σC1 → W p l e room_1 s m args below meth c H1 locs1 cells slots Q (F0 m 1718 ls [])) : W p l e room_1 s m args below meth c H locs cells slots Q (F0 m 1312 ls []) := by
  obtain ⟨r, σM1, σC1, eM, eC, R1⟩ := eq_sheet hR (xs (i + 1)) (xs (i + 2)) (xs (i + 3))
  refine lv_aload_n E.hx E.hb dL_law_1312 rfl (lv_at hl 1 rfl) ?_
  refine larg (k := 1) E h (by omega) hl rfl rfl dL_law_1313 dL_law_1314 dL_law_1315 dL_law_1316 dL_law_1317 (by decide) ?_
  refine larg (k := 2) E h (by omega) hl rfl rfl dL_law_1318 dL_law_1319 dL_law_1320 dL_law_1321 dL_law_1322 (by decide) ?_
  refine larg (k := 3) E h (by omega) hl rfl rfl dL_law_1323 dL_law_1324 dL_law_1325 dL_law_1326 dL_law_1327 (by decide) ?_
  refine lcalC E h (va_runV (As := [.int (xs (i + 1)), .int (xs (i + 2)), .int (xs (i + 3))]) (rest := []) E.fix (c_X11_sheet (l := l) (D := D) (cy := cy) E.oC (xs (i + 1)) (xs (i + 2)) (xs (i + 3)) σC eC) (lcV E k5_22 k1_1 k5_19 k5_20 k5_21 mL_X11_sheet rfl rfl ⟨Nat.le_of_ble_eq_true rfl, Nat.le_of_ble_eq_true rfl⟩) (lPreC E h _) rfl rfl hl.1 rfl (lv_room (Nat.le_of_ble_eq_true rfl)) dL_law_1328 ⟨hcs.1, hcs.2⟩) (fun H locs h => ?_)
  refine lv_aload_n E.hx E.hb dL_law_1331 rfl (lv_at hl 2 rfl) ?_
  refine larg (k := 1) E h (by omega) hl rfl rfl dL_law_1332 dL_law_1333 dL_law_1334 dL_law_1335 dL_law_1336 (by decide) ?_
  refine larg (k := 2) E h (by omega) hl rfl rfl dL_law_1337 dL_law_1338 dL_law_1339 dL_law_1340 dL_law_1341 (by decide) ?_
  refine larg (k := 3) E h (by omega) hl rfl rfl dL_law_1342 dL_law_1343 dL_law_1344 dL_law_1345 dL_law_1346 (by decide) ?_
  refine lcalM E h (va_runV (As := [.int (xs (i + 1)), .int (xs (i + 2)), .int (xs (i + 3))]) (rest := [.int r]) E.fix (c_X12_sheet (l := l) (D := D) (cy := cy) E.oM (xs (i + 1)) (xs (i + 2)) (xs (i + 3)) σM eM) (lcV E k8_77 k1_14 k8_74 k8_75 k8_76 mL_X12_sheet rfl rfl ⟨Nat.le_of_ble_eq_true rfl, Nat.le_of_ble_eq_true rfl⟩) (lPreM E h _) rfl rfl hl.1 rfl (lv_room (Nat.le_of_ble_eq_true rfl)) dL_law_1347 ⟨hcs.1, hcs.2⟩) (fun H locs h => ?_)
  refine lv_icmp_eq (tgt := 1718) E.hx E.hb dL_law_1350 (by decide) (fun _ => ?_) (fun ne => absurd rfl ne)
  exact kk σC1 σM1 _ _ h R1
set_option maxRecDepth 100000 in
set_option maxHeartbeats 8000000 in
/-- write -/
theorem L_1355 {p : Program} {l : Launch} {e : Env} {s : State} {m : MethodId} {args : Array Value} {below : List Frame} {meth : Method} {c : Code} {H : Heap} {locs : List Loc} {cells slots : Nat} {Q : State → Prop} {b L : Nat} {xs : Nat → Int32} {D : va_G} {cy : Cy} {adC adM : Nat → Nat} {AC AM : Nat → Prop} {σC σM : Sg} {ls : Array Slot} (E : LWe p s m args c b L xs D cy adC adM AC AM) (hcs : cells ≤ room_1.cells ∧ slots ≤ room_1.slots) {i : Nat} (hi : i + 4 < L) (h : LWs D cy adC adM s σC σM H locs) (hR : Rel σM σC) (hl : lv_has ls 4 [(3, .int (nI i)), (1, .ref (adC 0)), (2, .ref (adM 0)), (0, .ref b)])
    (kk : ∀ (σC1 σM1 : Sg) (H1 : Heap) (locs1 : List Loc), LWs D cy adC adM s σC1 σM1 H1 locs1 → Rel σM1 σC1 → W p l e room_1 s m args below meth c H1 locs1 cells slots Q (F0 m 1718 ls [])) : W p l e room_1 s m args below meth c H locs cells slots Q (F0 m 1355 ls []) := by
  obtain ⟨r, σM1, σC1, eM, eC, R1⟩ := eq_write hR (xs (i + 1)) (xs (i + 2)) (xs (i + 3))
  refine lv_aload_n E.hx E.hb dL_law_1355 rfl (lv_at hl 1 rfl) ?_
  refine larg (k := 1) E h (by omega) hl rfl rfl dL_law_1356 dL_law_1357 dL_law_1358 dL_law_1359 dL_law_1360 (by decide) ?_
  refine larg (k := 2) E h (by omega) hl rfl rfl dL_law_1361 dL_law_1362 dL_law_1363 dL_law_1364 dL_law_1365 (by decide) ?_
  refine larg (k := 3) E h (by omega) hl rfl rfl dL_law_1366 dL_law_1367 dL_law_1368 dL_law_1369 dL_law_1370 (by decide) ?_
  refine lcalC E h (va_runV (As := [.int (xs (i + 1)), .int (xs (i + 2)), .int (xs (i + 3))]) (rest := []) E.fix (c_X11_write (l := l) (D := D) (cy := cy) E.oC (xs (i + 1)) (xs (i + 2)) (xs (i + 3)) σC eC) (lcV E k5_32 k1_1 k5_29 k5_30 k5_31 mL_X11_write rfl rfl ⟨Nat.le_of_ble_eq_true rfl, Nat.le_of_ble_eq_true rfl⟩) (lPreC E h _) rfl rfl hl.1 rfl (lv_room (Nat.le_of_ble_eq_true rfl)) dL_law_1371 ⟨hcs.1, hcs.2⟩) (fun H locs h => ?_)
  refine lv_aload_n E.hx E.hb dL_law_1374 rfl (lv_at hl 2 rfl) ?_
  refine larg (k := 1) E h (by omega) hl rfl rfl dL_law_1375 dL_law_1376 dL_law_1377 dL_law_1378 dL_law_1379 (by decide) ?_
  refine larg (k := 2) E h (by omega) hl rfl rfl dL_law_1380 dL_law_1381 dL_law_1382 dL_law_1383 dL_law_1384 (by decide) ?_
  refine larg (k := 3) E h (by omega) hl rfl rfl dL_law_1385 dL_law_1386 dL_law_1387 dL_law_1388 dL_law_1389 (by decide) ?_
  refine lcalM E h (va_runV (As := [.int (xs (i + 1)), .int (xs (i + 2)), .int (xs (i + 3))]) (rest := [.int r]) E.fix (c_X12_write (l := l) (D := D) (cy := cy) E.oM (xs (i + 1)) (xs (i + 2)) (xs (i + 3)) σM eM) (lcV E k8_85 k1_14 k8_82 k8_83 k8_84 mL_X12_write rfl rfl ⟨Nat.le_of_ble_eq_true rfl, Nat.le_of_ble_eq_true rfl⟩) (lPreM E h _) rfl rfl hl.1 rfl (lv_room (Nat.le_of_ble_eq_true rfl)) dL_law_1390 ⟨hcs.1, hcs.2⟩) (fun H locs h => ?_)
  refine lv_icmp_eq (tgt := 1718) E.hx E.hb dL_law_1393 (by decide) (fun _ => ?_) (fun ne => absurd rfl ne)
  exact kk σC1 σM1 _ _ h R1
set_option maxRecDepth 100000 in
set_option maxHeartbeats 8000000 in
/-- item -/
theorem L_1398 {p : Program} {l : Launch} {e : Env} {s : State} {m : MethodId} {args : Array Value} {below : List Frame} {meth : Method} {c : Code} {H : Heap} {locs : List Loc} {cells slots : Nat} {Q : State → Prop} {b L : Nat} {xs : Nat → Int32} {D : va_G} {cy : Cy} {adC adM : Nat → Nat} {AC AM : Nat → Prop} {σC σM : Sg} {ls : Array Slot} (E : LWe p s m args c b L xs D cy adC adM AC AM) (hcs : cells ≤ room_1.cells ∧ slots ≤ room_1.slots) {i : Nat} (hi : i + 4 < L) (h : LWs D cy adC adM s σC σM H locs) (hR : Rel σM σC) (hl : lv_has ls 4 [(3, .int (nI i)), (1, .ref (adC 0)), (2, .ref (adM 0)), (0, .ref b)])
    (kk : ∀ (σC1 σM1 : Sg) (H1 : Heap) (locs1 : List Loc), LWs D cy adC adM s σC1 σM1 H1 locs1 → Rel σM1 σC1 → W p l e room_1 s m args below meth c H1 locs1 cells slots Q (F0 m 1718 ls [])) : W p l e room_1 s m args below meth c H locs cells slots Q (F0 m 1398 ls []) := by
  obtain ⟨r, eM, eC⟩ := eq_item hR (xs (i + 1)) (xs (i + 2)) (xs (i + 3))
  refine lv_aload_n E.hx E.hb dL_law_1398 rfl (lv_at hl 1 rfl) ?_
  refine larg (k := 1) E h (by omega) hl rfl rfl dL_law_1399 dL_law_1400 dL_law_1401 dL_law_1402 dL_law_1403 (by decide) ?_
  refine larg (k := 2) E h (by omega) hl rfl rfl dL_law_1404 dL_law_1405 dL_law_1406 dL_law_1407 dL_law_1408 (by decide) ?_
  refine larg (k := 3) E h (by omega) hl rfl rfl dL_law_1409 dL_law_1410 dL_law_1411 dL_law_1412 dL_law_1413 (by decide) ?_
  refine lcalC E h (va_runV (As := [.int (xs (i + 1)), .int (xs (i + 2)), .int (xs (i + 3))]) (rest := []) E.fix (c_X11_item (l := l) (D := D) (cy := cy) E.oC (xs (i + 1)) (xs (i + 2)) (xs (i + 3)) σC eC) (lcV E k5_39 k1_1 k5_36 k5_37 k5_38 mL_X11_item rfl rfl ⟨Nat.le_of_ble_eq_true rfl, Nat.le_of_ble_eq_true rfl⟩) (lPreC E h _) rfl rfl hl.1 rfl (lv_room (Nat.le_of_ble_eq_true rfl)) dL_law_1414 ⟨hcs.1, hcs.2⟩) (fun H locs h => ?_)
  refine lv_aload_n E.hx E.hb dL_law_1417 rfl (lv_at hl 2 rfl) ?_
  refine larg (k := 1) E h (by omega) hl rfl rfl dL_law_1418 dL_law_1419 dL_law_1420 dL_law_1421 dL_law_1422 (by decide) ?_
  refine larg (k := 2) E h (by omega) hl rfl rfl dL_law_1423 dL_law_1424 dL_law_1425 dL_law_1426 dL_law_1427 (by decide) ?_
  refine larg (k := 3) E h (by omega) hl rfl rfl dL_law_1428 dL_law_1429 dL_law_1430 dL_law_1431 dL_law_1432 (by decide) ?_
  refine lcalM E h (va_runV (As := [.int (xs (i + 1)), .int (xs (i + 2)), .int (xs (i + 3))]) (rest := [.int r]) E.fix (c_X12_item (l := l) (D := D) (cy := cy) E.oM (xs (i + 1)) (xs (i + 2)) (xs (i + 3)) σM eM) (lcV E k8_92 k1_14 k8_89 k8_90 k8_91 mL_X12_item rfl rfl ⟨Nat.le_of_ble_eq_true rfl, Nat.le_of_ble_eq_true rfl⟩) (lPreM E h _) rfl rfl hl.1 rfl (lv_room (Nat.le_of_ble_eq_true rfl)) dL_law_1433 ⟨hcs.1, hcs.2⟩) (fun H locs h => ?_)
  refine lv_icmp_eq (tgt := 1718) E.hx E.hb dL_law_1436 (by decide) (fun _ => ?_) (fun ne => absurd rfl ne)
  exact kk σC σM _ _ h hR
set_option maxRecDepth 100000 in
set_option maxHeartbeats 8000000 in
/-- goAll -/
theorem L_1441 {p : Program} {l : Launch} {e : Env} {s : State} {m : MethodId} {args : Array Value} {below : List Frame} {meth : Method} {c : Code} {H : Heap} {locs : List Loc} {cells slots : Nat} {Q : State → Prop} {b L : Nat} {xs : Nat → Int32} {D : va_G} {cy : Cy} {adC adM : Nat → Nat} {AC AM : Nat → Prop} {σC σM : Sg} {ls : Array Slot} (E : LWe p s m args c b L xs D cy adC adM AC AM) (hcs : cells ≤ room_1.cells ∧ slots ≤ room_1.slots) {i : Nat} (hi : i + 4 < L) (h : LWs D cy adC adM s σC σM H locs) (hR : Rel σM σC) (hl : lv_has ls 4 [(3, .int (nI i)), (1, .ref (adC 0)), (2, .ref (adM 0)), (0, .ref b)])
    (kk : ∀ (σC1 σM1 : Sg) (H1 : Heap) (locs1 : List Loc), LWs D cy adC adM s σC1 σM1 H1 locs1 → Rel σM1 σC1 → W p l e room_1 s m args below meth c H1 locs1 cells slots Q (F0 m 1718 ls [])) : W p l e room_1 s m args below meth c H locs cells slots Q (F0 m 1441 ls []) := by
  obtain ⟨r, σM1, σC1, eM, eC, R1⟩ := eq_goAll hR (xs (i + 1)) (xs (i + 2)) (xs (i + 3))
  refine lv_aload_n E.hx E.hb dL_law_1441 rfl (lv_at hl 1 rfl) ?_
  refine larg (k := 1) E h (by omega) hl rfl rfl dL_law_1442 dL_law_1443 dL_law_1444 dL_law_1445 dL_law_1446 (by decide) ?_
  refine larg (k := 2) E h (by omega) hl rfl rfl dL_law_1447 dL_law_1448 dL_law_1449 dL_law_1450 dL_law_1451 (by decide) ?_
  refine larg (k := 3) E h (by omega) hl rfl rfl dL_law_1452 dL_law_1453 dL_law_1454 dL_law_1455 dL_law_1456 (by decide) ?_
  refine lcalC E h (va_runV (As := [.int (xs (i + 1)), .int (xs (i + 2)), .int (xs (i + 3))]) (rest := []) E.fix (c_X11_goAll (l := l) (D := D) (cy := cy) E.oC (xs (i + 1)) (xs (i + 2)) (xs (i + 3)) σC eC) (lcV E k5_47 k1_1 k5_44 k5_45 k5_46 mL_X11_goAll rfl rfl ⟨Nat.le_of_ble_eq_true rfl, Nat.le_of_ble_eq_true rfl⟩) (lPreC E h _) rfl rfl hl.1 rfl (lv_room (Nat.le_of_ble_eq_true rfl)) dL_law_1457 ⟨hcs.1, hcs.2⟩) (fun H locs h => ?_)
  refine lv_aload_n E.hx E.hb dL_law_1460 rfl (lv_at hl 2 rfl) ?_
  refine larg (k := 1) E h (by omega) hl rfl rfl dL_law_1461 dL_law_1462 dL_law_1463 dL_law_1464 dL_law_1465 (by decide) ?_
  refine larg (k := 2) E h (by omega) hl rfl rfl dL_law_1466 dL_law_1467 dL_law_1468 dL_law_1469 dL_law_1470 (by decide) ?_
  refine larg (k := 3) E h (by omega) hl rfl rfl dL_law_1471 dL_law_1472 dL_law_1473 dL_law_1474 dL_law_1475 (by decide) ?_
  refine lcalM E h (va_runV (As := [.int (xs (i + 1)), .int (xs (i + 2)), .int (xs (i + 3))]) (rest := [.int r]) E.fix (c_X12_goAll (l := l) (D := D) (cy := cy) E.oM (xs (i + 1)) (xs (i + 2)) (xs (i + 3)) σM eM) (lcV E k8_100 k1_14 k8_97 k8_98 k8_99 mL_X12_goAll rfl rfl ⟨Nat.le_of_ble_eq_true rfl, Nat.le_of_ble_eq_true rfl⟩) (lPreM E h _) rfl rfl hl.1 rfl (lv_room (Nat.le_of_ble_eq_true rfl)) dL_law_1476 ⟨hcs.1, hcs.2⟩) (fun H locs h => ?_)
  refine lv_icmp_eq (tgt := 1718) E.hx E.hb dL_law_1479 (by decide) (fun _ => ?_) (fun ne => absurd rfl ne)
  exact kk σC1 σM1 _ _ h R1
set_option maxRecDepth 100000 in
set_option maxHeartbeats 8000000 in
/-- wouldBe -/
theorem L_1484 {p : Program} {l : Launch} {e : Env} {s : State} {m : MethodId} {args : Array Value} {below : List Frame} {meth : Method} {c : Code} {H : Heap} {locs : List Loc} {cells slots : Nat} {Q : State → Prop} {b L : Nat} {xs : Nat → Int32} {D : va_G} {cy : Cy} {adC adM : Nat → Nat} {AC AM : Nat → Prop} {σC σM : Sg} {ls : Array Slot} (E : LWe p s m args c b L xs D cy adC adM AC AM) (hcs : cells ≤ room_1.cells ∧ slots ≤ room_1.slots) {i : Nat} (hi : i + 4 < L) (h : LWs D cy adC adM s σC σM H locs) (hR : Rel σM σC) (hl : lv_has ls 4 [(3, .int (nI i)), (1, .ref (adC 0)), (2, .ref (adM 0)), (0, .ref b)])
    (kk : ∀ (σC1 σM1 : Sg) (H1 : Heap) (locs1 : List Loc), LWs D cy adC adM s σC1 σM1 H1 locs1 → Rel σM1 σC1 → W p l e room_1 s m args below meth c H1 locs1 cells slots Q (F0 m 1718 ls [])) : W p l e room_1 s m args below meth c H locs cells slots Q (F0 m 1484 ls []) := by
  obtain ⟨r, σM1, σC1, eM, eC, R1⟩ := eq_wouldBe hR (xs (i + 1)) (xs (i + 2)) (xs (i + 3))
  refine lv_aload_n E.hx E.hb dL_law_1484 rfl (lv_at hl 1 rfl) ?_
  refine larg (k := 1) E h (by omega) hl rfl rfl dL_law_1485 dL_law_1486 dL_law_1487 dL_law_1488 dL_law_1489 (by decide) ?_
  refine larg (k := 2) E h (by omega) hl rfl rfl dL_law_1490 dL_law_1491 dL_law_1492 dL_law_1493 dL_law_1494 (by decide) ?_
  refine larg (k := 3) E h (by omega) hl rfl rfl dL_law_1495 dL_law_1496 dL_law_1497 dL_law_1498 dL_law_1499 (by decide) ?_
  refine lcalC E h (va_runV (As := [.int (xs (i + 1)), .int (xs (i + 2)), .int (xs (i + 3))]) (rest := []) E.fix (c_X11_wouldBe (l := l) (D := D) (cy := cy) E.oC (xs (i + 1)) (xs (i + 2)) (xs (i + 3)) σC eC) (lcV E k5_51 k1_1 k5_48 k5_49 k5_50 mL_X11_wouldBe rfl rfl ⟨Nat.le_of_ble_eq_true rfl, Nat.le_of_ble_eq_true rfl⟩) (lPreC E h _) rfl rfl hl.1 rfl (lv_room (Nat.le_of_ble_eq_true rfl)) dL_law_1500 ⟨hcs.1, hcs.2⟩) (fun H locs h => ?_)
  refine lv_aload_n E.hx E.hb dL_law_1503 rfl (lv_at hl 2 rfl) ?_
  refine larg (k := 1) E h (by omega) hl rfl rfl dL_law_1504 dL_law_1505 dL_law_1506 dL_law_1507 dL_law_1508 (by decide) ?_
  refine larg (k := 2) E h (by omega) hl rfl rfl dL_law_1509 dL_law_1510 dL_law_1511 dL_law_1512 dL_law_1513 (by decide) ?_
  refine larg (k := 3) E h (by omega) hl rfl rfl dL_law_1514 dL_law_1515 dL_law_1516 dL_law_1517 dL_law_1518 (by decide) ?_
  refine lcalM E h (va_runV (As := [.int (xs (i + 1)), .int (xs (i + 2)), .int (xs (i + 3))]) (rest := [.int r]) E.fix (c_X12_wouldBe (l := l) (D := D) (cy := cy) E.oM (xs (i + 1)) (xs (i + 2)) (xs (i + 3)) σM eM) (lcV E k8_113 k1_14 k8_110 k8_111 k8_112 mL_X12_wouldBe rfl rfl ⟨Nat.le_of_ble_eq_true rfl, Nat.le_of_ble_eq_true rfl⟩) (lPreM E h _) rfl rfl hl.1 rfl (lv_room (Nat.le_of_ble_eq_true rfl)) dL_law_1519 ⟨hcs.1, hcs.2⟩) (fun H locs h => ?_)
  refine lv_icmp_eq (tgt := 1718) E.hx E.hb dL_law_1522 (by decide) (fun _ => ?_) (fun ne => absurd rfl ne)
  exact kk σC1 σM1 _ _ h R1
set_option maxRecDepth 100000 in
set_option maxHeartbeats 8000000 in
/-- shelf -/
theorem L_1527 {p : Program} {l : Launch} {e : Env} {s : State} {m : MethodId} {args : Array Value} {below : List Frame} {meth : Method} {c : Code} {H : Heap} {locs : List Loc} {cells slots : Nat} {Q : State → Prop} {b L : Nat} {xs : Nat → Int32} {D : va_G} {cy : Cy} {adC adM : Nat → Nat} {AC AM : Nat → Prop} {σC σM : Sg} {ls : Array Slot} (E : LWe p s m args c b L xs D cy adC adM AC AM) (hcs : cells ≤ room_1.cells ∧ slots ≤ room_1.slots) {i : Nat} (hi : i + 4 < L) (h : LWs D cy adC adM s σC σM H locs) (hR : Rel σM σC) (hl : lv_has ls 4 [(3, .int (nI i)), (1, .ref (adC 0)), (2, .ref (adM 0)), (0, .ref b)])
    (kk : ∀ (σC1 σM1 : Sg) (H1 : Heap) (locs1 : List Loc), LWs D cy adC adM s σC1 σM1 H1 locs1 → Rel σM1 σC1 → W p l e room_1 s m args below meth c H1 locs1 cells slots Q (F0 m 1718 ls [])) : W p l e room_1 s m args below meth c H locs cells slots Q (F0 m 1527 ls []) := by
  obtain ⟨r, σM1, σC1, eM, eC, R1⟩ := eq_shelf hR (xs (i + 1)) (xs (i + 2)) (xs (i + 3))
  refine lv_aload_n E.hx E.hb dL_law_1527 rfl (lv_at hl 1 rfl) ?_
  refine larg (k := 1) E h (by omega) hl rfl rfl dL_law_1528 dL_law_1529 dL_law_1530 dL_law_1531 dL_law_1532 (by decide) ?_
  refine larg (k := 2) E h (by omega) hl rfl rfl dL_law_1533 dL_law_1534 dL_law_1535 dL_law_1536 dL_law_1537 (by decide) ?_
  refine larg (k := 3) E h (by omega) hl rfl rfl dL_law_1538 dL_law_1539 dL_law_1540 dL_law_1541 dL_law_1542 (by decide) ?_
  refine lcalC E h (va_runV (As := [.int (xs (i + 1)), .int (xs (i + 2)), .int (xs (i + 3))]) (rest := []) E.fix (c_X11_shelf (l := l) (D := D) (cy := cy) E.oC (xs (i + 1)) (xs (i + 2)) (xs (i + 3)) σC eC) (lcV E k5_55 k1_1 k5_52 k5_53 k5_54 mL_X11_shelf rfl rfl ⟨Nat.le_of_ble_eq_true rfl, Nat.le_of_ble_eq_true rfl⟩) (lPreC E h _) rfl rfl hl.1 rfl (lv_room (Nat.le_of_ble_eq_true rfl)) dL_law_1543 ⟨hcs.1, hcs.2⟩) (fun H locs h => ?_)
  refine lv_aload_n E.hx E.hb dL_law_1546 rfl (lv_at hl 2 rfl) ?_
  refine larg (k := 1) E h (by omega) hl rfl rfl dL_law_1547 dL_law_1548 dL_law_1549 dL_law_1550 dL_law_1551 (by decide) ?_
  refine larg (k := 2) E h (by omega) hl rfl rfl dL_law_1552 dL_law_1553 dL_law_1554 dL_law_1555 dL_law_1556 (by decide) ?_
  refine larg (k := 3) E h (by omega) hl rfl rfl dL_law_1557 dL_law_1558 dL_law_1559 dL_law_1560 dL_law_1561 (by decide) ?_
  refine lcalM E h (va_runV (As := [.int (xs (i + 1)), .int (xs (i + 2)), .int (xs (i + 3))]) (rest := [.int r]) E.fix (c_X12_shelf (l := l) (D := D) (cy := cy) E.oM (xs (i + 1)) (xs (i + 2)) (xs (i + 3)) σM eM) (lcV E k8_117 k1_14 k8_114 k8_115 k8_116 mL_X12_shelf rfl rfl ⟨Nat.le_of_ble_eq_true rfl, Nat.le_of_ble_eq_true rfl⟩) (lPreM E h _) rfl rfl hl.1 rfl (lv_room (Nat.le_of_ble_eq_true rfl)) dL_law_1562 ⟨hcs.1, hcs.2⟩) (fun H locs h => ?_)
  refine lv_icmp_eq (tgt := 1718) E.hx E.hb dL_law_1565 (by decide) (fun _ => ?_) (fun ne => absurd rfl ne)
  exact kk σC1 σM1 _ _ h R1
set_option maxRecDepth 100000 in
set_option maxHeartbeats 8000000 in
/-- taken -/
theorem L_1570 {p : Program} {l : Launch} {e : Env} {s : State} {m : MethodId} {args : Array Value} {below : List Frame} {meth : Method} {c : Code} {H : Heap} {locs : List Loc} {cells slots : Nat} {Q : State → Prop} {b L : Nat} {xs : Nat → Int32} {D : va_G} {cy : Cy} {adC adM : Nat → Nat} {AC AM : Nat → Prop} {σC σM : Sg} {ls : Array Slot} (E : LWe p s m args c b L xs D cy adC adM AC AM) (hcs : cells ≤ room_1.cells ∧ slots ≤ room_1.slots) {i : Nat} (hi : i + 4 < L) (h : LWs D cy adC adM s σC σM H locs) (hR : Rel σM σC) (hl : lv_has ls 4 [(3, .int (nI i)), (1, .ref (adC 0)), (2, .ref (adM 0)), (0, .ref b)])
    (kk : ∀ (σC1 σM1 : Sg) (H1 : Heap) (locs1 : List Loc), LWs D cy adC adM s σC1 σM1 H1 locs1 → Rel σM1 σC1 → W p l e room_1 s m args below meth c H1 locs1 cells slots Q (F0 m 1718 ls [])) : W p l e room_1 s m args below meth c H locs cells slots Q (F0 m 1570 ls []) := by
  obtain ⟨r, eM, eC⟩ := eq_taken hR (xs (i + 1)) (xs (i + 2))
  refine lv_aload_n E.hx E.hb dL_law_1570 rfl (lv_at hl 1 rfl) ?_
  refine larg (k := 1) E h (by omega) hl rfl rfl dL_law_1571 dL_law_1572 dL_law_1573 dL_law_1574 dL_law_1575 (by decide) ?_
  refine larg (k := 2) E h (by omega) hl rfl rfl dL_law_1576 dL_law_1577 dL_law_1578 dL_law_1579 dL_law_1580 (by decide) ?_
  refine lcalC E h (va_runV (As := [.int (xs (i + 1)), .int (xs (i + 2))]) (rest := []) E.fix (c_X11_taken (l := l) (D := D) (cy := cy) E.oC (xs (i + 1)) (xs (i + 2)) σC eC) (lcV E k5_70 k1_1 k5_67 k5_68 k5_69 mL_X11_taken rfl rfl ⟨Nat.le_of_ble_eq_true rfl, Nat.le_of_ble_eq_true rfl⟩) (lPreC E h _) rfl rfl hl.1 rfl (lv_room (Nat.le_of_ble_eq_true rfl)) dL_law_1581 ⟨hcs.1, hcs.2⟩) (fun H locs h => ?_)
  refine lv_aload_n E.hx E.hb dL_law_1584 rfl (lv_at hl 2 rfl) ?_
  refine larg (k := 1) E h (by omega) hl rfl rfl dL_law_1585 dL_law_1586 dL_law_1587 dL_law_1588 dL_law_1589 (by decide) ?_
  refine larg (k := 2) E h (by omega) hl rfl rfl dL_law_1590 dL_law_1591 dL_law_1592 dL_law_1593 dL_law_1594 (by decide) ?_
  refine lcalM E h (va_runV (As := [.int (xs (i + 1)), .int (xs (i + 2))]) (rest := [.int r]) E.fix (c_X12_taken (l := l) (D := D) (cy := cy) E.oM (xs (i + 1)) (xs (i + 2)) σM eM) (lcV E k8_121 k1_14 k8_118 k8_119 k8_120 mL_X12_taken rfl rfl ⟨Nat.le_of_ble_eq_true rfl, Nat.le_of_ble_eq_true rfl⟩) (lPreM E h _) rfl rfl hl.1 rfl (lv_room (Nat.le_of_ble_eq_true rfl)) dL_law_1595 ⟨hcs.1, hcs.2⟩) (fun H locs h => ?_)
  refine lv_icmp_eq (tgt := 1718) E.hx E.hb dL_law_1598 (by decide) (fun _ => ?_) (fun ne => absurd rfl ne)
  exact kk σC σM _ _ h hR
set_option maxRecDepth 100000 in
set_option maxHeartbeats 8000000 in
/-- act -/
theorem L_1603 {p : Program} {l : Launch} {e : Env} {s : State} {m : MethodId} {args : Array Value} {below : List Frame} {meth : Method} {c : Code} {H : Heap} {locs : List Loc} {cells slots : Nat} {Q : State → Prop} {b L : Nat} {xs : Nat → Int32} {D : va_G} {cy : Cy} {adC adM : Nat → Nat} {AC AM : Nat → Prop} {σC σM : Sg} {ls : Array Slot} (E : LWe p s m args c b L xs D cy adC adM AC AM) (hcs : cells ≤ room_1.cells ∧ slots ≤ room_1.slots) {i : Nat} (hi : i + 4 < L) (h : LWs D cy adC adM s σC σM H locs) (hR : Rel σM σC) (hl : lv_has ls 4 [(3, .int (nI i)), (1, .ref (adC 0)), (2, .ref (adM 0)), (0, .ref b)])
    (kk : ∀ (σC1 σM1 : Sg) (H1 : Heap) (locs1 : List Loc), LWs D cy adC adM s σC1 σM1 H1 locs1 → Rel σM1 σC1 → W p l e room_1 s m args below meth c H1 locs1 cells slots Q (F0 m 1718 ls [])) : W p l e room_1 s m args below meth c H locs cells slots Q (F0 m 1603 ls []) := by
  obtain ⟨r, σM1, σC1, eM, eC, R1⟩ := eq_act hR (xs (i + 1)) (xs (i + 2)) (xs (i + 3))
  refine lv_aload_n E.hx E.hb dL_law_1603 rfl (lv_at hl 1 rfl) ?_
  refine larg (k := 1) E h (by omega) hl rfl rfl dL_law_1604 dL_law_1605 dL_law_1606 dL_law_1607 dL_law_1608 (by decide) ?_
  refine larg (k := 2) E h (by omega) hl rfl rfl dL_law_1609 dL_law_1610 dL_law_1611 dL_law_1612 dL_law_1613 (by decide) ?_
  refine larg (k := 3) E h (by omega) hl rfl rfl dL_law_1614 dL_law_1615 dL_law_1616 dL_law_1617 dL_law_1618 (by decide) ?_
  refine lcalC E h (va_runV (As := [.int (xs (i + 1)), .int (xs (i + 2)), .int (xs (i + 3))]) (rest := []) E.fix (c_X11_act (l := l) (D := D) (cy := cy) E.oC (xs (i + 1)) (xs (i + 2)) (xs (i + 3)) σC eC) (lcV E k5_79 k1_1 k5_76 k5_77 k5_78 mL_X11_act rfl rfl ⟨Nat.le_of_ble_eq_true rfl, Nat.le_of_ble_eq_true rfl⟩) (lPreC E h _) rfl rfl hl.1 rfl (lv_room (Nat.le_of_ble_eq_true rfl)) dL_law_1619 ⟨hcs.1, hcs.2⟩) (fun H locs h => ?_)
  refine lv_aload_n E.hx E.hb dL_law_1622 rfl (lv_at hl 2 rfl) ?_
  refine larg (k := 1) E h (by omega) hl rfl rfl dL_law_1623 dL_law_1624 dL_law_1625 dL_law_1626 dL_law_1627 (by decide) ?_
  refine larg (k := 2) E h (by omega) hl rfl rfl dL_law_1628 dL_law_1629 dL_law_1630 dL_law_1631 dL_law_1632 (by decide) ?_
  refine larg (k := 3) E h (by omega) hl rfl rfl dL_law_1633 dL_law_1634 dL_law_1635 dL_law_1636 dL_law_1637 (by decide) ?_
  refine lcalM E h (va_runV (As := [.int (xs (i + 1)), .int (xs (i + 2)), .int (xs (i + 3))]) (rest := [.int r]) E.fix (c_X12_act (l := l) (D := D) (cy := cy) E.oM (xs (i + 1)) (xs (i + 2)) (xs (i + 3)) σM eM) (lcV E k8_130 k1_14 k8_127 k8_128 k8_129 mL_X12_act rfl rfl ⟨Nat.le_of_ble_eq_true rfl, Nat.le_of_ble_eq_true rfl⟩) (lPreM E h _) rfl rfl hl.1 rfl (lv_room (Nat.le_of_ble_eq_true rfl)) dL_law_1638 ⟨hcs.1, hcs.2⟩) (fun H locs h => ?_)
  refine lv_icmp_eq (tgt := 1718) E.hx E.hb dL_law_1641 (by decide) (fun _ => ?_) (fun ne => absurd rfl ne)
  exact kk σC1 σM1 _ _ h R1
set_option maxRecDepth 100000 in
set_option maxHeartbeats 8000000 in
/-- trace -/
theorem L_1646 {p : Program} {l : Launch} {e : Env} {s : State} {m : MethodId} {args : Array Value} {below : List Frame} {meth : Method} {c : Code} {H : Heap} {locs : List Loc} {cells slots : Nat} {Q : State → Prop} {b L : Nat} {xs : Nat → Int32} {D : va_G} {cy : Cy} {adC adM : Nat → Nat} {AC AM : Nat → Prop} {σC σM : Sg} {ls : Array Slot} (E : LWe p s m args c b L xs D cy adC adM AC AM) (hcs : cells ≤ room_1.cells ∧ slots ≤ room_1.slots) {i : Nat} (hi : i + 4 < L) (h : LWs D cy adC adM s σC σM H locs) (hR : Rel σM σC) (hl : lv_has ls 4 [(3, .int (nI i)), (1, .ref (adC 0)), (2, .ref (adM 0)), (0, .ref b)])
    (kk : ∀ (σC1 σM1 : Sg) (H1 : Heap) (locs1 : List Loc), LWs D cy adC adM s σC1 σM1 H1 locs1 → Rel σM1 σC1 → W p l e room_1 s m args below meth c H1 locs1 cells slots Q (F0 m 1718 ls [])) : W p l e room_1 s m args below meth c H locs cells slots Q (F0 m 1646 ls []) := by
  obtain ⟨r, eM, eC⟩ := eq_trace hR (xs (i + 1))
  refine lv_aload_n E.hx E.hb dL_law_1646 rfl (lv_at hl 1 rfl) ?_
  refine larg (k := 1) E h (by omega) hl rfl rfl dL_law_1647 dL_law_1648 dL_law_1649 dL_law_1650 dL_law_1651 (by decide) ?_
  refine lcalC E h (va_runV (As := [.int (xs (i + 1))]) (rest := []) E.fix (c_X11_trace (l := l) (D := D) (cy := cy) E.oC (xs (i + 1)) σC eC) (lcV E k5_191 k1_1 k5_188 k5_189 k5_190 mL_X11_trace rfl rfl ⟨Nat.le_of_ble_eq_true rfl, Nat.le_of_ble_eq_true rfl⟩) (lPreC E h _) rfl rfl hl.1 rfl (lv_room (Nat.le_of_ble_eq_true rfl)) dL_law_1652 ⟨hcs.1, hcs.2⟩) (fun H locs h => ?_)
  refine lv_aload_n E.hx E.hb dL_law_1655 rfl (lv_at hl 2 rfl) ?_
  refine larg (k := 1) E h (by omega) hl rfl rfl dL_law_1656 dL_law_1657 dL_law_1658 dL_law_1659 dL_law_1660 (by decide) ?_
  refine lcalM E h (va_runV (As := [.int (xs (i + 1))]) (rest := [.int r]) E.fix (c_X12_trace (l := l) (D := D) (cy := cy) E.oM (xs (i + 1)) σM eM) (lcV E k8_158 k1_14 k8_155 k8_156 k8_157 mL_X12_trace rfl rfl ⟨Nat.le_of_ble_eq_true rfl, Nat.le_of_ble_eq_true rfl⟩) (lPreM E h _) rfl rfl hl.1 rfl (lv_room (Nat.le_of_ble_eq_true rfl)) dL_law_1661 ⟨hcs.1, hcs.2⟩) (fun H locs h => ?_)
  refine lv_icmp_eq (tgt := 1718) E.hx E.hb dL_law_1664 (by decide) (fun _ => ?_) (fun ne => absurd rfl ne)
  exact kk σC σM _ _ h hR
set_option maxRecDepth 100000 in
set_option maxHeartbeats 8000000 in
/-- many -/
theorem L_1669 {p : Program} {l : Launch} {e : Env} {s : State} {m : MethodId} {args : Array Value} {below : List Frame} {meth : Method} {c : Code} {H : Heap} {locs : List Loc} {cells slots : Nat} {Q : State → Prop} {b L : Nat} {xs : Nat → Int32} {D : va_G} {cy : Cy} {adC adM : Nat → Nat} {AC AM : Nat → Prop} {σC σM : Sg} {ls : Array Slot} (E : LWe p s m args c b L xs D cy adC adM AC AM) (hcs : cells ≤ room_1.cells ∧ slots ≤ room_1.slots) {i : Nat} (hi : i + 4 < L) (h : LWs D cy adC adM s σC σM H locs) (hR : Rel σM σC) (hl : lv_has ls 4 [(3, .int (nI i)), (1, .ref (adC 0)), (2, .ref (adM 0)), (0, .ref b)])
    (kk : ∀ (σC1 σM1 : Sg) (H1 : Heap) (locs1 : List Loc), LWs D cy adC adM s σC1 σM1 H1 locs1 → Rel σM1 σC1 → W p l e room_1 s m args below meth c H1 locs1 cells slots Q (F0 m 1718 ls [])) : W p l e room_1 s m args below meth c H locs cells slots Q (F0 m 1669 ls []) := by
  obtain ⟨r, eM, eC⟩ := eq_many hR (xs (i + 1))
  refine lv_aload_n E.hx E.hb dL_law_1669 rfl (lv_at hl 1 rfl) ?_
  refine larg (k := 1) E h (by omega) hl rfl rfl dL_law_1670 dL_law_1671 dL_law_1672 dL_law_1673 dL_law_1674 (by decide) ?_
  refine lcalC E h (va_runV (As := [.int (xs (i + 1))]) (rest := []) E.fix (c_X11_many (l := l) (D := D) (cy := cy) E.oC (xs (i + 1)) σC eC) (lcV E k5_195 k1_1 k5_192 k5_193 k5_194 mL_X11_many rfl rfl ⟨Nat.le_of_ble_eq_true rfl, Nat.le_of_ble_eq_true rfl⟩) (lPreC E h _) rfl rfl hl.1 rfl (lv_room (Nat.le_of_ble_eq_true rfl)) dL_law_1675 ⟨hcs.1, hcs.2⟩) (fun H locs h => ?_)
  refine lv_aload_n E.hx E.hb dL_law_1678 rfl (lv_at hl 2 rfl) ?_
  refine larg (k := 1) E h (by omega) hl rfl rfl dL_law_1679 dL_law_1680 dL_law_1681 dL_law_1682 dL_law_1683 (by decide) ?_
  refine lcalM E h (va_runV (As := [.int (xs (i + 1))]) (rest := [.int r]) E.fix (c_X12_many (l := l) (D := D) (cy := cy) E.oM (xs (i + 1)) σM eM) (lcV E k8_166 k1_14 k8_163 k8_164 k8_165 mL_X12_many rfl rfl ⟨Nat.le_of_ble_eq_true rfl, Nat.le_of_ble_eq_true rfl⟩) (lPreM E h _) rfl rfl hl.1 rfl (lv_room (Nat.le_of_ble_eq_true rfl)) dL_law_1684 ⟨hcs.1, hcs.2⟩) (fun H locs h => ?_)
  refine lv_icmp_eq (tgt := 1718) E.hx E.hb dL_law_1687 (by decide) (fun _ => ?_) (fun ne => absurd rfl ne)
  exact kk σC σM _ _ h hR
set_option maxRecDepth 100000 in
set_option maxHeartbeats 8000000 in
/-- keep -/
theorem L_1692 {p : Program} {l : Launch} {e : Env} {s : State} {m : MethodId} {args : Array Value} {below : List Frame} {meth : Method} {c : Code} {H : Heap} {locs : List Loc} {cells slots : Nat} {Q : State → Prop} {b L : Nat} {xs : Nat → Int32} {D : va_G} {cy : Cy} {adC adM : Nat → Nat} {AC AM : Nat → Prop} {σC σM : Sg} {ls : Array Slot} (E : LWe p s m args c b L xs D cy adC adM AC AM) (hcs : cells ≤ room_1.cells ∧ slots ≤ room_1.slots) {i : Nat} (hi : i + 4 < L) (h : LWs D cy adC adM s σC σM H locs) (hR : Rel σM σC) (hl : lv_has ls 4 [(3, .int (nI i)), (1, .ref (adC 0)), (2, .ref (adM 0)), (0, .ref b)])
    (kk : ∀ (σC1 σM1 : Sg) (H1 : Heap) (locs1 : List Loc), LWs D cy adC adM s σC1 σM1 H1 locs1 → Rel σM1 σC1 → W p l e room_1 s m args below meth c H1 locs1 cells slots Q (F0 m 1718 ls [])) : W p l e room_1 s m args below meth c H locs cells slots Q (F0 m 1692 ls []) := by
  obtain ⟨r, σM1, σC1, eM, eC, R1⟩ := eq_keep hR
  refine lv_aload_n E.hx E.hb dL_law_1692 rfl (lv_at hl 1 rfl) ?_
  refine lcalC E h (va_runV (As := []) (rest := []) E.fix (c_X11_keep (l := l) (D := D) (cy := cy) E.oC σC eC) (lcV E k5_205 k1_1 k5_202 k5_203 k5_204 mL_X11_keep rfl rfl ⟨Nat.le_of_ble_eq_true rfl, Nat.le_of_ble_eq_true rfl⟩) (lPreC E h _) rfl rfl hl.1 rfl (lv_room (Nat.le_of_ble_eq_true rfl)) dL_law_1693 ⟨hcs.1, hcs.2⟩) (fun H locs h => ?_)
  refine lv_aload_n E.hx E.hb dL_law_1696 rfl (lv_at hl 2 rfl) ?_
  refine lcalM E h (va_runV (As := []) (rest := [.int r]) E.fix (c_X12_keep (l := l) (D := D) (cy := cy) E.oM σM eM) (lcV E k8_173 k1_14 k8_170 k8_171 k8_172 mL_X12_keep rfl rfl ⟨Nat.le_of_ble_eq_true rfl, Nat.le_of_ble_eq_true rfl⟩) (lPreM E h _) rfl rfl hl.1 rfl (lv_room (Nat.le_of_ble_eq_true rfl)) dL_law_1697 ⟨hcs.1, hcs.2⟩) (fun H locs h => ?_)
  refine lv_icmp_eq (tgt := 1718) E.hx E.hb dL_law_1700 (by decide) (fun _ => ?_) (fun ne => absurd rfl ne)
  exact kk σC1 σM1 _ _ h R1
set_option maxRecDepth 100000 in
set_option maxHeartbeats 8000000 in
/-- again -/
theorem L_1705 {p : Program} {l : Launch} {e : Env} {s : State} {m : MethodId} {args : Array Value} {below : List Frame} {meth : Method} {c : Code} {H : Heap} {locs : List Loc} {cells slots : Nat} {Q : State → Prop} {b L : Nat} {xs : Nat → Int32} {D : va_G} {cy : Cy} {adC adM : Nat → Nat} {AC AM : Nat → Prop} {σC σM : Sg} {ls : Array Slot} (E : LWe p s m args c b L xs D cy adC adM AC AM) (hcs : cells ≤ room_1.cells ∧ slots ≤ room_1.slots) {i : Nat} (hi : i + 4 < L) (h : LWs D cy adC adM s σC σM H locs) (hR : Rel σM σC) (hl : lv_has ls 4 [(3, .int (nI i)), (1, .ref (adC 0)), (2, .ref (adM 0)), (0, .ref b)])
    (kk : ∀ (σC1 σM1 : Sg) (H1 : Heap) (locs1 : List Loc), LWs D cy adC adM s σC1 σM1 H1 locs1 → Rel σM1 σC1 → W p l e room_1 s m args below meth c H1 locs1 cells slots Q (F0 m 1718 ls [])) : W p l e room_1 s m args below meth c H locs cells slots Q (F0 m 1705 ls []) := by
  obtain ⟨r, σM1, σC1, eM, eC, R1⟩ := eq_again hR
  refine lv_aload_n E.hx E.hb dL_law_1705 rfl (lv_at hl 1 rfl) ?_
  refine lcalC E h (va_runV (As := []) (rest := []) E.fix (c_X11_again (l := l) (D := D) (cy := cy) E.oC σC eC) (lcV E k5_216 k1_1 k5_213 k5_214 k5_215 mL_X11_again rfl rfl ⟨Nat.le_of_ble_eq_true rfl, Nat.le_of_ble_eq_true rfl⟩) (lPreC E h _) rfl rfl hl.1 rfl (lv_room (Nat.le_of_ble_eq_true rfl)) dL_law_1706 ⟨hcs.1, hcs.2⟩) (fun H locs h => ?_)
  refine lv_aload_n E.hx E.hb dL_law_1709 rfl (lv_at hl 2 rfl) ?_
  refine lcalM E h (va_runV (As := []) (rest := [.int r]) E.fix (c_X12_again (l := l) (D := D) (cy := cy) E.oM σM eM) (lcV E k8_177 k1_14 k8_174 k8_175 k8_176 mL_X12_again rfl rfl ⟨Nat.le_of_ble_eq_true rfl, Nat.le_of_ble_eq_true rfl⟩) (lPreM E h _) rfl rfl hl.1 rfl (lv_room (Nat.le_of_ble_eq_true rfl)) dL_law_1710 ⟨hcs.1, hcs.2⟩) (fun H locs h => ?_)
  refine lv_icmp_eq (tgt := 1718) E.hx E.hb dL_law_1713 (by decide) (fun _ => ?_) (fun ne => absurd rfl ne)
  exact kk σC1 σM1 _ _ h R1
