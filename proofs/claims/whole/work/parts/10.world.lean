theorem inX0 : ∀ w ∈ u_ws RX0 TX0 5, w ∈ TT := by
  intro w h
  obtain ⟨k, hk, rfl⟩ := List.mem_map.mp h
  have hk := List.mem_range.mp hk
  match k, hk with
  | 0, _ => exact k1_217
  | 1, _ => exact k1_218
  | 2, _ => exact k1_219
  | 3, _ => exact k1_220
  | 4, _ => exact k1_221
  | k + 5, h => exact absurd h (by omega)
theorem inX1 : ∀ w ∈ u_ws RX1 TX1 16, w ∈ TT := by
  intro w h
  obtain ⟨k, hk, rfl⟩ := List.mem_map.mp h
  have hk := List.mem_range.mp hk
  match k, hk with
  | 0, _ => exact k2_37
  | 1, _ => exact k2_39
  | 2, _ => exact k2_41
  | 3, _ => exact k2_43
  | 4, _ => exact k2_45
  | 5, _ => exact k2_47
  | 6, _ => exact k2_49
  | 7, _ => exact k2_51
  | 8, _ => exact k2_53
  | 9, _ => exact k2_55
  | 10, _ => exact k2_57
  | 11, _ => exact k2_59
  | 12, _ => exact k2_61
  | 13, _ => exact k2_63
  | 14, _ => exact k2_65
  | 15, _ => exact k2_67
  | k + 16, h => exact absurd h (by omega)
theorem inX2 : ∀ w ∈ u_ws RX2 TX2 5, w ∈ TT := by
  intro w h
  obtain ⟨k, hk, rfl⟩ := List.mem_map.mp h
  have hk := List.mem_range.mp hk
  match k, hk with
  | 0, _ => exact k1_193
  | 1, _ => exact k1_194
  | 2, _ => exact k1_195
  | 3, _ => exact k1_196
  | 4, _ => exact k1_197
  | k + 5, h => exact absurd h (by omega)
theorem inX3 : ∀ w ∈ u_ws RX3 TX3 5, w ∈ TT := by
  intro w h
  obtain ⟨k, hk, rfl⟩ := List.mem_map.mp h
  have hk := List.mem_range.mp hk
  match k, hk with
  | 0, _ => exact k1_205
  | 1, _ => exact k1_206
  | 2, _ => exact k1_207
  | 3, _ => exact k1_208
  | 4, _ => exact k1_209
  | k + 5, h => exact absurd h (by omega)
theorem inX4 : ∀ w ∈ u_ws RX4 TX4 5, w ∈ TT := by
  intro w h
  obtain ⟨k, hk, rfl⟩ := List.mem_map.mp h
  have hk := List.mem_range.mp hk
  match k, hk with
  | 0, _ => exact k1_163
  | 1, _ => exact k1_165
  | 2, _ => exact k1_167
  | 3, _ => exact k1_169
  | 4, _ => exact k1_171
  | k + 5, h => exact absurd h (by omega)
theorem inX5 : ∀ w ∈ u_ws RX5 TX5 5, w ∈ TT := by
  intro w h
  obtain ⟨k, hk, rfl⟩ := List.mem_map.mp h
  have hk := List.mem_range.mp hk
  match k, hk with
  | 0, _ => exact k1_229
  | 1, _ => exact k1_230
  | 2, _ => exact k1_231
  | 3, _ => exact k1_232
  | 4, _ => exact k1_233
  | k + 5, h => exact absurd h (by omega)
theorem inX6 : ∀ w ∈ u_ws RX6 TX6 11, w ∈ TT := by
  intro w h
  obtain ⟨k, hk, rfl⟩ := List.mem_map.mp h
  have hk := List.mem_range.mp hk
  match k, hk with
  | 0, _ => exact k2_97
  | 1, _ => exact k2_99
  | 2, _ => exact k2_101
  | 3, _ => exact k2_103
  | 4, _ => exact k2_105
  | 5, _ => exact k2_107
  | 6, _ => exact k2_109
  | 7, _ => exact k2_111
  | 8, _ => exact k2_113
  | 9, _ => exact k2_115
  | 10, _ => exact k2_117
  | k + 11, h => exact absurd h (by omega)
theorem inX7 : ∀ w ∈ u_ws RX7 TX7 5, w ∈ TT := by
  intro w h
  obtain ⟨k, hk, rfl⟩ := List.mem_map.mp h
  have hk := List.mem_range.mp hk
  match k, hk with
  | 0, _ => exact k1_181
  | 1, _ => exact k1_182
  | 2, _ => exact k1_183
  | 3, _ => exact k1_184
  | 4, _ => exact k1_185
  | k + 5, h => exact absurd h (by omega)
theorem inX8 : ∀ w ∈ u_ws RX8 TX8 8, w ∈ TT := by
  intro w h
  obtain ⟨k, hk, rfl⟩ := List.mem_map.mp h
  have hk := List.mem_range.mp hk
  match k, hk with
  | 0, _ => exact k1_84
  | 1, _ => exact k1_86
  | 2, _ => exact k1_88
  | 3, _ => exact k1_90
  | 4, _ => exact k1_92
  | 5, _ => exact k1_94
  | 6, _ => exact k1_96
  | 7, _ => exact k1_98
  | k + 8, h => exact absurd h (by omega)
theorem inX9 : ∀ w ∈ u_ws RX9 TX9 8, w ∈ TT := by
  intro w h
  obtain ⟨k, hk, rfl⟩ := List.mem_map.mp h
  have hk := List.mem_range.mp hk
  match k, hk with
  | 0, _ => exact k1_56
  | 1, _ => exact k1_58
  | 2, _ => exact k1_60
  | 3, _ => exact k1_62
  | 4, _ => exact k1_64
  | 5, _ => exact k1_66
  | 6, _ => exact k1_68
  | 7, _ => exact k1_70
  | k + 8, h => exact absurd h (by omega)
theorem inX10 : ∀ w ∈ u_ws RX10 TX10 6, w ∈ TT := by
  intro w h
  obtain ⟨k, hk, rfl⟩ := List.mem_map.mp h
  have hk := List.mem_range.mp hk
  match k, hk with
  | 0, _ => exact k1_126
  | 1, _ => exact k1_128
  | 2, _ => exact k1_130
  | 3, _ => exact k1_132
  | 4, _ => exact k1_134
  | 5, _ => exact k1_136
  | k + 6, h => exact absurd h (by omega)
theorem inX11 : ∀ w ∈ u_ws RX11 TX11 17, w ∈ TT := by
  intro w h
  obtain ⟨k, hk, rfl⟩ := List.mem_map.mp h
  have hk := List.mem_range.mp hk
  match k, hk with
  | 0, _ => exact k2_138
  | 1, _ => exact k2_140
  | 2, _ => exact k2_142
  | 3, _ => exact k2_144
  | 4, _ => exact k2_146
  | 5, _ => exact k2_148
  | 6, _ => exact k2_150
  | 7, _ => exact k2_152
  | 8, _ => exact k2_154
  | 9, _ => exact k2_156
  | 10, _ => exact k2_158
  | 11, _ => exact k2_160
  | 12, _ => exact k2_162
  | 13, _ => exact k2_164
  | 14, _ => exact k2_166
  | 15, _ => exact k2_168
  | 16, _ => exact k2_170
  | k + 17, h => exact absurd h (by omega)
theorem inX12 : ∀ w ∈ u_ws RX12 TX12 40, w ∈ TT := by
  intro w h
  obtain ⟨k, hk, rfl⟩ := List.mem_map.mp h
  have hk := List.mem_range.mp hk
  match k, hk with
  | 0, _ => exact k6_23
  | 1, _ => exact k6_25
  | 2, _ => exact k6_27
  | 3, _ => exact k6_29
  | 4, _ => exact k6_31
  | 5, _ => exact k6_33
  | 6, _ => exact k6_35
  | 7, _ => exact k6_37
  | 8, _ => exact k6_39
  | 9, _ => exact k6_41
  | 10, _ => exact k6_43
  | 11, _ => exact k6_45
  | 12, _ => exact k6_47
  | 13, _ => exact k6_49
  | 14, _ => exact k6_51
  | 15, _ => exact k6_53
  | 16, _ => exact k6_55
  | 17, _ => exact k6_57
  | 18, _ => exact k6_59
  | 19, _ => exact k6_61
  | 20, _ => exact k6_63
  | 21, _ => exact k6_65
  | 22, _ => exact k6_67
  | 23, _ => exact k6_69
  | 24, _ => exact k6_71
  | 25, _ => exact k6_73
  | 26, _ => exact k6_75
  | 27, _ => exact k6_77
  | 28, _ => exact k6_79
  | 29, _ => exact k6_81
  | 30, _ => exact k6_83
  | 31, _ => exact k6_85
  | 32, _ => exact k6_87
  | 33, _ => exact k6_89
  | 34, _ => exact k6_91
  | 35, _ => exact k6_93
  | 36, _ => exact k6_95
  | 37, _ => exact k6_97
  | 38, _ => exact k6_99
  | 39, _ => exact k6_101
  | k + 40, h => exact absurd h (by omega)
def celCL (ad : Nat → Nat) (cy : Cy) : List ((Nat → Int32) → va_E) := [
  fun row => .inr (11, [.ref (ad 1), .ref (ad 2), .ref (ad 24), .ref (ad 44), .ref (ad 67), .ref (ad 78), .ref (ad 64), .ref (ad 14), .ref (ad 19), .ref (ad 9), .ref (ad 10), .ref (ad 11), .ref (ad 12), .ref (ad 13), .int (row 14), .int (row 15), .int (row 16)]),
  fun row => .inl (cy 1, 30, .inl row),
  fun _ => .inl (cy 3, 6, .inr (.inr (.inr (.inr (fun i => some (ad (3 + i))))))),
  fun row => .inr (4, [.ref (ad 1), .int (row 1), .int (row 2), .int (row 3), .int (row 4)]),
  fun row => .inr (7, [.ref (ad 1), .int (row 1), .int (row 2), .int (row 3), .int (row 4)]),
  fun row => .inr (2, [.ref (ad 1), .int (row 1), .int (row 2), .int (row 3), .int (row 4)]),
  fun row => .inr (3, [.ref (ad 1), .int (row 1), .int (row 2), .int (row 3), .int (row 4)]),
  fun row => .inr (0, [.ref (ad 1), .int (row 1), .int (row 2), .int (row 3), .int (row 4)]),
  fun row => .inr (5, [.ref (ad 1), .int (row 1), .int (row 2), .int (row 3), .int (row 4)]),
  fun row => .inl (cy 1, 4, .inl row),
  fun row => .inl (cy 1, 4, .inl row),
  fun row => .inl (cy 1, 4, .inl row),
  fun row => .inl (cy 1, 4, .inl row),
  fun row => .inl (cy 1, 4, .inl row),
  fun _ => .inl (cy 5, 4, .inr (.inr (.inr (.inr (fun i => some (ad (15 + i))))))),
  fun row => .inl (cy 1, 3, .inl row),
  fun row => .inl (cy 1, 3, .inl row),
  fun row => .inl (cy 1, 3, .inl row),
  fun row => .inl (cy 1, 3, .inl row),
  fun _ => .inl (cy 6, 4, .inr (.inr (.inr (.inr (fun i => some (ad (20 + i))))))),
  fun row => .inl (cy 2, 40, .inr (.inl (fun i => (row i).toInt64))),
  fun row => .inl (cy 2, 40, .inr (.inl (fun i => (row i).toInt64))),
  fun row => .inl (cy 2, 40, .inr (.inl (fun i => (row i).toInt64))),
  fun row => .inl (cy 2, 40, .inr (.inl (fun i => (row i).toInt64))),
  fun row => .inr (1, [.ref (ad 2), .int (row 1), .int (row 2), .int (row 3), .int (row 4), .ref (ad 25), .ref (ad 26), .ref (ad 27), .ref (ad 28), .ref (ad 29), .ref (ad 30), .ref (ad 31), .ref (ad 32), .ref (ad 33), .ref (ad 34), .ref (ad 41)]),
  fun row => .inl (cy 1, 6, .inl row),
  fun row => .inl (cy 1, 6, .inl row),
  fun row => .inl (cy 1, 16, .inl row),
  fun row => .inl (cy 1, 6, .inl row),
  fun row => .inl (cy 1, 6, .inl row),
  fun row => .inl (cy 1, 6, .inl row),
  fun row => .inl (cy 1, 6, .inl row),
  fun row => .inl (cy 1, 6, .inl row),
  fun row => .inl (cy 1, 6, .inl row),
  fun row => .inr (9, [.int (row 0), .int (row 1), .ref (ad 35), .ref (ad 36), .ref (ad 37), .ref (ad 38), .ref (ad 39), .ref (ad 40)]),
  fun row => .inl (cy 1, 8, .inl row),
  fun row => .inl (cy 1, 8, .inl row),
  fun row => .inl (cy 1, 8, .inl row),
  fun row => .inl (cy 1, 8, .inl row),
  fun row => .inl (cy 1, 200, .inl row),
  fun row => .inl (cy 1, 5, .inl row),
  fun row => .inr (10, [.int (row 0), .int (row 1), .int (row 2), .int (row 3), .ref (ad 42), .ref (ad 43)]),
  fun row => .inl (cy 1, 6, .inl row),
  fun row => .inl (cy 1, 6, .inl row),
  fun row => .inr (1, [.ref (ad 2), .int (row 1), .int (row 2), .int (row 3), .int (row 4), .ref (ad 45), .ref (ad 46), .ref (ad 47), .ref (ad 48), .ref (ad 49), .ref (ad 50), .ref (ad 51), .ref (ad 52), .ref (ad 53), .ref (ad 54), .ref (ad 61)]),
  fun row => .inl (cy 1, 6, .inl row),
  fun row => .inl (cy 1, 6, .inl row),
  fun row => .inl (cy 1, 16, .inl row),
  fun row => .inl (cy 1, 6, .inl row),
  fun row => .inl (cy 1, 6, .inl row),
  fun row => .inl (cy 1, 6, .inl row),
  fun row => .inl (cy 1, 6, .inl row),
  fun row => .inl (cy 1, 6, .inl row),
  fun row => .inl (cy 1, 6, .inl row),
  fun row => .inr (9, [.int (row 0), .int (row 1), .ref (ad 55), .ref (ad 56), .ref (ad 57), .ref (ad 58), .ref (ad 59), .ref (ad 60)]),
  fun row => .inl (cy 1, 8, .inl row),
  fun row => .inl (cy 1, 8, .inl row),
  fun row => .inl (cy 1, 8, .inl row),
  fun row => .inl (cy 1, 8, .inl row),
  fun row => .inl (cy 1, 200, .inl row),
  fun row => .inl (cy 1, 5, .inl row),
  fun row => .inr (10, [.int (row 0), .int (row 1), .int (row 2), .int (row 3), .ref (ad 62), .ref (ad 63)]),
  fun row => .inl (cy 1, 6, .inl row),
  fun row => .inl (cy 1, 6, .inl row),
  fun row => .inr (10, [.int (row 0), .int (row 1), .int (row 2), .int (row 3), .ref (ad 65), .ref (ad 66)]),
  fun row => .inl (cy 1, 6, .inl row),
  fun row => .inl (cy 1, 6, .inl row),
  fun row => .inr (8, [.int (row 0), .ref (ad 68), .ref (ad 69), .ref (ad 70), .int (row 4), .int (row 5), .int (row 6), .ref (ad 71)]),
  fun row => .inl (cy 0, 200, .inl row),
  fun row => .inl (cy 1, 201, .inl row),
  fun row => .inl (cy 1, 201, .inl row),
  fun row => .inr (9, [.int (row 0), .int (row 1), .ref (ad 72), .ref (ad 73), .ref (ad 74), .ref (ad 75), .ref (ad 76), .ref (ad 77)]),
  fun row => .inl (cy 1, 8, .inl row),
  fun row => .inl (cy 1, 8, .inl row),
  fun row => .inl (cy 1, 8, .inl row),
  fun row => .inl (cy 1, 8, .inl row),
  fun row => .inl (cy 1, 200, .inl row),
  fun row => .inl (cy 1, 5, .inl row),
  fun row => .inr (6, [.ref (ad 24), .ref (ad 79), .ref (ad 80), .ref (ad 81), .int (row 4), .int (row 5), .int (row 6), .int (row 7), .int (row 8), .int (row 9), .int (row 10)]),
  fun _ => .inl (cy 4, 5, .inr (.inr (.inr (.inr (fun i => some (ad (82 + 3 * i))))))),
  fun row => .inl (cy 1, 4, .inl row),
  fun row => .inl (cy 1, 4, .inl row),
  fun row => .inr (10, [.int (row 0), .int (row 1), .int (row 2), .int (row 3), .ref (ad 83), .ref (ad 84)]),
  fun row => .inl (cy 1, 6, .inl row),
  fun row => .inl (cy 1, 6, .inl row),
  fun row => .inr (10, [.int (row 0), .int (row 1), .int (row 2), .int (row 3), .ref (ad 86), .ref (ad 87)]),
  fun row => .inl (cy 1, 6, .inl row),
  fun row => .inl (cy 1, 6, .inl row),
  fun row => .inr (10, [.int (row 0), .int (row 1), .int (row 2), .int (row 3), .ref (ad 89), .ref (ad 90)]),
  fun row => .inl (cy 1, 6, .inl row),
  fun row => .inl (cy 1, 6, .inl row),
  fun row => .inr (10, [.int (row 0), .int (row 1), .int (row 2), .int (row 3), .ref (ad 92), .ref (ad 93)]),
  fun row => .inl (cy 1, 6, .inl row),
  fun row => .inl (cy 1, 6, .inl row),
  fun row => .inr (10, [.int (row 0), .int (row 1), .int (row 2), .int (row 3), .ref (ad 95), .ref (ad 96)]),
  fun row => .inl (cy 1, 6, .inl row),
  fun row => .inl (cy 1, 6, .inl row)]
def celC (ad : Nat → Nat) (cy : Cy) (k : Nat) (row : Nat → Int32) : va_E := ((celCL ad cy).getD k (fun _ => .inr (99, []))) row
theorem ceC_0 (ad : Nat → Nat) (cy : Cy) (row : Nat → Int32) : celC ad cy 0 row = .inr (11, [.ref (ad 1), .ref (ad 2), .ref (ad 24), .ref (ad 44), .ref (ad 67), .ref (ad 78), .ref (ad 64), .ref (ad 14), .ref (ad 19), .ref (ad 9), .ref (ad 10), .ref (ad 11), .ref (ad 12), .ref (ad 13), .int (row 14), .int (row 15), .int (row 16)]) := rfl
theorem ceC_1 (ad : Nat → Nat) (cy : Cy) (row : Nat → Int32) : celC ad cy 1 row = .inl (cy 1, 30, .inl row) := rfl
theorem ceC_2 (ad : Nat → Nat) (cy : Cy) (row : Nat → Int32) : celC ad cy 2 row = .inl (cy 3, 6, .inr (.inr (.inr (.inr (fun i => some (ad (3 + i))))))) := rfl
theorem ceC_3 (ad : Nat → Nat) (cy : Cy) (row : Nat → Int32) : celC ad cy 3 row = .inr (4, [.ref (ad 1), .int (row 1), .int (row 2), .int (row 3), .int (row 4)]) := rfl
theorem ceC_4 (ad : Nat → Nat) (cy : Cy) (row : Nat → Int32) : celC ad cy 4 row = .inr (7, [.ref (ad 1), .int (row 1), .int (row 2), .int (row 3), .int (row 4)]) := rfl
theorem ceC_5 (ad : Nat → Nat) (cy : Cy) (row : Nat → Int32) : celC ad cy 5 row = .inr (2, [.ref (ad 1), .int (row 1), .int (row 2), .int (row 3), .int (row 4)]) := rfl
theorem ceC_6 (ad : Nat → Nat) (cy : Cy) (row : Nat → Int32) : celC ad cy 6 row = .inr (3, [.ref (ad 1), .int (row 1), .int (row 2), .int (row 3), .int (row 4)]) := rfl
theorem ceC_7 (ad : Nat → Nat) (cy : Cy) (row : Nat → Int32) : celC ad cy 7 row = .inr (0, [.ref (ad 1), .int (row 1), .int (row 2), .int (row 3), .int (row 4)]) := rfl
theorem ceC_8 (ad : Nat → Nat) (cy : Cy) (row : Nat → Int32) : celC ad cy 8 row = .inr (5, [.ref (ad 1), .int (row 1), .int (row 2), .int (row 3), .int (row 4)]) := rfl
theorem ceC_9 (ad : Nat → Nat) (cy : Cy) (row : Nat → Int32) : celC ad cy 9 row = .inl (cy 1, 4, .inl row) := rfl
theorem ceC_10 (ad : Nat → Nat) (cy : Cy) (row : Nat → Int32) : celC ad cy 10 row = .inl (cy 1, 4, .inl row) := rfl
theorem ceC_11 (ad : Nat → Nat) (cy : Cy) (row : Nat → Int32) : celC ad cy 11 row = .inl (cy 1, 4, .inl row) := rfl
theorem ceC_12 (ad : Nat → Nat) (cy : Cy) (row : Nat → Int32) : celC ad cy 12 row = .inl (cy 1, 4, .inl row) := rfl
theorem ceC_13 (ad : Nat → Nat) (cy : Cy) (row : Nat → Int32) : celC ad cy 13 row = .inl (cy 1, 4, .inl row) := rfl
theorem ceC_14 (ad : Nat → Nat) (cy : Cy) (row : Nat → Int32) : celC ad cy 14 row = .inl (cy 5, 4, .inr (.inr (.inr (.inr (fun i => some (ad (15 + i))))))) := rfl
theorem ceC_15 (ad : Nat → Nat) (cy : Cy) (row : Nat → Int32) : celC ad cy 15 row = .inl (cy 1, 3, .inl row) := rfl
theorem ceC_16 (ad : Nat → Nat) (cy : Cy) (row : Nat → Int32) : celC ad cy 16 row = .inl (cy 1, 3, .inl row) := rfl
theorem ceC_17 (ad : Nat → Nat) (cy : Cy) (row : Nat → Int32) : celC ad cy 17 row = .inl (cy 1, 3, .inl row) := rfl
theorem ceC_18 (ad : Nat → Nat) (cy : Cy) (row : Nat → Int32) : celC ad cy 18 row = .inl (cy 1, 3, .inl row) := rfl
theorem ceC_19 (ad : Nat → Nat) (cy : Cy) (row : Nat → Int32) : celC ad cy 19 row = .inl (cy 6, 4, .inr (.inr (.inr (.inr (fun i => some (ad (20 + i))))))) := rfl
theorem ceC_20 (ad : Nat → Nat) (cy : Cy) (row : Nat → Int32) : celC ad cy 20 row = .inl (cy 2, 40, .inr (.inl (fun i => (row i).toInt64))) := rfl
theorem ceC_21 (ad : Nat → Nat) (cy : Cy) (row : Nat → Int32) : celC ad cy 21 row = .inl (cy 2, 40, .inr (.inl (fun i => (row i).toInt64))) := rfl
theorem ceC_22 (ad : Nat → Nat) (cy : Cy) (row : Nat → Int32) : celC ad cy 22 row = .inl (cy 2, 40, .inr (.inl (fun i => (row i).toInt64))) := rfl
theorem ceC_23 (ad : Nat → Nat) (cy : Cy) (row : Nat → Int32) : celC ad cy 23 row = .inl (cy 2, 40, .inr (.inl (fun i => (row i).toInt64))) := rfl
theorem ceC_24 (ad : Nat → Nat) (cy : Cy) (row : Nat → Int32) : celC ad cy 24 row = .inr (1, [.ref (ad 2), .int (row 1), .int (row 2), .int (row 3), .int (row 4), .ref (ad 25), .ref (ad 26), .ref (ad 27), .ref (ad 28), .ref (ad 29), .ref (ad 30), .ref (ad 31), .ref (ad 32), .ref (ad 33), .ref (ad 34), .ref (ad 41)]) := rfl
theorem ceC_25 (ad : Nat → Nat) (cy : Cy) (row : Nat → Int32) : celC ad cy 25 row = .inl (cy 1, 6, .inl row) := rfl
theorem ceC_26 (ad : Nat → Nat) (cy : Cy) (row : Nat → Int32) : celC ad cy 26 row = .inl (cy 1, 6, .inl row) := rfl
theorem ceC_27 (ad : Nat → Nat) (cy : Cy) (row : Nat → Int32) : celC ad cy 27 row = .inl (cy 1, 16, .inl row) := rfl
theorem ceC_28 (ad : Nat → Nat) (cy : Cy) (row : Nat → Int32) : celC ad cy 28 row = .inl (cy 1, 6, .inl row) := rfl
theorem ceC_29 (ad : Nat → Nat) (cy : Cy) (row : Nat → Int32) : celC ad cy 29 row = .inl (cy 1, 6, .inl row) := rfl
theorem ceC_30 (ad : Nat → Nat) (cy : Cy) (row : Nat → Int32) : celC ad cy 30 row = .inl (cy 1, 6, .inl row) := rfl
theorem ceC_31 (ad : Nat → Nat) (cy : Cy) (row : Nat → Int32) : celC ad cy 31 row = .inl (cy 1, 6, .inl row) := rfl
theorem ceC_32 (ad : Nat → Nat) (cy : Cy) (row : Nat → Int32) : celC ad cy 32 row = .inl (cy 1, 6, .inl row) := rfl
theorem ceC_33 (ad : Nat → Nat) (cy : Cy) (row : Nat → Int32) : celC ad cy 33 row = .inl (cy 1, 6, .inl row) := rfl
theorem ceC_34 (ad : Nat → Nat) (cy : Cy) (row : Nat → Int32) : celC ad cy 34 row = .inr (9, [.int (row 0), .int (row 1), .ref (ad 35), .ref (ad 36), .ref (ad 37), .ref (ad 38), .ref (ad 39), .ref (ad 40)]) := rfl
theorem ceC_35 (ad : Nat → Nat) (cy : Cy) (row : Nat → Int32) : celC ad cy 35 row = .inl (cy 1, 8, .inl row) := rfl
theorem ceC_36 (ad : Nat → Nat) (cy : Cy) (row : Nat → Int32) : celC ad cy 36 row = .inl (cy 1, 8, .inl row) := rfl
theorem ceC_37 (ad : Nat → Nat) (cy : Cy) (row : Nat → Int32) : celC ad cy 37 row = .inl (cy 1, 8, .inl row) := rfl
theorem ceC_38 (ad : Nat → Nat) (cy : Cy) (row : Nat → Int32) : celC ad cy 38 row = .inl (cy 1, 8, .inl row) := rfl
theorem ceC_39 (ad : Nat → Nat) (cy : Cy) (row : Nat → Int32) : celC ad cy 39 row = .inl (cy 1, 200, .inl row) := rfl
theorem ceC_40 (ad : Nat → Nat) (cy : Cy) (row : Nat → Int32) : celC ad cy 40 row = .inl (cy 1, 5, .inl row) := rfl
theorem ceC_41 (ad : Nat → Nat) (cy : Cy) (row : Nat → Int32) : celC ad cy 41 row = .inr (10, [.int (row 0), .int (row 1), .int (row 2), .int (row 3), .ref (ad 42), .ref (ad 43)]) := rfl
theorem ceC_42 (ad : Nat → Nat) (cy : Cy) (row : Nat → Int32) : celC ad cy 42 row = .inl (cy 1, 6, .inl row) := rfl
theorem ceC_43 (ad : Nat → Nat) (cy : Cy) (row : Nat → Int32) : celC ad cy 43 row = .inl (cy 1, 6, .inl row) := rfl
theorem ceC_44 (ad : Nat → Nat) (cy : Cy) (row : Nat → Int32) : celC ad cy 44 row = .inr (1, [.ref (ad 2), .int (row 1), .int (row 2), .int (row 3), .int (row 4), .ref (ad 45), .ref (ad 46), .ref (ad 47), .ref (ad 48), .ref (ad 49), .ref (ad 50), .ref (ad 51), .ref (ad 52), .ref (ad 53), .ref (ad 54), .ref (ad 61)]) := rfl
theorem ceC_45 (ad : Nat → Nat) (cy : Cy) (row : Nat → Int32) : celC ad cy 45 row = .inl (cy 1, 6, .inl row) := rfl
theorem ceC_46 (ad : Nat → Nat) (cy : Cy) (row : Nat → Int32) : celC ad cy 46 row = .inl (cy 1, 6, .inl row) := rfl
theorem ceC_47 (ad : Nat → Nat) (cy : Cy) (row : Nat → Int32) : celC ad cy 47 row = .inl (cy 1, 16, .inl row) := rfl
theorem ceC_48 (ad : Nat → Nat) (cy : Cy) (row : Nat → Int32) : celC ad cy 48 row = .inl (cy 1, 6, .inl row) := rfl
theorem ceC_49 (ad : Nat → Nat) (cy : Cy) (row : Nat → Int32) : celC ad cy 49 row = .inl (cy 1, 6, .inl row) := rfl
theorem ceC_50 (ad : Nat → Nat) (cy : Cy) (row : Nat → Int32) : celC ad cy 50 row = .inl (cy 1, 6, .inl row) := rfl
theorem ceC_51 (ad : Nat → Nat) (cy : Cy) (row : Nat → Int32) : celC ad cy 51 row = .inl (cy 1, 6, .inl row) := rfl
theorem ceC_52 (ad : Nat → Nat) (cy : Cy) (row : Nat → Int32) : celC ad cy 52 row = .inl (cy 1, 6, .inl row) := rfl
theorem ceC_53 (ad : Nat → Nat) (cy : Cy) (row : Nat → Int32) : celC ad cy 53 row = .inl (cy 1, 6, .inl row) := rfl
theorem ceC_54 (ad : Nat → Nat) (cy : Cy) (row : Nat → Int32) : celC ad cy 54 row = .inr (9, [.int (row 0), .int (row 1), .ref (ad 55), .ref (ad 56), .ref (ad 57), .ref (ad 58), .ref (ad 59), .ref (ad 60)]) := rfl
theorem ceC_55 (ad : Nat → Nat) (cy : Cy) (row : Nat → Int32) : celC ad cy 55 row = .inl (cy 1, 8, .inl row) := rfl
theorem ceC_56 (ad : Nat → Nat) (cy : Cy) (row : Nat → Int32) : celC ad cy 56 row = .inl (cy 1, 8, .inl row) := rfl
theorem ceC_57 (ad : Nat → Nat) (cy : Cy) (row : Nat → Int32) : celC ad cy 57 row = .inl (cy 1, 8, .inl row) := rfl
theorem ceC_58 (ad : Nat → Nat) (cy : Cy) (row : Nat → Int32) : celC ad cy 58 row = .inl (cy 1, 8, .inl row) := rfl
theorem ceC_59 (ad : Nat → Nat) (cy : Cy) (row : Nat → Int32) : celC ad cy 59 row = .inl (cy 1, 200, .inl row) := rfl
theorem ceC_60 (ad : Nat → Nat) (cy : Cy) (row : Nat → Int32) : celC ad cy 60 row = .inl (cy 1, 5, .inl row) := rfl
theorem ceC_61 (ad : Nat → Nat) (cy : Cy) (row : Nat → Int32) : celC ad cy 61 row = .inr (10, [.int (row 0), .int (row 1), .int (row 2), .int (row 3), .ref (ad 62), .ref (ad 63)]) := rfl
theorem ceC_62 (ad : Nat → Nat) (cy : Cy) (row : Nat → Int32) : celC ad cy 62 row = .inl (cy 1, 6, .inl row) := rfl
theorem ceC_63 (ad : Nat → Nat) (cy : Cy) (row : Nat → Int32) : celC ad cy 63 row = .inl (cy 1, 6, .inl row) := rfl
theorem ceC_64 (ad : Nat → Nat) (cy : Cy) (row : Nat → Int32) : celC ad cy 64 row = .inr (10, [.int (row 0), .int (row 1), .int (row 2), .int (row 3), .ref (ad 65), .ref (ad 66)]) := rfl
theorem ceC_65 (ad : Nat → Nat) (cy : Cy) (row : Nat → Int32) : celC ad cy 65 row = .inl (cy 1, 6, .inl row) := rfl
theorem ceC_66 (ad : Nat → Nat) (cy : Cy) (row : Nat → Int32) : celC ad cy 66 row = .inl (cy 1, 6, .inl row) := rfl
theorem ceC_67 (ad : Nat → Nat) (cy : Cy) (row : Nat → Int32) : celC ad cy 67 row = .inr (8, [.int (row 0), .ref (ad 68), .ref (ad 69), .ref (ad 70), .int (row 4), .int (row 5), .int (row 6), .ref (ad 71)]) := rfl
theorem ceC_68 (ad : Nat → Nat) (cy : Cy) (row : Nat → Int32) : celC ad cy 68 row = .inl (cy 0, 200, .inl row) := rfl
theorem ceC_69 (ad : Nat → Nat) (cy : Cy) (row : Nat → Int32) : celC ad cy 69 row = .inl (cy 1, 201, .inl row) := rfl
theorem ceC_70 (ad : Nat → Nat) (cy : Cy) (row : Nat → Int32) : celC ad cy 70 row = .inl (cy 1, 201, .inl row) := rfl
theorem ceC_71 (ad : Nat → Nat) (cy : Cy) (row : Nat → Int32) : celC ad cy 71 row = .inr (9, [.int (row 0), .int (row 1), .ref (ad 72), .ref (ad 73), .ref (ad 74), .ref (ad 75), .ref (ad 76), .ref (ad 77)]) := rfl
theorem ceC_72 (ad : Nat → Nat) (cy : Cy) (row : Nat → Int32) : celC ad cy 72 row = .inl (cy 1, 8, .inl row) := rfl
theorem ceC_73 (ad : Nat → Nat) (cy : Cy) (row : Nat → Int32) : celC ad cy 73 row = .inl (cy 1, 8, .inl row) := rfl
theorem ceC_74 (ad : Nat → Nat) (cy : Cy) (row : Nat → Int32) : celC ad cy 74 row = .inl (cy 1, 8, .inl row) := rfl
theorem ceC_75 (ad : Nat → Nat) (cy : Cy) (row : Nat → Int32) : celC ad cy 75 row = .inl (cy 1, 8, .inl row) := rfl
theorem ceC_76 (ad : Nat → Nat) (cy : Cy) (row : Nat → Int32) : celC ad cy 76 row = .inl (cy 1, 200, .inl row) := rfl
theorem ceC_77 (ad : Nat → Nat) (cy : Cy) (row : Nat → Int32) : celC ad cy 77 row = .inl (cy 1, 5, .inl row) := rfl
theorem ceC_78 (ad : Nat → Nat) (cy : Cy) (row : Nat → Int32) : celC ad cy 78 row = .inr (6, [.ref (ad 24), .ref (ad 79), .ref (ad 80), .ref (ad 81), .int (row 4), .int (row 5), .int (row 6), .int (row 7), .int (row 8), .int (row 9), .int (row 10)]) := rfl
theorem ceC_79 (ad : Nat → Nat) (cy : Cy) (row : Nat → Int32) : celC ad cy 79 row = .inl (cy 4, 5, .inr (.inr (.inr (.inr (fun i => some (ad (82 + 3 * i))))))) := rfl
theorem ceC_80 (ad : Nat → Nat) (cy : Cy) (row : Nat → Int32) : celC ad cy 80 row = .inl (cy 1, 4, .inl row) := rfl
theorem ceC_81 (ad : Nat → Nat) (cy : Cy) (row : Nat → Int32) : celC ad cy 81 row = .inl (cy 1, 4, .inl row) := rfl
theorem ceC_82 (ad : Nat → Nat) (cy : Cy) (row : Nat → Int32) : celC ad cy 82 row = .inr (10, [.int (row 0), .int (row 1), .int (row 2), .int (row 3), .ref (ad 83), .ref (ad 84)]) := rfl
theorem ceC_83 (ad : Nat → Nat) (cy : Cy) (row : Nat → Int32) : celC ad cy 83 row = .inl (cy 1, 6, .inl row) := rfl
theorem ceC_84 (ad : Nat → Nat) (cy : Cy) (row : Nat → Int32) : celC ad cy 84 row = .inl (cy 1, 6, .inl row) := rfl
theorem ceC_85 (ad : Nat → Nat) (cy : Cy) (row : Nat → Int32) : celC ad cy 85 row = .inr (10, [.int (row 0), .int (row 1), .int (row 2), .int (row 3), .ref (ad 86), .ref (ad 87)]) := rfl
theorem ceC_86 (ad : Nat → Nat) (cy : Cy) (row : Nat → Int32) : celC ad cy 86 row = .inl (cy 1, 6, .inl row) := rfl
theorem ceC_87 (ad : Nat → Nat) (cy : Cy) (row : Nat → Int32) : celC ad cy 87 row = .inl (cy 1, 6, .inl row) := rfl
theorem ceC_88 (ad : Nat → Nat) (cy : Cy) (row : Nat → Int32) : celC ad cy 88 row = .inr (10, [.int (row 0), .int (row 1), .int (row 2), .int (row 3), .ref (ad 89), .ref (ad 90)]) := rfl
theorem ceC_89 (ad : Nat → Nat) (cy : Cy) (row : Nat → Int32) : celC ad cy 89 row = .inl (cy 1, 6, .inl row) := rfl
theorem ceC_90 (ad : Nat → Nat) (cy : Cy) (row : Nat → Int32) : celC ad cy 90 row = .inl (cy 1, 6, .inl row) := rfl
theorem ceC_91 (ad : Nat → Nat) (cy : Cy) (row : Nat → Int32) : celC ad cy 91 row = .inr (10, [.int (row 0), .int (row 1), .int (row 2), .int (row 3), .ref (ad 92), .ref (ad 93)]) := rfl
theorem ceC_92 (ad : Nat → Nat) (cy : Cy) (row : Nat → Int32) : celC ad cy 92 row = .inl (cy 1, 6, .inl row) := rfl
theorem ceC_93 (ad : Nat → Nat) (cy : Cy) (row : Nat → Int32) : celC ad cy 93 row = .inl (cy 1, 6, .inl row) := rfl
theorem ceC_94 (ad : Nat → Nat) (cy : Cy) (row : Nat → Int32) : celC ad cy 94 row = .inr (10, [.int (row 0), .int (row 1), .int (row 2), .int (row 3), .ref (ad 95), .ref (ad 96)]) := rfl
theorem ceC_95 (ad : Nat → Nat) (cy : Cy) (row : Nat → Int32) : celC ad cy 95 row = .inl (cy 1, 6, .inl row) := rfl
theorem ceC_96 (ad : Nat → Nat) (cy : Cy) (row : Nat → Int32) : celC ad cy 96 row = .inl (cy 1, 6, .inl row) := rfl
def celML (ad : Nat → Nat) (cy : Cy) : List ((Nat → Int32) → va_E) := [
  fun row => .inr (12, [.ref (ad 1), .ref (ad 2), .ref (ad 3), .int (row 3), .ref (ad 4), .ref (ad 5), .ref (ad 6), .ref (ad 7), .int (row 8), .int (row 9), .int (row 10), .int (row 11), .int (row 12), .int (row 13), .int (row 14), .int (row 15), .int (row 16), .int (row 17), .ref (ad 8), .int (row 19), .ref (ad 9), .int (row 21), .int (row 22), .int (row 23), .int (row 24), .int (row 25), .int (row 26), .int (row 27), .ref (ad 10), .ref (ad 11), .ref (ad 12), .ref (ad 13), .ref (ad 14), .ref (ad 15), .ref (ad 16), .int (row 35), .int (row 36), .int (row 37), .int (row 38), .int (row 39)]),
  fun row => .inl (cy 1, 319, .inl row),
  fun row => .inl (cy 1, 319, .inl row),
  fun row => .inl (cy 1, 319, .inl row),
  fun row => .inl (cy 1, 200, .inl row),
  fun row => .inl (cy 1, 130, .inl row),
  fun row => .inl (cy 1, 4, .inl row),
  fun row => .inl (cy 1, 4, .inl row),
  fun row => .inl (cy 1, 12, .inl row),
  fun row => .inl (cy 1, 200, .inl row),
  fun row => .inl (cy 1, 4, .inl row),
  fun row => .inl (cy 1, 4, .inl row),
  fun row => .inl (cy 1, 160, .inl row),
  fun row => .inl (cy 1, 4, .inl row),
  fun row => .inl (cy 1, 4, .inl row),
  fun row => .inl (cy 1, 4, .inl row),
  fun row => .inl (cy 1, 30, .inl row)]
def celM (ad : Nat → Nat) (cy : Cy) (k : Nat) (row : Nat → Int32) : va_E := ((celML ad cy).getD k (fun _ => .inr (99, []))) row
theorem ceM_0 (ad : Nat → Nat) (cy : Cy) (row : Nat → Int32) : celM ad cy 0 row = .inr (12, [.ref (ad 1), .ref (ad 2), .ref (ad 3), .int (row 3), .ref (ad 4), .ref (ad 5), .ref (ad 6), .ref (ad 7), .int (row 8), .int (row 9), .int (row 10), .int (row 11), .int (row 12), .int (row 13), .int (row 14), .int (row 15), .int (row 16), .int (row 17), .ref (ad 8), .int (row 19), .ref (ad 9), .int (row 21), .int (row 22), .int (row 23), .int (row 24), .int (row 25), .int (row 26), .int (row 27), .ref (ad 10), .ref (ad 11), .ref (ad 12), .ref (ad 13), .ref (ad 14), .ref (ad 15), .ref (ad 16), .int (row 35), .int (row 36), .int (row 37), .int (row 38), .int (row 39)]) := rfl
theorem ceM_1 (ad : Nat → Nat) (cy : Cy) (row : Nat → Int32) : celM ad cy 1 row = .inl (cy 1, 319, .inl row) := rfl
theorem ceM_2 (ad : Nat → Nat) (cy : Cy) (row : Nat → Int32) : celM ad cy 2 row = .inl (cy 1, 319, .inl row) := rfl
theorem ceM_3 (ad : Nat → Nat) (cy : Cy) (row : Nat → Int32) : celM ad cy 3 row = .inl (cy 1, 319, .inl row) := rfl
theorem ceM_4 (ad : Nat → Nat) (cy : Cy) (row : Nat → Int32) : celM ad cy 4 row = .inl (cy 1, 200, .inl row) := rfl
theorem ceM_5 (ad : Nat → Nat) (cy : Cy) (row : Nat → Int32) : celM ad cy 5 row = .inl (cy 1, 130, .inl row) := rfl
theorem ceM_6 (ad : Nat → Nat) (cy : Cy) (row : Nat → Int32) : celM ad cy 6 row = .inl (cy 1, 4, .inl row) := rfl
theorem ceM_7 (ad : Nat → Nat) (cy : Cy) (row : Nat → Int32) : celM ad cy 7 row = .inl (cy 1, 4, .inl row) := rfl
theorem ceM_8 (ad : Nat → Nat) (cy : Cy) (row : Nat → Int32) : celM ad cy 8 row = .inl (cy 1, 12, .inl row) := rfl
theorem ceM_9 (ad : Nat → Nat) (cy : Cy) (row : Nat → Int32) : celM ad cy 9 row = .inl (cy 1, 200, .inl row) := rfl
theorem ceM_10 (ad : Nat → Nat) (cy : Cy) (row : Nat → Int32) : celM ad cy 10 row = .inl (cy 1, 4, .inl row) := rfl
theorem ceM_11 (ad : Nat → Nat) (cy : Cy) (row : Nat → Int32) : celM ad cy 11 row = .inl (cy 1, 4, .inl row) := rfl
theorem ceM_12 (ad : Nat → Nat) (cy : Cy) (row : Nat → Int32) : celM ad cy 12 row = .inl (cy 1, 160, .inl row) := rfl
theorem ceM_13 (ad : Nat → Nat) (cy : Cy) (row : Nat → Int32) : celM ad cy 13 row = .inl (cy 1, 4, .inl row) := rfl
theorem ceM_14 (ad : Nat → Nat) (cy : Cy) (row : Nat → Int32) : celM ad cy 14 row = .inl (cy 1, 4, .inl row) := rfl
theorem ceM_15 (ad : Nat → Nat) (cy : Cy) (row : Nat → Int32) : celM ad cy 15 row = .inl (cy 1, 4, .inl row) := rfl
theorem ceM_16 (ad : Nat → Nat) (cy : Cy) (row : Nat → Int32) : celM ad cy 16 row = .inl (cy 1, 30, .inl row) := rfl
def isSky (n : Nat) : Prop := n = 41 ∨ n = 61 ∨ n = 64 ∨ n = 82 ∨ n = 85 ∨ n = 88 ∨ n = 91 ∨ n = 94
def isRow (n : Nat) : Prop := n = 15 ∨ n = 16 ∨ n = 17 ∨ n = 18
def isItm (n : Nat) : Prop := n = 20 ∨ n = 21 ∨ n = 22 ∨ n = 23
theorem ltSky {n : Nat} (h : isSky n) : n < 97 := by unfold isSky at h; omega
theorem ltSkyA {n : Nat} (h : isSky n) : n + 1 < 97 := by unfold isSky at h; omega
theorem ltSkyB {n : Nat} (h : isSky n) : n + 2 < 97 := by unfold isSky at h; omega
theorem ltRow {n : Nat} (h : isRow n) : n < 97 := by unfold isRow at h; omega
theorem ltItm {n : Nat} (h : isItm n) : n < 97 := by unfold isItm at h; omega
theorem skyOf {i : Nat} (h : i < 5) : isSky (82 + 3 * i) := by unfold isSky; omega
theorem rowOf {i : Nat} (h : i < 4) : isRow (15 + i) := by unfold isRow; omega
theorem itmOf {i : Nat} (h : i < 4) : isItm (20 + i) := by unfold isItm; omega
theorem ceSky (ad : Nat → Nat) (cy : Cy) (row : Nat → Int32) {n : Nat} (h : isSky n) : celC ad cy n row = .inr (10, [.int (row 0), .int (row 1), .int (row 2), .int (row 3), .ref (ad (n + 1)), .ref (ad (n + 2))]) := by
  rcases h with rfl | rfl | rfl | rfl | rfl | rfl | rfl | rfl <;> rfl
theorem ceSkyA (ad : Nat → Nat) (cy : Cy) (row : Nat → Int32) {n : Nat} (h : isSky n) : celC ad cy (n + 1) row = .inl (cy 1, 6, .inl row) := by
  rcases h with rfl | rfl | rfl | rfl | rfl | rfl | rfl | rfl <;> rfl
theorem ceSkyB (ad : Nat → Nat) (cy : Cy) (row : Nat → Int32) {n : Nat} (h : isSky n) : celC ad cy (n + 2) row = .inl (cy 1, 6, .inl row) := by
  rcases h with rfl | rfl | rfl | rfl | rfl | rfl | rfl | rfl <;> rfl
theorem ceRow (ad : Nat → Nat) (cy : Cy) (row : Nat → Int32) {n : Nat} (h : isRow n) : celC ad cy n row = .inl (cy 1, 3, .inl row) := by
  rcases h with rfl | rfl | rfl | rfl <;> rfl
theorem ceItm (ad : Nat → Nat) (cy : Cy) (row : Nat → Int32) {n : Nat} (h : isItm n) : celC ad cy n row = .inl (cy 2, 40, .inr (.inl (fun i => (row i).toInt64))) := by
  rcases h with rfl | rfl | rfl | rfl <;> rfl

theorem mf_J6_bitCount_0f7a4 : yJ6_bitCount_0f7a4.cls ≠ "java/lang/invoke/MethodHandle" ∧ yJ6_bitCount_0f7a4.cls ≠ "java/lang/invoke/VarHandle" ∧ (parseMethodDescriptor yJ6_bitCount_0f7a4.desc).map (fun d => d.parameters.length) = some 1 := by decide +kernel
theorem mf_J7_fill_d0a16 : yJ7_fill_d0a16.cls ≠ "java/lang/invoke/MethodHandle" ∧ yJ7_fill_d0a16.cls ≠ "java/lang/invoke/VarHandle" ∧ (parseMethodDescriptor yJ7_fill_d0a16.desc).map (fun d => d.parameters.length) = some 2 := by decide +kernel
theorem mf_X0_drifts : yX0_drifts.cls ≠ "java/lang/invoke/MethodHandle" ∧ yX0_drifts.cls ≠ "java/lang/invoke/VarHandle" ∧ (parseMethodDescriptor yX0_drifts.desc).map (fun d => d.parameters.length) = some 2 := by decide +kernel
theorem mf_X0_fee : yX0_fee.cls ≠ "java/lang/invoke/MethodHandle" ∧ yX0_fee.cls ≠ "java/lang/invoke/VarHandle" ∧ (parseMethodDescriptor yX0_fee.desc).map (fun d => d.parameters.length) = some 1 := by decide +kernel
theorem mf_X0_parts : yX0_parts.cls ≠ "java/lang/invoke/MethodHandle" ∧ yX0_parts.cls ≠ "java/lang/invoke/VarHandle" ∧ (parseMethodDescriptor yX0_parts.desc).map (fun d => d.parameters.length) = some 1 := by decide +kernel
theorem mf_X10_copy : yX10_copy.cls ≠ "java/lang/invoke/MethodHandle" ∧ yX10_copy.cls ≠ "java/lang/invoke/VarHandle" ∧ (parseMethodDescriptor yX10_copy.desc).map (fun d => d.parameters.length) = some 1 := by decide +kernel
theorem mf_X11_far : yX11_far.cls ≠ "java/lang/invoke/MethodHandle" ∧ yX11_far.cls ≠ "java/lang/invoke/VarHandle" ∧ (parseMethodDescriptor yX11_far.desc).map (fun d => d.parameters.length) = some 2 := by decide +kernel
theorem mf_X11_farmOf : yX11_farmOf.cls ≠ "java/lang/invoke/MethodHandle" ∧ yX11_farmOf.cls ≠ "java/lang/invoke/VarHandle" ∧ (parseMethodDescriptor yX11_farmOf.desc).map (fun d => d.parameters.length) = some 2 := by decide +kernel
theorem mf_X11_fewestSteps : yX11_fewestSteps.cls ≠ "java/lang/invoke/MethodHandle" ∧ yX11_fewestSteps.cls ≠ "java/lang/invoke/VarHandle" ∧ (parseMethodDescriptor yX11_fewestSteps.desc).map (fun d => d.parameters.length) = some 2 := by decide +kernel
theorem mf_X11_firstOnCircuit : yX11_firstOnCircuit.cls ≠ "java/lang/invoke/MethodHandle" ∧ yX11_firstOnCircuit.cls ≠ "java/lang/invoke/VarHandle" ∧ (parseMethodDescriptor yX11_firstOnCircuit.desc).map (fun d => d.parameters.length) = some 3 := by decide +kernel
theorem mf_X11_holdsKite : yX11_holdsKite.cls ≠ "java/lang/invoke/MethodHandle" ∧ yX11_holdsKite.cls ≠ "java/lang/invoke/VarHandle" ∧ (parseMethodDescriptor yX11_holdsKite.desc).map (fun d => d.parameters.length) = some 1 := by decide +kernel
theorem mf_X11_isIn : yX11_isIn.cls ≠ "java/lang/invoke/MethodHandle" ∧ yX11_isIn.cls ≠ "java/lang/invoke/VarHandle" ∧ (parseMethodDescriptor yX11_isIn.desc).map (fun d => d.parameters.length) = some 2 := by decide +kernel
theorem mf_X11_isInRows : yX11_isInRows.cls ≠ "java/lang/invoke/MethodHandle" ∧ yX11_isInRows.cls ≠ "java/lang/invoke/VarHandle" ∧ (parseMethodDescriptor yX11_isInRows.desc).map (fun d => d.parameters.length) = some 2 := by decide +kernel
theorem mf_X11_isKite : yX11_isKite.cls ≠ "java/lang/invoke/MethodHandle" ∧ yX11_isKite.cls ≠ "java/lang/invoke/VarHandle" ∧ (parseMethodDescriptor yX11_isKite.desc).map (fun d => d.parameters.length) = some 1 := by decide +kernel
theorem mf_X11_isOrUnder : yX11_isOrUnder.cls ≠ "java/lang/invoke/MethodHandle" ∧ yX11_isOrUnder.cls ≠ "java/lang/invoke/VarHandle" ∧ (parseMethodDescriptor yX11_isOrUnder.desc).map (fun d => d.parameters.length) = some 2 := by decide +kernel
theorem mf_X11_isPlanLength : yX11_isPlanLength.cls ≠ "java/lang/invoke/MethodHandle" ∧ yX11_isPlanLength.cls ≠ "java/lang/invoke/VarHandle" ∧ (parseMethodDescriptor yX11_isPlanLength.desc).map (fun d => d.parameters.length) = some 1 := by decide +kernel
theorem mf_X11_isRightOnTrial : yX11_isRightOnTrial.cls ≠ "java/lang/invoke/MethodHandle" ∧ yX11_isRightOnTrial.cls ≠ "java/lang/invoke/VarHandle" ∧ (parseMethodDescriptor yX11_isRightOnTrial.desc).map (fun d => d.parameters.length) = some 1 := by decide +kernel
theorem mf_X11_isSheet : yX11_isSheet.cls ≠ "java/lang/invoke/MethodHandle" ∧ yX11_isSheet.cls ≠ "java/lang/invoke/VarHandle" ∧ (parseMethodDescriptor yX11_isSheet.desc).map (fun d => d.parameters.length) = some 1 := by decide +kernel
theorem mf_X11_isShelf : yX11_isShelf.cls ≠ "java/lang/invoke/MethodHandle" ∧ yX11_isShelf.cls ≠ "java/lang/invoke/VarHandle" ∧ (parseMethodDescriptor yX11_isShelf.desc).map (fun d => d.parameters.length) = some 1 := by decide +kernel
theorem mf_X11_kiteOf : yX11_kiteOf.cls ≠ "java/lang/invoke/MethodHandle" ∧ yX11_kiteOf.cls ≠ "java/lang/invoke/VarHandle" ∧ (parseMethodDescriptor yX11_kiteOf.desc).map (fun d => d.parameters.length) = some 2 := by decide +kernel
theorem mf_X11_mostOf : yX11_mostOf.cls ≠ "java/lang/invoke/MethodHandle" ∧ yX11_mostOf.cls ≠ "java/lang/invoke/VarHandle" ∧ (parseMethodDescriptor yX11_mostOf.desc).map (fun d => d.parameters.length) = some 1 := by decide +kernel
theorem mf_X11_narrowed : yX11_narrowed.cls ≠ "java/lang/invoke/MethodHandle" ∧ yX11_narrowed.cls ≠ "java/lang/invoke/VarHandle" ∧ (parseMethodDescriptor yX11_narrowed.desc).map (fun d => d.parameters.length) = some 2 := by decide +kernel
theorem mf_X11_nextLot : yX11_nextLot.cls ≠ "java/lang/invoke/MethodHandle" ∧ yX11_nextLot.cls ≠ "java/lang/invoke/VarHandle" ∧ (parseMethodDescriptor yX11_nextLot.desc).map (fun d => d.parameters.length) = some 1 := by decide +kernel
theorem mf_X11_putOn : yX11_putOn.cls ≠ "java/lang/invoke/MethodHandle" ∧ yX11_putOn.cls ≠ "java/lang/invoke/VarHandle" ∧ (parseMethodDescriptor yX11_putOn.desc).map (fun d => d.parameters.length) = some 4 := by decide +kernel
theorem mf_X11_putRowOn : yX11_putRowOn.cls ≠ "java/lang/invoke/MethodHandle" ∧ yX11_putRowOn.cls ≠ "java/lang/invoke/VarHandle" ∧ (parseMethodDescriptor yX11_putRowOn.desc).map (fun d => d.parameters.length) = some 2 := by decide +kernel
theorem mf_X11_refusalAs : yX11_refusalAs.cls ≠ "java/lang/invoke/MethodHandle" ∧ yX11_refusalAs.cls ≠ "java/lang/invoke/VarHandle" ∧ (parseMethodDescriptor yX11_refusalAs.desc).map (fun d => d.parameters.length) = some 2 := by decide +kernel
theorem mf_X11_room : yX11_room.cls ≠ "java/lang/invoke/MethodHandle" ∧ yX11_room.cls ≠ "java/lang/invoke/VarHandle" ∧ (parseMethodDescriptor yX11_room.desc).map (fun d => d.parameters.length) = some 2 := by decide +kernel
theorem mf_X11_step : yX11_step.cls ≠ "java/lang/invoke/MethodHandle" ∧ yX11_step.cls ≠ "java/lang/invoke/VarHandle" ∧ (parseMethodDescriptor yX11_step.desc).map (fun d => d.parameters.length) = some 1 := by decide +kernel
theorem mf_X11_withBit : yX11_withBit.cls ≠ "java/lang/invoke/MethodHandle" ∧ yX11_withBit.cls ≠ "java/lang/invoke/VarHandle" ∧ (parseMethodDescriptor yX11_withBit.desc).map (fun d => d.parameters.length) = some 3 := by decide +kernel
theorem mf_X11_within : yX11_within.cls ≠ "java/lang/invoke/MethodHandle" ∧ yX11_within.cls ≠ "java/lang/invoke/VarHandle" ∧ (parseMethodDescriptor yX11_within.desc).map (fun d => d.parameters.length) = some 3 := by decide +kernel
theorem mf_X11_worthOfRest : yX11_worthOfRest.cls ≠ "java/lang/invoke/MethodHandle" ∧ yX11_worthOfRest.cls ≠ "java/lang/invoke/VarHandle" ∧ (parseMethodDescriptor yX11_worthOfRest.desc).map (fun d => d.parameters.length) = some 1 := by decide +kernel
theorem mf_X11_worthOnTrial : yX11_worthOnTrial.cls ≠ "java/lang/invoke/MethodHandle" ∧ yX11_worthOnTrial.cls ≠ "java/lang/invoke/VarHandle" ∧ (parseMethodDescriptor yX11_worthOnTrial.desc).map (fun d => d.parameters.length) = some 1 := by decide +kernel
theorem mf_X12_all : yX12_all.cls ≠ "java/lang/invoke/MethodHandle" ∧ yX12_all.cls ≠ "java/lang/invoke/VarHandle" ∧ (parseMethodDescriptor yX12_all.desc).map (fun d => d.parameters.length) = some 0 := by decide +kernel
theorem mf_X12_areKites : yX12_areKites.cls ≠ "java/lang/invoke/MethodHandle" ∧ yX12_areKites.cls ≠ "java/lang/invoke/VarHandle" ∧ (parseMethodDescriptor yX12_areKites.desc).map (fun d => d.parameters.length) = some 1 := by decide +kernel
theorem mf_X12_areTangled : yX12_areTangled.cls ≠ "java/lang/invoke/MethodHandle" ∧ yX12_areTangled.cls ≠ "java/lang/invoke/VarHandle" ∧ (parseMethodDescriptor yX12_areTangled.desc).map (fun d => d.parameters.length) = some 2 := by decide +kernel
theorem mf_X12_at : yX12_at.cls ≠ "java/lang/invoke/MethodHandle" ∧ yX12_at.cls ≠ "java/lang/invoke/VarHandle" ∧ (parseMethodDescriptor yX12_at.desc).map (fun d => d.parameters.length) = some 2 := by decide +kernel
theorem mf_X12_becomes : yX12_becomes.cls ≠ "java/lang/invoke/MethodHandle" ∧ yX12_becomes.cls ≠ "java/lang/invoke/VarHandle" ∧ (parseMethodDescriptor yX12_becomes.desc).map (fun d => d.parameters.length) = some 2 := by decide +kernel
theorem mf_X12_blows : yX12_blows.cls ≠ "java/lang/invoke/MethodHandle" ∧ yX12_blows.cls ≠ "java/lang/invoke/VarHandle" ∧ (parseMethodDescriptor yX12_blows.desc).map (fun d => d.parameters.length) = some 0 := by decide +kernel
theorem mf_X12_byLot : yX12_byLot.cls ≠ "java/lang/invoke/MethodHandle" ∧ yX12_byLot.cls ≠ "java/lang/invoke/VarHandle" ∧ (parseMethodDescriptor yX12_byLot.desc).map (fun d => d.parameters.length) = some 0 := by decide +kernel
theorem mf_X12_byteAt : yX12_byteAt.cls ≠ "java/lang/invoke/MethodHandle" ∧ yX12_byteAt.cls ≠ "java/lang/invoke/VarHandle" ∧ (parseMethodDescriptor yX12_byteAt.desc).map (fun d => d.parameters.length) = some 1 := by decide +kernel
theorem mf_X12_calls : yX12_calls.cls ≠ "java/lang/invoke/MethodHandle" ∧ yX12_calls.cls ≠ "java/lang/invoke/VarHandle" ∧ (parseMethodDescriptor yX12_calls.desc).map (fun d => d.parameters.length) = some 1 := by decide +kernel
theorem mf_X12_caseOf : yX12_caseOf.cls ≠ "java/lang/invoke/MethodHandle" ∧ yX12_caseOf.cls ≠ "java/lang/invoke/VarHandle" ∧ (parseMethodDescriptor yX12_caseOf.desc).map (fun d => d.parameters.length) = some 1 := by decide +kernel
theorem mf_X12_chosen : yX12_chosen.cls ≠ "java/lang/invoke/MethodHandle" ∧ yX12_chosen.cls ≠ "java/lang/invoke/VarHandle" ∧ (parseMethodDescriptor yX12_chosen.desc).map (fun d => d.parameters.length) = some 0 := by decide +kernel
theorem mf_X12_comparison : yX12_comparison.cls ≠ "java/lang/invoke/MethodHandle" ∧ yX12_comparison.cls ≠ "java/lang/invoke/VarHandle" ∧ (parseMethodDescriptor yX12_comparison.desc).map (fun d => d.parameters.length) = some 0 := by decide +kernel
theorem mf_X12_condition : yX12_condition.cls ≠ "java/lang/invoke/MethodHandle" ∧ yX12_condition.cls ≠ "java/lang/invoke/VarHandle" ∧ (parseMethodDescriptor yX12_condition.desc).map (fun d => d.parameters.length) = some 0 := by decide +kernel
theorem mf_X12_distance : yX12_distance.cls ≠ "java/lang/invoke/MethodHandle" ∧ yX12_distance.cls ≠ "java/lang/invoke/VarHandle" ∧ (parseMethodDescriptor yX12_distance.desc).map (fun d => d.parameters.length) = some 2 := by decide +kernel
theorem mf_X12_driftOf : yX12_driftOf.cls ≠ "java/lang/invoke/MethodHandle" ∧ yX12_driftOf.cls ≠ "java/lang/invoke/VarHandle" ∧ (parseMethodDescriptor yX12_driftOf.desc).map (fun d => d.parameters.length) = some 3 := by decide +kernel
theorem mf_X12_drifts : yX12_drifts.cls ≠ "java/lang/invoke/MethodHandle" ∧ yX12_drifts.cls ≠ "java/lang/invoke/VarHandle" ∧ (parseMethodDescriptor yX12_drifts.desc).map (fun d => d.parameters.length) = some 1 := by decide +kernel
theorem mf_X12_ended : yX12_ended.cls ≠ "java/lang/invoke/MethodHandle" ∧ yX12_ended.cls ≠ "java/lang/invoke/VarHandle" ∧ (parseMethodDescriptor yX12_ended.desc).map (fun d => d.parameters.length) = some 2 := by decide +kernel
theorem mf_X12_fact : yX12_fact.cls ≠ "java/lang/invoke/MethodHandle" ∧ yX12_fact.cls ≠ "java/lang/invoke/VarHandle" ∧ (parseMethodDescriptor yX12_fact.desc).map (fun d => d.parameters.length) = some 2 := by decide +kernel
theorem mf_X12_factHere : yX12_factHere.cls ≠ "java/lang/invoke/MethodHandle" ∧ yX12_factHere.cls ≠ "java/lang/invoke/VarHandle" ∧ (parseMethodDescriptor yX12_factHere.desc).map (fun d => d.parameters.length) = some 0 := by decide +kernel
theorem mf_X12_far : yX12_far.cls ≠ "java/lang/invoke/MethodHandle" ∧ yX12_far.cls ≠ "java/lang/invoke/VarHandle" ∧ (parseMethodDescriptor yX12_far.desc).map (fun d => d.parameters.length) = some 2 := by decide +kernel
theorem mf_X12_farOf : yX12_farOf.cls ≠ "java/lang/invoke/MethodHandle" ∧ yX12_farOf.cls ≠ "java/lang/invoke/VarHandle" ∧ (parseMethodDescriptor yX12_farOf.desc).map (fun d => d.parameters.length) = some 1 := by decide +kernel
theorem mf_X12_fee : yX12_fee.cls ≠ "java/lang/invoke/MethodHandle" ∧ yX12_fee.cls ≠ "java/lang/invoke/VarHandle" ∧ (parseMethodDescriptor yX12_fee.desc).map (fun d => d.parameters.length) = some 1 := by decide +kernel
theorem mf_X12_findFits : yX12_findFits.cls ≠ "java/lang/invoke/MethodHandle" ∧ yX12_findFits.cls ≠ "java/lang/invoke/VarHandle" ∧ (parseMethodDescriptor yX12_findFits.desc).map (fun d => d.parameters.length) = some 1 := by decide +kernel
theorem mf_X12_flies : yX12_flies.cls ≠ "java/lang/invoke/MethodHandle" ∧ yX12_flies.cls ≠ "java/lang/invoke/VarHandle" ∧ (parseMethodDescriptor yX12_flies.desc).map (fun d => d.parameters.length) = some 1 := by decide +kernel
theorem mf_X12_goes : yX12_goes.cls ≠ "java/lang/invoke/MethodHandle" ∧ yX12_goes.cls ≠ "java/lang/invoke/VarHandle" ∧ (parseMethodDescriptor yX12_goes.desc).map (fun d => d.parameters.length) = some 1 := by decide +kernel
theorem mf_X12_in : yX12_in.cls ≠ "java/lang/invoke/MethodHandle" ∧ yX12_in.cls ≠ "java/lang/invoke/VarHandle" ∧ (parseMethodDescriptor yX12_in.desc).map (fun d => d.parameters.length) = some 3 := by decide +kernel
theorem mf_X12_isAct : yX12_isAct.cls ≠ "java/lang/invoke/MethodHandle" ∧ yX12_isAct.cls ≠ "java/lang/invoke/VarHandle" ∧ (parseMethodDescriptor yX12_isAct.desc).map (fun d => d.parameters.length) = some 1 := by decide +kernel
theorem mf_X12_isCell : yX12_isCell.cls ≠ "java/lang/invoke/MethodHandle" ∧ yX12_isCell.cls ≠ "java/lang/invoke/VarHandle" ∧ (parseMethodDescriptor yX12_isCell.desc).map (fun d => d.parameters.length) = some 1 := by decide +kernel
theorem mf_X12_isDigit : yX12_isDigit.cls ≠ "java/lang/invoke/MethodHandle" ∧ yX12_isDigit.cls ≠ "java/lang/invoke/VarHandle" ∧ (parseMethodDescriptor yX12_isDigit.desc).map (fun d => d.parameters.length) = some 1 := by decide +kernel
theorem mf_X12_isFarm : yX12_isFarm.cls ≠ "java/lang/invoke/MethodHandle" ∧ yX12_isFarm.cls ≠ "java/lang/invoke/VarHandle" ∧ (parseMethodDescriptor yX12_isFarm.desc).map (fun d => d.parameters.length) = some 1 := by decide +kernel
theorem mf_X12_isFit : yX12_isFit.cls ≠ "java/lang/invoke/MethodHandle" ∧ yX12_isFit.cls ≠ "java/lang/invoke/VarHandle" ∧ (parseMethodDescriptor yX12_isFit.desc).map (fun d => d.parameters.length) = some 3 := by decide +kernel
theorem mf_X12_isGust : yX12_isGust.cls ≠ "java/lang/invoke/MethodHandle" ∧ yX12_isGust.cls ≠ "java/lang/invoke/VarHandle" ∧ (parseMethodDescriptor yX12_isGust.desc).map (fun d => d.parameters.length) = some 1 := by decide +kernel
theorem mf_X12_isHolding : yX12_isHolding.cls ≠ "java/lang/invoke/MethodHandle" ∧ yX12_isHolding.cls ≠ "java/lang/invoke/VarHandle" ∧ (parseMethodDescriptor yX12_isHolding.desc).map (fun d => d.parameters.length) = some 3 := by decide +kernel
theorem mf_X12_isItem : yX12_isItem.cls ≠ "java/lang/invoke/MethodHandle" ∧ yX12_isItem.cls ≠ "java/lang/invoke/VarHandle" ∧ (parseMethodDescriptor yX12_isItem.desc).map (fun d => d.parameters.length) = some 2 := by decide +kernel
theorem mf_X12_isKind : yX12_isKind.cls ≠ "java/lang/invoke/MethodHandle" ∧ yX12_isKind.cls ≠ "java/lang/invoke/VarHandle" ∧ (parseMethodDescriptor yX12_isKind.desc).map (fun d => d.parameters.length) = some 1 := by decide +kernel
theorem mf_X12_isKite : yX12_isKite.cls ≠ "java/lang/invoke/MethodHandle" ∧ yX12_isKite.cls ≠ "java/lang/invoke/VarHandle" ∧ (parseMethodDescriptor yX12_isKite.desc).map (fun d => d.parameters.length) = some 1 := by decide +kernel
theorem mf_X12_isLetter : yX12_isLetter.cls ≠ "java/lang/invoke/MethodHandle" ∧ yX12_isLetter.cls ≠ "java/lang/invoke/VarHandle" ∧ (parseMethodDescriptor yX12_isLetter.desc).map (fun d => d.parameters.length) = some 1 := by decide +kernel
theorem mf_X12_isLong : yX12_isLong.cls ≠ "java/lang/invoke/MethodHandle" ∧ yX12_isLong.cls ≠ "java/lang/invoke/VarHandle" ∧ (parseMethodDescriptor yX12_isLong.desc).map (fun d => d.parameters.length) = some 1 := by decide +kernel
theorem mf_X12_isOne : yX12_isOne.cls ≠ "java/lang/invoke/MethodHandle" ∧ yX12_isOne.cls ≠ "java/lang/invoke/VarHandle" ∧ (parseMethodDescriptor yX12_isOne.desc).map (fun d => d.parameters.length) = some 1 := by decide +kernel
theorem mf_X12_isOver : yX12_isOver.cls ≠ "java/lang/invoke/MethodHandle" ∧ yX12_isOver.cls ≠ "java/lang/invoke/VarHandle" ∧ (parseMethodDescriptor yX12_isOver.desc).map (fun d => d.parameters.length) = some 0 := by decide +kernel
theorem mf_X12_isPart : yX12_isPart.cls ≠ "java/lang/invoke/MethodHandle" ∧ yX12_isPart.cls ≠ "java/lang/invoke/VarHandle" ∧ (parseMethodDescriptor yX12_isPart.desc).map (fun d => d.parameters.length) = some 2 := by decide +kernel
theorem mf_X12_isReached : yX12_isReached.cls ≠ "java/lang/invoke/MethodHandle" ∧ yX12_isReached.cls ≠ "java/lang/invoke/VarHandle" ∧ (parseMethodDescriptor yX12_isReached.desc).map (fun d => d.parameters.length) = some 1 := by decide +kernel
theorem mf_X12_isRow : yX12_isRow.cls ≠ "java/lang/invoke/MethodHandle" ∧ yX12_isRow.cls ≠ "java/lang/invoke/VarHandle" ∧ (parseMethodDescriptor yX12_isRow.desc).map (fun d => d.parameters.length) = some 2 := by decide +kernel
theorem mf_X12_isSo : yX12_isSo.cls ≠ "java/lang/invoke/MethodHandle" ∧ yX12_isSo.cls ≠ "java/lang/invoke/VarHandle" ∧ (parseMethodDescriptor yX12_isSo.desc).map (fun d => d.parameters.length) = some 3 := by decide +kernel
theorem mf_X12_isSoBy : yX12_isSoBy.cls ≠ "java/lang/invoke/MethodHandle" ∧ yX12_isSoBy.cls ≠ "java/lang/invoke/VarHandle" ∧ (parseMethodDescriptor yX12_isSoBy.desc).map (fun d => d.parameters.length) = some 3 := by decide +kernel
theorem mf_X12_isSpan : yX12_isSpan.cls ≠ "java/lang/invoke/MethodHandle" ∧ yX12_isSpan.cls ≠ "java/lang/invoke/VarHandle" ∧ (parseMethodDescriptor yX12_isSpan.desc).map (fun d => d.parameters.length) = some 2 := by decide +kernel
theorem mf_X12_isTold : yX12_isTold.cls ≠ "java/lang/invoke/MethodHandle" ∧ yX12_isTold.cls ≠ "java/lang/invoke/VarHandle" ∧ (parseMethodDescriptor yX12_isTold.desc).map (fun d => d.parameters.length) = some 1 := by decide +kernel
theorem mf_X12_isUnder : yX12_isUnder.cls ≠ "java/lang/invoke/MethodHandle" ∧ yX12_isUnder.cls ≠ "java/lang/invoke/VarHandle" ∧ (parseMethodDescriptor yX12_isUnder.desc).map (fun d => d.parameters.length) = some 2 := by decide +kernel
theorem mf_X12_its : yX12_its.cls ≠ "java/lang/invoke/MethodHandle" ∧ yX12_its.cls ≠ "java/lang/invoke/VarHandle" ∧ (parseMethodDescriptor yX12_its.desc).map (fun d => d.parameters.length) = some 2 := by decide +kernel
theorem mf_X12_kindHere : yX12_kindHere.cls ≠ "java/lang/invoke/MethodHandle" ∧ yX12_kindHere.cls ≠ "java/lang/invoke/VarHandle" ∧ (parseMethodDescriptor yX12_kindHere.desc).map (fun d => d.parameters.length) = some 0 := by decide +kernel
theorem mf_X12_mostFor : yX12_mostFor.cls ≠ "java/lang/invoke/MethodHandle" ∧ yX12_mostFor.cls ≠ "java/lang/invoke/VarHandle" ∧ (parseMethodDescriptor yX12_mostFor.desc).map (fun d => d.parameters.length) = some 2 := by decide +kernel
theorem mf_X12_moved : yX12_moved.cls ≠ "java/lang/invoke/MethodHandle" ∧ yX12_moved.cls ≠ "java/lang/invoke/VarHandle" ∧ (parseMethodDescriptor yX12_moved.desc).map (fun d => d.parameters.length) = some 3 := by decide +kernel
theorem mf_X12_narrowed : yX12_narrowed.cls ≠ "java/lang/invoke/MethodHandle" ∧ yX12_narrowed.cls ≠ "java/lang/invoke/VarHandle" ∧ (parseMethodDescriptor yX12_narrowed.desc).map (fun d => d.parameters.length) = some 2 := by decide +kernel
theorem mf_X12_number : yX12_number.cls ≠ "java/lang/invoke/MethodHandle" ∧ yX12_number.cls ≠ "java/lang/invoke/VarHandle" ∧ (parseMethodDescriptor yX12_number.desc).map (fun d => d.parameters.length) = some 1 := by decide +kernel
theorem mf_X12_onShelf : yX12_onShelf.cls ≠ "java/lang/invoke/MethodHandle" ∧ yX12_onShelf.cls ≠ "java/lang/invoke/VarHandle" ∧ (parseMethodDescriptor yX12_onShelf.desc).map (fun d => d.parameters.length) = some 1 := by decide +kernel
theorem mf_X12_one : yX12_one.cls ≠ "java/lang/invoke/MethodHandle" ∧ yX12_one.cls ≠ "java/lang/invoke/VarHandle" ∧ (parseMethodDescriptor yX12_one.desc).map (fun d => d.parameters.length) = some 0 := by decide +kernel
theorem mf_X12_ones : yX12_ones.cls ≠ "java/lang/invoke/MethodHandle" ∧ yX12_ones.cls ≠ "java/lang/invoke/VarHandle" ∧ (parseMethodDescriptor yX12_ones.desc).map (fun d => d.parameters.length) = some 1 := by decide +kernel
theorem mf_X12_parts : yX12_parts.cls ≠ "java/lang/invoke/MethodHandle" ∧ yX12_parts.cls ≠ "java/lang/invoke/VarHandle" ∧ (parseMethodDescriptor yX12_parts.desc).map (fun d => d.parameters.length) = some 1 := by decide +kernel
theorem mf_X12_plainParts : yX12_plainParts.cls ≠ "java/lang/invoke/MethodHandle" ∧ yX12_plainParts.cls ≠ "java/lang/invoke/VarHandle" ∧ (parseMethodDescriptor yX12_plainParts.desc).map (fun d => d.parameters.length) = some 1 := by decide +kernel
theorem mf_X12_plans : yX12_plans.cls ≠ "java/lang/invoke/MethodHandle" ∧ yX12_plans.cls ≠ "java/lang/invoke/VarHandle" ∧ (parseMethodDescriptor yX12_plans.desc).map (fun d => d.parameters.length) = some 3 := by decide +kernel
theorem mf_X12_plansOf : yX12_plansOf.cls ≠ "java/lang/invoke/MethodHandle" ∧ yX12_plansOf.cls ≠ "java/lang/invoke/VarHandle" ∧ (parseMethodDescriptor yX12_plansOf.desc).map (fun d => d.parameters.length) = some 2 := by decide +kernel
theorem mf_X12_played : yX12_played.cls ≠ "java/lang/invoke/MethodHandle" ∧ yX12_played.cls ≠ "java/lang/invoke/VarHandle" ∧ (parseMethodDescriptor yX12_played.desc).map (fun d => d.parameters.length) = some 3 := by decide +kernel
theorem mf_X12_puts : yX12_puts.cls ≠ "java/lang/invoke/MethodHandle" ∧ yX12_puts.cls ≠ "java/lang/invoke/VarHandle" ∧ (parseMethodDescriptor yX12_puts.desc).map (fun d => d.parameters.length) = some 0 := by decide +kernel
theorem mf_X12_putsBack : yX12_putsBack.cls ≠ "java/lang/invoke/MethodHandle" ∧ yX12_putsBack.cls ≠ "java/lang/invoke/VarHandle" ∧ (parseMethodDescriptor yX12_putsBack.desc).map (fun d => d.parameters.length) = some 0 := by decide +kernel
theorem mf_X12_reads : yX12_reads.cls ≠ "java/lang/invoke/MethodHandle" ∧ yX12_reads.cls ≠ "java/lang/invoke/VarHandle" ∧ (parseMethodDescriptor yX12_reads.desc).map (fun d => d.parameters.length) = some 1 := by decide +kernel
theorem mf_X12_rest : yX12_rest.cls ≠ "java/lang/invoke/MethodHandle" ∧ yX12_rest.cls ≠ "java/lang/invoke/VarHandle" ∧ (parseMethodDescriptor yX12_rest.desc).map (fun d => d.parameters.length) = some 1 := by decide +kernel
theorem mf_X12_restTried : yX12_restTried.cls ≠ "java/lang/invoke/MethodHandle" ∧ yX12_restTried.cls ≠ "java/lang/invoke/VarHandle" ∧ (parseMethodDescriptor yX12_restTried.desc).map (fun d => d.parameters.length) = some 1 := by decide +kernel
theorem mf_X12_room : yX12_room.cls ≠ "java/lang/invoke/MethodHandle" ∧ yX12_room.cls ≠ "java/lang/invoke/VarHandle" ∧ (parseMethodDescriptor yX12_room.desc).map (fun d => d.parameters.length) = some 3 := by decide +kernel
theorem mf_X12_rule : yX12_rule.cls ≠ "java/lang/invoke/MethodHandle" ∧ yX12_rule.cls ≠ "java/lang/invoke/VarHandle" ∧ (parseMethodDescriptor yX12_rule.desc).map (fun d => d.parameters.length) = some 0 := by decide +kernel
theorem mf_X12_runs : yX12_runs.cls ≠ "java/lang/invoke/MethodHandle" ∧ yX12_runs.cls ≠ "java/lang/invoke/VarHandle" ∧ (parseMethodDescriptor yX12_runs.desc).map (fun d => d.parameters.length) = some 1 := by decide +kernel
theorem mf_X12_saves : yX12_saves.cls ≠ "java/lang/invoke/MethodHandle" ∧ yX12_saves.cls ≠ "java/lang/invoke/VarHandle" ∧ (parseMethodDescriptor yX12_saves.desc).map (fun d => d.parameters.length) = some 1 := by decide +kernel
theorem mf_X12_steps : yX12_steps.cls ≠ "java/lang/invoke/MethodHandle" ∧ yX12_steps.cls ≠ "java/lang/invoke/VarHandle" ∧ (parseMethodDescriptor yX12_steps.desc).map (fun d => d.parameters.length) = some 2 := by decide +kernel
theorem mf_X12_takesBack : yX12_takesBack.cls ≠ "java/lang/invoke/MethodHandle" ∧ yX12_takesBack.cls ≠ "java/lang/invoke/VarHandle" ∧ (parseMethodDescriptor yX12_takesBack.desc).map (fun d => d.parameters.length) = some 1 := by decide +kernel
theorem mf_X12_those : yX12_those.cls ≠ "java/lang/invoke/MethodHandle" ∧ yX12_those.cls ≠ "java/lang/invoke/VarHandle" ∧ (parseMethodDescriptor yX12_those.desc).map (fun d => d.parameters.length) = some 1 := by decide +kernel
theorem mf_X12_token : yX12_token.cls ≠ "java/lang/invoke/MethodHandle" ∧ yX12_token.cls ≠ "java/lang/invoke/VarHandle" ∧ (parseMethodDescriptor yX12_token.desc).map (fun d => d.parameters.length) = some 0 := by decide +kernel
theorem mf_X12_traced : yX12_traced.cls ≠ "java/lang/invoke/MethodHandle" ∧ yX12_traced.cls ≠ "java/lang/invoke/VarHandle" ∧ (parseMethodDescriptor yX12_traced.desc).map (fun d => d.parameters.length) = some 0 := by decide +kernel
theorem mf_X12_valueHere : yX12_valueHere.cls ≠ "java/lang/invoke/MethodHandle" ∧ yX12_valueHere.cls ≠ "java/lang/invoke/VarHandle" ∧ (parseMethodDescriptor yX12_valueHere.desc).map (fun d => d.parameters.length) = some 0 := by decide +kernel
theorem mf_X12_wants : yX12_wants.cls ≠ "java/lang/invoke/MethodHandle" ∧ yX12_wants.cls ≠ "java/lang/invoke/VarHandle" ∧ (parseMethodDescriptor yX12_wants.desc).map (fun d => d.parameters.length) = some 1 := by decide +kernel
theorem mf_X12_whyNot : yX12_whyNot.cls ≠ "java/lang/invoke/MethodHandle" ∧ yX12_whyNot.cls ≠ "java/lang/invoke/VarHandle" ∧ (parseMethodDescriptor yX12_whyNot.desc).map (fun d => d.parameters.length) = some 2 := by decide +kernel
theorem mf_X12_will : yX12_will.cls ≠ "java/lang/invoke/MethodHandle" ∧ yX12_will.cls ≠ "java/lang/invoke/VarHandle" ∧ (parseMethodDescriptor yX12_will.desc).map (fun d => d.parameters.length) = some 1 := by decide +kernel
theorem mf_X12_windNow : yX12_windNow.cls ≠ "java/lang/invoke/MethodHandle" ∧ yX12_windNow.cls ≠ "java/lang/invoke/VarHandle" ∧ (parseMethodDescriptor yX12_windNow.desc).map (fun d => d.parameters.length) = some 0 := by decide +kernel
theorem mf_X12_word : yX12_word.cls ≠ "java/lang/invoke/MethodHandle" ∧ yX12_word.cls ≠ "java/lang/invoke/VarHandle" ∧ (parseMethodDescriptor yX12_word.desc).map (fun d => d.parameters.length) = some 0 := by decide +kernel
theorem mf_X12_writes : yX12_writes.cls ≠ "java/lang/invoke/MethodHandle" ∧ yX12_writes.cls ≠ "java/lang/invoke/VarHandle" ∧ (parseMethodDescriptor yX12_writes.desc).map (fun d => d.parameters.length) = some 1 := by decide +kernel
theorem mf_X1_actOfLot : yX1_actOfLot.cls ≠ "java/lang/invoke/MethodHandle" ∧ yX1_actOfLot.cls ≠ "java/lang/invoke/VarHandle" ∧ (parseMethodDescriptor yX1_actOfLot.desc).map (fun d => d.parameters.length) = some 1 := by decide +kernel
theorem mf_X1_addKite : yX1_addKite.cls ≠ "java/lang/invoke/MethodHandle" ∧ yX1_addKite.cls ≠ "java/lang/invoke/VarHandle" ∧ (parseMethodDescriptor yX1_addKite.desc).map (fun d => d.parameters.length) = some 4 := by decide +kernel
theorem mf_X1_addReport : yX1_addReport.cls ≠ "java/lang/invoke/MethodHandle" ∧ yX1_addReport.cls ≠ "java/lang/invoke/VarHandle" ∧ (parseMethodDescriptor yX1_addReport.desc).map (fun d => d.parameters.length) = some 4 := by decide +kernel
theorem mf_X1_allKites : yX1_allKites.cls ≠ "java/lang/invoke/MethodHandle" ∧ yX1_allKites.cls ≠ "java/lang/invoke/VarHandle" ∧ (parseMethodDescriptor yX1_allKites.desc).map (fun d => d.parameters.length) = some 0 := by decide +kernel
theorem mf_X1_caseOf : yX1_caseOf.cls ≠ "java/lang/invoke/MethodHandle" ∧ yX1_caseOf.cls ≠ "java/lang/invoke/VarHandle" ∧ (parseMethodDescriptor yX1_caseOf.desc).map (fun d => d.parameters.length) = some 1 := by decide +kernel
theorem mf_X1_copy : yX1_copy.cls ≠ "java/lang/invoke/MethodHandle" ∧ yX1_copy.cls ≠ "java/lang/invoke/VarHandle" ∧ (parseMethodDescriptor yX1_copy.desc).map (fun d => d.parameters.length) = some 1 := by decide +kernel
theorem mf_X1_countCases : yX1_countCases.cls ≠ "java/lang/invoke/MethodHandle" ∧ yX1_countCases.cls ≠ "java/lang/invoke/VarHandle" ∧ (parseMethodDescriptor yX1_countCases.desc).map (fun d => d.parameters.length) = some 0 := by decide +kernel
theorem mf_X1_countFitting : yX1_countFitting.cls ≠ "java/lang/invoke/MethodHandle" ∧ yX1_countFitting.cls ≠ "java/lang/invoke/VarHandle" ∧ (parseMethodDescriptor yX1_countFitting.desc).map (fun d => d.parameters.length) = some 0 := by decide +kernel
theorem mf_X1_drift : yX1_drift.cls ≠ "java/lang/invoke/MethodHandle" ∧ yX1_drift.cls ≠ "java/lang/invoke/VarHandle" ∧ (parseMethodDescriptor yX1_drift.desc).map (fun d => d.parameters.length) = some 1 := by decide +kernel
theorem mf_X1_driftsNow : yX1_driftsNow.cls ≠ "java/lang/invoke/MethodHandle" ∧ yX1_driftsNow.cls ≠ "java/lang/invoke/VarHandle" ∧ (parseMethodDescriptor yX1_driftsNow.desc).map (fun d => d.parameters.length) = some 1 := by decide +kernel
theorem mf_X1_farFromFarm : yX1_farFromFarm.cls ≠ "java/lang/invoke/MethodHandle" ∧ yX1_farFromFarm.cls ≠ "java/lang/invoke/VarHandle" ∧ (parseMethodDescriptor yX1_farFromFarm.desc).map (fun d => d.parameters.length) = some 2 := by decide +kernel
theorem mf_X1_feeOf : yX1_feeOf.cls ≠ "java/lang/invoke/MethodHandle" ∧ yX1_feeOf.cls ≠ "java/lang/invoke/VarHandle" ∧ (parseMethodDescriptor yX1_feeOf.desc).map (fun d => d.parameters.length) = some 1 := by decide +kernel
theorem mf_X1_firstFitting : yX1_firstFitting.cls ≠ "java/lang/invoke/MethodHandle" ∧ yX1_firstFitting.cls ≠ "java/lang/invoke/VarHandle" ∧ (parseMethodDescriptor yX1_firstFitting.desc).map (fun d => d.parameters.length) = some 1 := by decide +kernel
theorem mf_X1_firstInReach : yX1_firstInReach.cls ≠ "java/lang/invoke/MethodHandle" ∧ yX1_firstInReach.cls ≠ "java/lang/invoke/VarHandle" ∧ (parseMethodDescriptor yX1_firstInReach.desc).map (fun d => d.parameters.length) = some 1 := by decide +kernel
theorem mf_X1_fits : yX1_fits.cls ≠ "java/lang/invoke/MethodHandle" ∧ yX1_fits.cls ≠ "java/lang/invoke/VarHandle" ∧ (parseMethodDescriptor yX1_fits.desc).map (fun d => d.parameters.length) = some 3 := by decide +kernel
theorem mf_X1_goByAct : yX1_goByAct.cls ≠ "java/lang/invoke/MethodHandle" ∧ yX1_goByAct.cls ≠ "java/lang/invoke/VarHandle" ∧ (parseMethodDescriptor yX1_goByAct.desc).map (fun d => d.parameters.length) = some 2 := by decide +kernel
theorem mf_X1_goByRest : yX1_goByRest.cls ≠ "java/lang/invoke/MethodHandle" ∧ yX1_goByRest.cls ≠ "java/lang/invoke/VarHandle" ∧ (parseMethodDescriptor yX1_goByRest.desc).map (fun d => d.parameters.length) = some 1 := by decide +kernel
theorem mf_X1_isAsReported : yX1_isAsReported.cls ≠ "java/lang/invoke/MethodHandle" ∧ yX1_isAsReported.cls ≠ "java/lang/invoke/VarHandle" ∧ (parseMethodDescriptor yX1_isAsReported.desc).map (fun d => d.parameters.length) = some 3 := by decide +kernel
theorem mf_X1_isOver : yX1_isOver.cls ≠ "java/lang/invoke/MethodHandle" ∧ yX1_isOver.cls ≠ "java/lang/invoke/VarHandle" ∧ (parseMethodDescriptor yX1_isOver.desc).map (fun d => d.parameters.length) = some 1 := by decide +kernel
theorem mf_X1_isSomeAloftAt : yX1_isSomeAloftAt.cls ≠ "java/lang/invoke/MethodHandle" ∧ yX1_isSomeAloftAt.cls ≠ "java/lang/invoke/VarHandle" ∧ (parseMethodDescriptor yX1_isSomeAloftAt.desc).map (fun d => d.parameters.length) = some 2 := by decide +kernel
theorem mf_X1_isTangledWithSome : yX1_isTangledWithSome.cls ≠ "java/lang/invoke/MethodHandle" ∧ yX1_isTangledWithSome.cls ≠ "java/lang/invoke/VarHandle" ∧ (parseMethodDescriptor yX1_isTangledWithSome.desc).map (fun d => d.parameters.length) = some 2 := by decide +kernel
theorem mf_X1_layFacts : yX1_layFacts.cls ≠ "java/lang/invoke/MethodHandle" ∧ yX1_layFacts.cls ≠ "java/lang/invoke/VarHandle" ∧ (parseMethodDescriptor yX1_layFacts.desc).map (fun d => d.parameters.length) = some 3 := by decide +kernel
theorem mf_X1_tell : yX1_tell.cls ≠ "java/lang/invoke/MethodHandle" ∧ yX1_tell.cls ≠ "java/lang/invoke/VarHandle" ∧ (parseMethodDescriptor yX1_tell.desc).map (fun d => d.parameters.length) = some 2 := by decide +kernel
theorem mf_X1_willOf : yX1_willOf.cls ≠ "java/lang/invoke/MethodHandle" ∧ yX1_willOf.cls ≠ "java/lang/invoke/VarHandle" ∧ (parseMethodDescriptor yX1_willOf.desc).map (fun d => d.parameters.length) = some 2 := by decide +kernel
theorem mf_X1_windOf : yX1_windOf.cls ≠ "java/lang/invoke/MethodHandle" ∧ yX1_windOf.cls ≠ "java/lang/invoke/VarHandle" ∧ (parseMethodDescriptor yX1_windOf.desc).map (fun d => d.parameters.length) = some 1 := by decide +kernel
theorem mf_X2_drifts : yX2_drifts.cls ≠ "java/lang/invoke/MethodHandle" ∧ yX2_drifts.cls ≠ "java/lang/invoke/VarHandle" ∧ (parseMethodDescriptor yX2_drifts.desc).map (fun d => d.parameters.length) = some 2 := by decide +kernel
theorem mf_X2_fee : yX2_fee.cls ≠ "java/lang/invoke/MethodHandle" ∧ yX2_fee.cls ≠ "java/lang/invoke/VarHandle" ∧ (parseMethodDescriptor yX2_fee.desc).map (fun d => d.parameters.length) = some 1 := by decide +kernel
theorem mf_X2_reads : yX2_reads.cls ≠ "java/lang/invoke/MethodHandle" ∧ yX2_reads.cls ≠ "java/lang/invoke/VarHandle" ∧ (parseMethodDescriptor yX2_reads.desc).map (fun d => d.parameters.length) = some 1 := by decide +kernel
theorem mf_X3_flies : yX3_flies.cls ≠ "java/lang/invoke/MethodHandle" ∧ yX3_flies.cls ≠ "java/lang/invoke/VarHandle" ∧ (parseMethodDescriptor yX3_flies.desc).map (fun d => d.parameters.length) = some 1 := by decide +kernel
theorem mf_X4_become : yX4_become.cls ≠ "java/lang/invoke/MethodHandle" ∧ yX4_become.cls ≠ "java/lang/invoke/VarHandle" ∧ (parseMethodDescriptor yX4_become.desc).map (fun d => d.parameters.length) = some 2 := by decide +kernel
theorem mf_X4_begin : yX4_begin.cls ≠ "java/lang/invoke/MethodHandle" ∧ yX4_begin.cls ≠ "java/lang/invoke/VarHandle" ∧ (parseMethodDescriptor yX4_begin.desc).map (fun d => d.parameters.length) = some 1 := by decide +kernel
theorem mf_X4_calls : yX4_calls.cls ≠ "java/lang/invoke/MethodHandle" ∧ yX4_calls.cls ≠ "java/lang/invoke/VarHandle" ∧ (parseMethodDescriptor yX4_calls.desc).map (fun d => d.parameters.length) = some 1 := by decide +kernel
theorem mf_X4_drifts : yX4_drifts.cls ≠ "java/lang/invoke/MethodHandle" ∧ yX4_drifts.cls ≠ "java/lang/invoke/VarHandle" ∧ (parseMethodDescriptor yX4_drifts.desc).map (fun d => d.parameters.length) = some 2 := by decide +kernel
theorem mf_X4_fee : yX4_fee.cls ≠ "java/lang/invoke/MethodHandle" ∧ yX4_fee.cls ≠ "java/lang/invoke/VarHandle" ∧ (parseMethodDescriptor yX4_fee.desc).map (fun d => d.parameters.length) = some 1 := by decide +kernel
theorem mf_X4_flies : yX4_flies.cls ≠ "java/lang/invoke/MethodHandle" ∧ yX4_flies.cls ≠ "java/lang/invoke/VarHandle" ∧ (parseMethodDescriptor yX4_flies.desc).map (fun d => d.parameters.length) = some 1 := by decide +kernel
theorem mf_X4_parts : yX4_parts.cls ≠ "java/lang/invoke/MethodHandle" ∧ yX4_parts.cls ≠ "java/lang/invoke/VarHandle" ∧ (parseMethodDescriptor yX4_parts.desc).map (fun d => d.parameters.length) = some 1 := by decide +kernel
theorem mf_X4_reads : yX4_reads.cls ≠ "java/lang/invoke/MethodHandle" ∧ yX4_reads.cls ≠ "java/lang/invoke/VarHandle" ∧ (parseMethodDescriptor yX4_reads.desc).map (fun d => d.parameters.length) = some 1 := by decide +kernel
theorem mf_X5_parts : yX5_parts.cls ≠ "java/lang/invoke/MethodHandle" ∧ yX5_parts.cls ≠ "java/lang/invoke/VarHandle" ∧ (parseMethodDescriptor yX5_parts.desc).map (fun d => d.parameters.length) = some 1 := by decide +kernel
theorem mf_X5_reads : yX5_reads.cls ≠ "java/lang/invoke/MethodHandle" ∧ yX5_reads.cls ≠ "java/lang/invoke/VarHandle" ∧ (parseMethodDescriptor yX5_reads.desc).map (fun d => d.parameters.length) = some 1 := by decide +kernel
theorem mf_X6_extend : yX6_extend.cls ≠ "java/lang/invoke/MethodHandle" ∧ yX6_extend.cls ≠ "java/lang/invoke/VarHandle" ∧ (parseMethodDescriptor yX6_extend.desc).map (fun d => d.parameters.length) = some 4 := by decide +kernel
theorem mf_X6_search : yX6_search.cls ≠ "java/lang/invoke/MethodHandle" ∧ yX6_search.cls ≠ "java/lang/invoke/VarHandle" ∧ (parseMethodDescriptor yX6_search.desc).map (fun d => d.parameters.length) = some 2 := by decide +kernel
theorem mf_X6_valueFrom : yX6_valueFrom.cls ≠ "java/lang/invoke/MethodHandle" ∧ yX6_valueFrom.cls ≠ "java/lang/invoke/VarHandle" ∧ (parseMethodDescriptor yX6_valueFrom.desc).map (fun d => d.parameters.length) = some 2 := by decide +kernel
theorem mf_X6_valueOfGame : yX6_valueOfGame.cls ≠ "java/lang/invoke/MethodHandle" ∧ yX6_valueOfGame.cls ≠ "java/lang/invoke/VarHandle" ∧ (parseMethodDescriptor yX6_valueOfGame.desc).map (fun d => d.parameters.length) = some 1 := by decide +kernel
theorem mf_X6_weigh : yX6_weigh.cls ≠ "java/lang/invoke/MethodHandle" ∧ yX6_weigh.cls ≠ "java/lang/invoke/VarHandle" ∧ (parseMethodDescriptor yX6_weigh.desc).map (fun d => d.parameters.length) = some 3 := by decide +kernel
theorem mf_X7_flies : yX7_flies.cls ≠ "java/lang/invoke/MethodHandle" ∧ yX7_flies.cls ≠ "java/lang/invoke/VarHandle" ∧ (parseMethodDescriptor yX7_flies.desc).map (fun d => d.parameters.length) = some 1 := by decide +kernel
theorem mf_X8_endOfRow : yX8_endOfRow.cls ≠ "java/lang/invoke/MethodHandle" ∧ yX8_endOfRow.cls ≠ "java/lang/invoke/VarHandle" ∧ (parseMethodDescriptor yX8_endOfRow.desc).map (fun d => d.parameters.length) = some 1 := by decide +kernel
theorem mf_X8_isDigit : yX8_isDigit.cls ≠ "java/lang/invoke/MethodHandle" ∧ yX8_isDigit.cls ≠ "java/lang/invoke/VarHandle" ∧ (parseMethodDescriptor yX8_isDigit.desc).map (fun d => d.parameters.length) = some 1 := by decide +kernel
theorem mf_X8_isLetter : yX8_isLetter.cls ≠ "java/lang/invoke/MethodHandle" ∧ yX8_isLetter.cls ≠ "java/lang/invoke/VarHandle" ∧ (parseMethodDescriptor yX8_isLetter.desc).map (fun d => d.parameters.length) = some 1 := by decide +kernel
theorem mf_X8_isOneRow : yX8_isOneRow.cls ≠ "java/lang/invoke/MethodHandle" ∧ yX8_isOneRow.cls ≠ "java/lang/invoke/VarHandle" ∧ (parseMethodDescriptor yX8_isOneRow.desc).map (fun d => d.parameters.length) = some 2 := by decide +kernel
theorem mf_X8_isStill : yX8_isStill.cls ≠ "java/lang/invoke/MethodHandle" ∧ yX8_isStill.cls ≠ "java/lang/invoke/VarHandle" ∧ (parseMethodDescriptor yX8_isStill.desc).map (fun d => d.parameters.length) = some 0 := by decide +kernel
theorem mf_X8_isValue : yX8_isValue.cls ≠ "java/lang/invoke/MethodHandle" ∧ yX8_isValue.cls ≠ "java/lang/invoke/VarHandle" ∧ (parseMethodDescriptor yX8_isValue.desc).map (fun d => d.parameters.length) = some 1 := by decide +kernel
theorem mf_X8_numberOf : yX8_numberOf.cls ≠ "java/lang/invoke/MethodHandle" ∧ yX8_numberOf.cls ≠ "java/lang/invoke/VarHandle" ∧ (parseMethodDescriptor yX8_numberOf.desc).map (fun d => d.parameters.length) = some 2 := by decide +kernel
theorem mf_X8_operandOf : yX8_operandOf.cls ≠ "java/lang/invoke/MethodHandle" ∧ yX8_operandOf.cls ≠ "java/lang/invoke/VarHandle" ∧ (parseMethodDescriptor yX8_operandOf.desc).map (fun d => d.parameters.length) = some 1 := by decide +kernel
theorem mf_X8_pass : yX8_pass.cls ≠ "java/lang/invoke/MethodHandle" ∧ yX8_pass.cls ≠ "java/lang/invoke/VarHandle" ∧ (parseMethodDescriptor yX8_pass.desc).map (fun d => d.parameters.length) = some 1 := by decide +kernel
theorem mf_X8_readAll : yX8_readAll.cls ≠ "java/lang/invoke/MethodHandle" ∧ yX8_readAll.cls ≠ "java/lang/invoke/VarHandle" ∧ (parseMethodDescriptor yX8_readAll.desc).map (fun d => d.parameters.length) = some 1 := by decide +kernel
theorem mf_X8_readAny : yX8_readAny.cls ≠ "java/lang/invoke/MethodHandle" ∧ yX8_readAny.cls ≠ "java/lang/invoke/VarHandle" ∧ (parseMethodDescriptor yX8_readAny.desc).map (fun d => d.parameters.length) = some 1 := by decide +kernel
theorem mf_X8_readComparison : yX8_readComparison.cls ≠ "java/lang/invoke/MethodHandle" ∧ yX8_readComparison.cls ≠ "java/lang/invoke/VarHandle" ∧ (parseMethodDescriptor yX8_readComparison.desc).map (fun d => d.parameters.length) = some 0 := by decide +kernel
theorem mf_X8_readInto : yX8_readInto.cls ≠ "java/lang/invoke/MethodHandle" ∧ yX8_readInto.cls ≠ "java/lang/invoke/VarHandle" ∧ (parseMethodDescriptor yX8_readInto.desc).map (fun d => d.parameters.length) = some 1 := by decide +kernel
theorem mf_X8_readOne : yX8_readOne.cls ≠ "java/lang/invoke/MethodHandle" ∧ yX8_readOne.cls ≠ "java/lang/invoke/VarHandle" ∧ (parseMethodDescriptor yX8_readOne.desc).map (fun d => d.parameters.length) = some 1 := by decide +kernel
theorem mf_X8_readRule : yX8_readRule.cls ≠ "java/lang/invoke/MethodHandle" ∧ yX8_readRule.cls ≠ "java/lang/invoke/VarHandle" ∧ (parseMethodDescriptor yX8_readRule.desc).map (fun d => d.parameters.length) = some 0 := by decide +kernel
theorem mf_X8_readTokens : yX8_readTokens.cls ≠ "java/lang/invoke/MethodHandle" ∧ yX8_readTokens.cls ≠ "java/lang/invoke/VarHandle" ∧ (parseMethodDescriptor yX8_readTokens.desc).map (fun d => d.parameters.length) = some 0 := by decide +kernel
theorem mf_X8_take : yX8_take.cls ≠ "java/lang/invoke/MethodHandle" ∧ yX8_take.cls ≠ "java/lang/invoke/VarHandle" ∧ (parseMethodDescriptor yX8_take.desc).map (fun d => d.parameters.length) = some 2 := by decide +kernel
theorem mf_X8_token : yX8_token.cls ≠ "java/lang/invoke/MethodHandle" ∧ yX8_token.cls ≠ "java/lang/invoke/VarHandle" ∧ (parseMethodDescriptor yX8_token.desc).map (fun d => d.parameters.length) = some 0 := by decide +kernel
theorem mf_X8_tokenOf : yX8_tokenOf.cls ≠ "java/lang/invoke/MethodHandle" ∧ yX8_tokenOf.cls ≠ "java/lang/invoke/VarHandle" ∧ (parseMethodDescriptor yX8_tokenOf.desc).map (fun d => d.parameters.length) = some 2 := by decide +kernel
theorem mf_X8_wordOf : yX8_wordOf.cls ≠ "java/lang/invoke/MethodHandle" ∧ yX8_wordOf.cls ≠ "java/lang/invoke/VarHandle" ∧ (parseMethodDescriptor yX8_wordOf.desc).map (fun d => d.parameters.length) = some 2 := by decide +kernel
theorem mf_X9_addCode : yX9_addCode.cls ≠ "java/lang/invoke/MethodHandle" ∧ yX9_addCode.cls ≠ "java/lang/invoke/VarHandle" ∧ (parseMethodDescriptor yX9_addCode.desc).map (fun d => d.parameters.length) = some 1 := by decide +kernel
theorem mf_X9_addRule : yX9_addRule.cls ≠ "java/lang/invoke/MethodHandle" ∧ yX9_addRule.cls ≠ "java/lang/invoke/VarHandle" ∧ (parseMethodDescriptor yX9_addRule.desc).map (fun d => d.parameters.length) = some 3 := by decide +kernel
theorem mf_X9_clear : yX9_clear.cls ≠ "java/lang/invoke/MethodHandle" ∧ yX9_clear.cls ≠ "java/lang/invoke/VarHandle" ∧ (parseMethodDescriptor yX9_clear.desc).map (fun d => d.parameters.length) = some 0 := by decide +kernel
theorem mf_X9_compares : yX9_compares.cls ≠ "java/lang/invoke/MethodHandle" ∧ yX9_compares.cls ≠ "java/lang/invoke/VarHandle" ∧ (parseMethodDescriptor yX9_compares.desc).map (fun d => d.parameters.length) = some 3 := by decide +kernel
theorem mf_X9_copy : yX9_copy.cls ≠ "java/lang/invoke/MethodHandle" ∧ yX9_copy.cls ≠ "java/lang/invoke/VarHandle" ∧ (parseMethodDescriptor yX9_copy.desc).map (fun d => d.parameters.length) = some 1 := by decide +kernel
theorem mf_X9_doFor : yX9_doFor.cls ≠ "java/lang/invoke/MethodHandle" ∧ yX9_doFor.cls ≠ "java/lang/invoke/VarHandle" ∧ (parseMethodDescriptor yX9_doFor.desc).map (fun d => d.parameters.length) = some 1 := by decide +kernel
theorem mf_X9_isSo : yX9_isSo.cls ≠ "java/lang/invoke/MethodHandle" ∧ yX9_isSo.cls ≠ "java/lang/invoke/VarHandle" ∧ (parseMethodDescriptor yX9_isSo.desc).map (fun d => d.parameters.length) = some 1 := by decide +kernel
theorem mfs_X0_drifts : yX0_drifts.name ≠ "<init>" ∧ (parseMethodDescriptor yX0_drifts.desc).map (fun d => d.parameters.length) = some 2 := by decide +kernel
theorem mfs_X0_fee : yX0_fee.name ≠ "<init>" ∧ (parseMethodDescriptor yX0_fee.desc).map (fun d => d.parameters.length) = some 1 := by decide +kernel
theorem mfs_X0_parts : yX0_parts.name ≠ "<init>" ∧ (parseMethodDescriptor yX0_parts.desc).map (fun d => d.parameters.length) = some 1 := by decide +kernel
theorem mfs_X2_drifts : yX2_drifts.name ≠ "<init>" ∧ (parseMethodDescriptor yX2_drifts.desc).map (fun d => d.parameters.length) = some 2 := by decide +kernel
theorem mfs_X2_fee : yX2_fee.name ≠ "<init>" ∧ (parseMethodDescriptor yX2_fee.desc).map (fun d => d.parameters.length) = some 1 := by decide +kernel
theorem mfs_X4_calls : yX4_calls.name ≠ "<init>" ∧ (parseMethodDescriptor yX4_calls.desc).map (fun d => d.parameters.length) = some 1 := by decide +kernel
theorem mfs_X4_drifts : yX4_drifts.name ≠ "<init>" ∧ (parseMethodDescriptor yX4_drifts.desc).map (fun d => d.parameters.length) = some 2 := by decide +kernel
theorem mfs_X4_fee : yX4_fee.name ≠ "<init>" ∧ (parseMethodDescriptor yX4_fee.desc).map (fun d => d.parameters.length) = some 1 := by decide +kernel
theorem mfs_X4_flies : yX4_flies.name ≠ "<init>" ∧ (parseMethodDescriptor yX4_flies.desc).map (fun d => d.parameters.length) = some 1 := by decide +kernel
theorem mfs_X4_parts : yX4_parts.name ≠ "<init>" ∧ (parseMethodDescriptor yX4_parts.desc).map (fun d => d.parameters.length) = some 1 := by decide +kernel
theorem mfs_X4_reads : yX4_reads.name ≠ "<init>" ∧ (parseMethodDescriptor yX4_reads.desc).map (fun d => d.parameters.length) = some 1 := by decide +kernel
theorem mfu_X2_reads : "KiteSummons$Heavy" ≠ "java/lang/invoke/MethodHandle" ∧ "KiteSummons$Heavy" ≠ "java/lang/invoke/VarHandle" ∧ (parseMethodDescriptor "(I)I").map (fun d => d.parameters.length) = some 1 := by decide +kernel
theorem mfu_X4_become : "KiteSummons$Kite" ≠ "java/lang/invoke/MethodHandle" ∧ "KiteSummons$Kite" ≠ "java/lang/invoke/VarHandle" ∧ (parseMethodDescriptor "(II)V").map (fun d => d.parameters.length) = some 2 := by decide +kernel
theorem mfu_X4_begin : "KiteSummons$Kite" ≠ "java/lang/invoke/MethodHandle" ∧ "KiteSummons$Kite" ≠ "java/lang/invoke/VarHandle" ∧ (parseMethodDescriptor "(I)V").map (fun d => d.parameters.length) = some 1 := by decide +kernel
theorem mfu_X4_calls : "KiteSummons$Kite" ≠ "java/lang/invoke/MethodHandle" ∧ "KiteSummons$Kite" ≠ "java/lang/invoke/VarHandle" ∧ (parseMethodDescriptor "(I)I").map (fun d => d.parameters.length) = some 1 := by decide +kernel
theorem mfu_X4_drifts : "KiteSummons$Kite" ≠ "java/lang/invoke/MethodHandle" ∧ "KiteSummons$Kite" ≠ "java/lang/invoke/VarHandle" ∧ (parseMethodDescriptor "(II)I").map (fun d => d.parameters.length) = some 2 := by decide +kernel
theorem mfu_X4_fee : "KiteSummons$Kite" ≠ "java/lang/invoke/MethodHandle" ∧ "KiteSummons$Kite" ≠ "java/lang/invoke/VarHandle" ∧ (parseMethodDescriptor "(I)I").map (fun d => d.parameters.length) = some 1 := by decide +kernel
theorem mfu_X4_flies : "KiteSummons$Kite" ≠ "java/lang/invoke/MethodHandle" ∧ "KiteSummons$Kite" ≠ "java/lang/invoke/VarHandle" ∧ (parseMethodDescriptor "(I)I").map (fun d => d.parameters.length) = some 1 := by decide +kernel
theorem mfu_X4_parts : "KiteSummons$Kite" ≠ "java/lang/invoke/MethodHandle" ∧ "KiteSummons$Kite" ≠ "java/lang/invoke/VarHandle" ∧ (parseMethodDescriptor "(I)I").map (fun d => d.parameters.length) = some 1 := by decide +kernel
theorem mfu_X4_reads : "KiteSummons$Kite" ≠ "java/lang/invoke/MethodHandle" ∧ "KiteSummons$Kite" ≠ "java/lang/invoke/VarHandle" ∧ (parseMethodDescriptor "(I)I").map (fun d => d.parameters.length) = some 1 := by decide +kernel
theorem zgetK3 {p : Program} {l : Launch} {e : Env} {R : Room} {s : State} {m : MethodId} {args : Array Value} {below : List Frame} {meth : Method} {c : Code} {H : Heap} {locs : List Loc} {cells slots : Nat} {Q : State → Prop} {cc : ByteArray} {nL : Nat} {own : String} {D : va_G} {cy : Cy} {ad : Nat → Nat} {A : Nat → Prop} {σ : Sg} {pc idx : Nat} {ls : Array Slot} {rest : List Value} (E : ZE p s m args c cc nL own D cy 97 ad A) (hw : ZS D 97 (celC ad cy) ad A s σ H locs) {i : Nat} (hi : i < 6) (hlink : Cond.fieldLink own idx "KiteSummons$Kite" "begun" "I" ∈ TT) (hdg : decode cc pc = .ok (.getfield idx, 3)) (kk : W p l e R s m args below meth c H locs cells slots Q (F0 m (pc + 3) ls (.int (σ (3 + i) 3) :: rest))) : W p l e R s m args below meth c H locs cells slots Q (F0 m pc ls (.ref (ad (3 + i)) :: rest)) := by
  match i, hi, kk with
  | 0, _, kk => exact zget E hw (Nat.le_of_ble_eq_true rfl) (ceC_3 ad cy _) rfl inX4 3 (by decide) hlink (fun _ h => h) rfl hdg kk
  | 1, _, kk => exact zget E hw (Nat.le_of_ble_eq_true rfl) (ceC_4 ad cy _) rfl inX7 3 (by decide) hlink (fun _ h => h) rfl hdg kk
  | 2, _, kk => exact zget E hw (Nat.le_of_ble_eq_true rfl) (ceC_5 ad cy _) rfl inX2 3 (by decide) hlink (fun _ h => h) rfl hdg kk
  | 3, _, kk => exact zget E hw (Nat.le_of_ble_eq_true rfl) (ceC_6 ad cy _) rfl inX3 3 (by decide) hlink (fun _ h => h) rfl hdg kk
  | 4, _, kk => exact zget E hw (Nat.le_of_ble_eq_true rfl) (ceC_7 ad cy _) rfl inX0 3 (by decide) hlink (fun _ h => h) rfl hdg kk
  | 5, _, kk => exact zget E hw (Nat.le_of_ble_eq_true rfl) (ceC_8 ad cy _) rfl inX5 3 (by decide) hlink (fun _ h => h) rfl hdg kk
  | k + 6, hi, _ => exact absurd hi (by omega)
theorem zgetK4 {p : Program} {l : Launch} {e : Env} {R : Room} {s : State} {m : MethodId} {args : Array Value} {below : List Frame} {meth : Method} {c : Code} {H : Heap} {locs : List Loc} {cells slots : Nat} {Q : State → Prop} {cc : ByteArray} {nL : Nat} {own : String} {D : va_G} {cy : Cy} {ad : Nat → Nat} {A : Nat → Prop} {σ : Sg} {pc idx : Nat} {ls : Array Slot} {rest : List Value} (E : ZE p s m args c cc nL own D cy 97 ad A) (hw : ZS D 97 (celC ad cy) ad A s σ H locs) {i : Nat} (hi : i < 6) (hlink : Cond.fieldLink own idx "KiteSummons$Kite" "isPartedBy0" "Z" ∈ TT) (hdg : decode cc pc = .ok (.getfield idx, 3)) (kk : W p l e R s m args below meth c H locs cells slots Q (F0 m (pc + 3) ls (.int (σ (3 + i) 4) :: rest))) : W p l e R s m args below meth c H locs cells slots Q (F0 m pc ls (.ref (ad (3 + i)) :: rest)) := by
  match i, hi, kk with
  | 0, _, kk => exact zget E hw (Nat.le_of_ble_eq_true rfl) (ceC_3 ad cy _) rfl inX4 4 (by decide) hlink (fun _ h => h) rfl hdg kk
  | 1, _, kk => exact zget E hw (Nat.le_of_ble_eq_true rfl) (ceC_4 ad cy _) rfl inX7 4 (by decide) hlink (fun _ h => h) rfl hdg kk
  | 2, _, kk => exact zget E hw (Nat.le_of_ble_eq_true rfl) (ceC_5 ad cy _) rfl inX2 4 (by decide) hlink (fun _ h => h) rfl hdg kk
  | 3, _, kk => exact zget E hw (Nat.le_of_ble_eq_true rfl) (ceC_6 ad cy _) rfl inX3 4 (by decide) hlink (fun _ h => h) rfl hdg kk
  | 4, _, kk => exact zget E hw (Nat.le_of_ble_eq_true rfl) (ceC_7 ad cy _) rfl inX0 4 (by decide) hlink (fun _ h => h) rfl hdg kk
  | 5, _, kk => exact zget E hw (Nat.le_of_ble_eq_true rfl) (ceC_8 ad cy _) rfl inX5 4 (by decide) hlink (fun _ h => h) rfl hdg kk
  | k + 6, hi, _ => exact absurd hi (by omega)
