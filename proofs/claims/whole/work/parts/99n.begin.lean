/-! what holds at the law's entry -/
theorem b_NW {s : State} {A : Array Value} (hts : ∀ w ∈ lw_tbl, w.before A s = true) : NWok s := fun w hw hn => va_Nw.of (by cases w <;> first | rfl | (simp [nestWord] at hn)) (hts w hw)
theorem b_w1 : Cond.arrayOver (.object "KiteSummons$Kite") ∈ lw_tbl := by decide +kernel
theorem b_w2 : Cond.arrayOver (.object "KiteSummons$Sky") ∈ lw_tbl := by decide +kernel
theorem b_w3 : Cond.arrayOver (.array .int) ∈ lw_tbl := by decide +kernel
theorem b_w4 : Cond.arrayOver (.array .long) ∈ lw_tbl := by decide +kernel
theorem b_w5 : Cond.stringRef "KiteSummons$RuleReader" 95 strW ∈ lw_tbl := by decide +kernel
theorem b_w6 : Cond.laysStatic "java/lang/String" "COMPACT_STRINGS" "Z" ∈ lw_tbl := by decide +kernel
theorem b_w7 : Cond.laysStatic "jdk/internal/util/Preconditions" "SIOOBE_FORMATTER" "Ljava/util/function/BiFunction;" ∈ lw_tbl := by decide +kernel
theorem b_AO {s : State} {A : Array Value} (hts : ∀ w ∈ lw_tbl, w.before A s = true) : AOk s := ⟨hts _ b_w1, hts _ b_w2, hts _ b_w3, hts _ b_w4⟩
abbrev b_fl : List Cond := flatC (Jvm.Cond.and given_1 narrow_1)
theorem b_f1 : Cond.exactly (.string "KiteSummons$RuleReader" 95) "java/lang/String" ∈ b_fl := by decide +kernel
theorem b_f2 : Cond.eq (.field (.string "KiteSummons$RuleReader" 95) "java/lang/String" "coder" "B") (.int 0) ∈ b_fl := by decide +kernel
theorem b_f3 : Cond.arrayOf (.field (.string "KiteSummons$RuleReader" 95) "java/lang/String" "value" "[B") .byte ∈ b_fl := by decide +kernel
theorem b_f4 : Cond.eq (.length (.field (.string "KiteSummons$RuleReader" 95) "java/lang/String" "value" "[B")) (.int (Int32.ofNat 86)) ∈ b_fl := by decide +kernel
theorem b_f5 : ∀ j, j < 86 → Cond.eq (.elem (.field (.string "KiteSummons$RuleReader" 95) "java/lang/String" "value" "[B") (.int (Int32.ofNat j))) (.int (strB.getD j 0)) ∈ b_fl := by decide +kernel
theorem b_f6 : Cond.eq (.static "java/lang/String" "COMPACT_STRINGS" "Z") (.int 1) ∈ b_fl := by decide +kernel
theorem b_f7 : Cond.isRef (.static "jdk/internal/util/Preconditions" "SIOOBE_FORMATTER" "Ljava/util/function/BiFunction;") ∈ b_fl := by decide +kernel
theorem b_strX {s : State} {A : Array Value} (hts : ∀ w ∈ lw_tbl, w.before A s = true) (hgv : (Jvm.Cond.and given_1 narrow_1).before A s = true) : strX (fun q => s.heap.size ≤ q) s s.heap := by
  have hs := flat_of_before _ hgv
  have hA : ∀ a : Nat, a < s.heap.size → ¬ (fun q : Nat => s.heap.size ≤ q) a := fun a h => Nat.not_le.mpr h
  have one : ∀ {P : Nat → Prop}, P 0 → ∀ i : Nat, i < 1 → P i := fun {P} h i hi => by
    have h0 : i = 0 := by omega
    subst h0
    exact h
  obtain ⟨aK, aV, h1, h2⟩ := vk_Sof (args := A) (s := s) (N := 1) (tm := fun _ => Term.string "KiteSummons$RuleReader" 95) (len := [86]) (byt := [strB]) (A := fun q => s.heap.size ≤ q)
    (one (P := fun i => ([86] : List Nat).getD i 0 < 2 ^ 31) (by decide)) (fun _ _ => hs _ b_f1) (fun _ _ => hs _ b_f2) (fun _ _ => hs _ b_f3) (one (P := fun i => (Cond.eq (.length (.field (.string "KiteSummons$RuleReader" 95) "java/lang/String" "value" "[B")) (.int (Int32.ofNat (([86] : List Nat).getD i 0)))).before A s = true) (hs _ b_f4))
    (one (P := fun i => ∀ j : Nat, j < ([86] : List Nat).getD i 0 → (Cond.eq (.elem (.field (.string "KiteSummons$RuleReader" 95) "java/lang/String" "value" "[B") (.int (Int32.ofNat j))) (.int ((([strB] : List (List Int32)).getD i []).getD j 0))).before A s = true) (fun j hj => hs _ (b_f5 j hj)))
    (fun i j hi hj hij => absurd (show i = j by omega) hij) hA
  exact ⟨⟨aK, aV, vk_R.of (hts _ b_w5) (h2 0 (by decide)), h1⟩, va_Zof (hts _ b_w6) (hts _ (TT_in _ k1_16)) (va_eqi (hs _ b_f6)) hA, va_Zqof (hts _ b_w7) (hts _ (TT_in _ k1_18)) (hs _ b_f7) hA⟩
theorem b_cls {s : State} {A : Array Value} (ht : ∀ w ∈ TT, w.before A s = true) : ∃ D : va_G, ∀ (k : Nat) (q : vw_C), vwCl[k]? = some q → u_Kn s q.1 q.2.1 q.2.2 (D.1 k) (D.2 k) := by
  have h0 : ∀ k : Nat, ∃ z : ClassId × (Nat → Nat), ∀ q : vw_C, vwCl[k]? = some q → u_Kn s q.1 q.2.1 q.2.2 z.1 z.2 := by
    intro k
    match k with
    | 0 =>
      obtain ⟨c, i, h⟩ := u_known (C := RX0) (T := TX0) (N := 5) ht inX0 (ht _ k1_212)
      exact ⟨(c, i), fun q hq => by cases hq; exact h⟩
    | 1 =>
      obtain ⟨c, i, h⟩ := u_known (C := RX1) (T := TX1) (N := 16) ht inX1 (ht _ k1_236)
      exact ⟨(c, i), fun q hq => by cases hq; exact h⟩
    | 2 =>
      obtain ⟨c, i, h⟩ := u_known (C := RX2) (T := TX2) (N := 5) ht inX2 (ht _ k1_188)
      exact ⟨(c, i), fun q hq => by cases hq; exact h⟩
    | 3 =>
      obtain ⟨c, i, h⟩ := u_known (C := RX3) (T := TX3) (N := 5) ht inX3 (ht _ k1_200)
      exact ⟨(c, i), fun q hq => by cases hq; exact h⟩
    | 4 =>
      obtain ⟨c, i, h⟩ := u_known (C := RX4) (T := TX4) (N := 5) ht inX4 (ht _ k1_143)
      exact ⟨(c, i), fun q hq => by cases hq; exact h⟩
    | 5 =>
      obtain ⟨c, i, h⟩ := u_known (C := RX5) (T := TX5) (N := 5) ht inX5 (ht _ k1_224)
      exact ⟨(c, i), fun q hq => by cases hq; exact h⟩
    | 6 =>
      obtain ⟨c, i, h⟩ := u_known (C := RX6) (T := TX6) (N := 11) ht inX6 (ht _ k2_71)
      exact ⟨(c, i), fun q hq => by cases hq; exact h⟩
    | 7 =>
      obtain ⟨c, i, h⟩ := u_known (C := RX7) (T := TX7) (N := 5) ht inX7 (ht _ k1_176)
      exact ⟨(c, i), fun q hq => by cases hq; exact h⟩
    | 8 =>
      obtain ⟨c, i, h⟩ := u_known (C := RX8) (T := TX8) (N := 8) ht inX8 (ht _ k1_33)
      exact ⟨(c, i), fun q hq => by cases hq; exact h⟩
    | 9 =>
      obtain ⟨c, i, h⟩ := u_known (C := RX9) (T := TX9) (N := 8) ht inX9 (ht _ k1_39)
      exact ⟨(c, i), fun q hq => by cases hq; exact h⟩
    | 10 =>
      obtain ⟨c, i, h⟩ := u_known (C := RX10) (T := TX10) (N := 6) ht inX10 (ht _ k1_102)
      exact ⟨(c, i), fun q hq => by cases hq; exact h⟩
    | 11 =>
      obtain ⟨c, i, h⟩ := u_known (C := RX11) (T := TX11) (N := 17) ht inX11 (ht _ k1_23)
      exact ⟨(c, i), fun q hq => by cases hq; exact h⟩
    | 12 =>
      obtain ⟨c, i, h⟩ := u_known (C := RX12) (T := TX12) (N := 40) ht inX12 (ht _ k5_218)
      exact ⟨(c, i), fun q hq => by cases hq; exact h⟩
    | k + 13 => exact ⟨(0, fun _ => 0), fun q hq => by simp [vwCl] at hq⟩
  obtain ⟨z, hz⟩ := Classical.axiomOfChoice h0
  exact ⟨(fun k => (z k).1, fun k => (z k).2), fun k q hq => hz k q hq⟩
theorem b_prim {s : State} {A : Array Value} {ty : FieldType} (h : (Cond.arrayClass ty).before A s = true) (hq : ∀ c, s.vm.findClass (FieldType.array ty).toString = some c → va_RA s c ty) : ∃ c : ClassId, ArrOfT s c ty ∧ va_RA s c ty := by
  obtain ⟨cC, kC, cc, h1, h2, h3⟩ := Cond.arrayClass_spec h
  exact ⟨cC, fun N z => ⟨(fun q hq => by cases hq), kC, h2, cc, h3⟩, hq cC h1⟩
theorem b_obj {s : State} {A : Array Value} {C : String} (h : (Cond.arrayOver (.object C)).before A s = true) : ∃ c : ClassId, ArrOfT s c (.object C) ∧ va_RA s c (.object C) := by
  obtain ⟨comp, c, k, h1, -, h3, h4, h5⟩ := Cond.arrayOver_spec h
  exact ⟨c, fun N z => ⟨(fun q hq => by cases hq), k, h3, comp, h4⟩, k, comp, h3, h4, h1, h5⟩
theorem b_arr {s : State} {A : Array Value} {t : FieldType} (h : (Cond.arrayOver (.array t)).before A s = true) : ∃ c : ClassId, ArrOfT s c (.array t) ∧ va_RA s c (.array t) := by
  obtain ⟨comp, c, k, h1, h3, h4, h5⟩ := r_over h
  exact ⟨c, fun N z => ⟨(fun q hq => by cases hq), k, h3, comp, h4⟩, h5⟩
theorem b_K {s : State} {A : Array Value} (hts : ∀ w ∈ lw_tbl, w.before A s = true) : ∃ (D : va_G) (cy : Cy), va_K D vwCl (tysG cy) s := by
  have ht : ∀ w ∈ TT, w.before A s = true := fun w h => hts w (TT_in w h)
  obtain ⟨D, hD⟩ := b_cls ht
  obtain ⟨c0, h0⟩ := b_prim (ty := .byte) (ht _ k1_74) (fun _ h => h)
  obtain ⟨c1, h1⟩ := b_prim (ty := .int) (ht _ k1_73) (fun _ h => h)
  obtain ⟨c2, h2⟩ := b_prim (ty := .long) (ht _ k1_174) (fun _ h => h)
  obtain ⟨c3, h3⟩ := b_obj (hts _ b_w1)
  obtain ⟨c4, h4⟩ := b_obj (hts _ b_w2)
  obtain ⟨c5, h5⟩ := b_arr (hts _ b_w3)
  obtain ⟨c6, h6⟩ := b_arr (hts _ b_w4)
  refine ⟨D, fun k => ([c0, c1, c2, c3, c4, c5, c6] : List ClassId).getD k 0, hD, fun k q hq => ?_⟩
  match k, hq with
  | 0, hq => cases hq; exact h0
  | 1, hq => cases hq; exact h1
  | 2, hq => cases hq; exact h2
  | 3, hq => cases hq; exact h3
  | 4, hq => cases hq; exact h4
  | 5, hq => cases hq; exact h5
  | 6, hq => cases hq; exact h6
  | k + 7, hq => simp at hq
