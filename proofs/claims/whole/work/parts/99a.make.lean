/-! making: what a constructor starts from, new cells, a call on a new object -/
theorem ao_moved {t : FieldType} {u U : State} (hvm : u.vm.Alike U.vm) (h : (Cond.arrayOver (.array t)).before #[] u = true) : (Cond.arrayOver (.array t)).before #[] U = true := by
  have hb : U.vm.bare = u.vm.bare := by first | exact hvm.bare_eq | exact hvm.bare_eq.symm
  unfold Cond.before Cond.holds at h ⊢
  simp only [Cond.value, beq_iff_eq] at h ⊢
  rw [hvm.findClass]
  cases hc : u.vm.findClass (FieldType.array t).toString with
  | none => simp [hc] at h
  | some comp =>
    have hi := va_idx_bare U.vm comp
    rw [hb] at hi
    have hi2 := hi.symm.trans (va_idx_bare u.vm comp)
    simp only [hc, Option.bind_some, Option.bind_eq_some_iff, Option.map_eq_some_iff] at h ⊢
    obtain ⟨c, h1, k, h2, h3⟩ := h
    obtain ⟨k', hk', he⟩ := hvm.2.2 _ _ h2
    refine ⟨c, hi2.trans h1, k', hk', ?_⟩
    rw [he, hvm.findClass]
    exact h3
def AOk (U : State) : Prop := va_AO "KiteSummons$Kite" U ∧ va_AO "KiteSummons$Sky" U ∧ (Cond.arrayOver (.array .int)).before #[] U = true ∧ (Cond.arrayOver (.array .long)).before #[] U = true
theorem AOk.moved {u U : State} (hvm : u.vm.Alike U.vm) (h : AOk u) : AOk U := ⟨va_AO.moved hvm h.1, va_AO.moved hvm h.2.1, ao_moved hvm h.2.2.1, ao_moved hvm h.2.2.2⟩
def zPn (D : va_G) (cy : Cy) (sz : Nat) (ws : va_W) (av : List Value) : Array Value → State → Prop := va_Pc av (fun U => U.heap.size = sz ∧ va_P D vwCl ws U.heap ∧ va_K D vwCl (tysG cy) U ∧ NWok U ∧ AOk U)
theorem zPn_blind {D : va_G} {cy : Cy} {sz : Nat} {ws : va_W} {av : List Value} : FrameBlind (zPn D cy sz ws av) := fun a U g mk q => ⟨q.1, q.2.1, q.2.2.1, va_K.moved (u := U) (U := U.calling g mk a) (Vm.Alike.refl U.vm) q.2.2.2.1, NWok.same (u := U) (U := U.calling g mk a) rfl q.2.2.2.2.1, AOk.moved (u := U) (U := U.calling g mk a) (Vm.Alike.refl U.vm) q.2.2.2.2.2⟩
def zQn (D : va_G) (w : (Nat → Nat) → va_W) (A : Nat → Prop) : Array Value → State → Outcome → State → Prop := va_Qv (fun _ : Nat → Nat => True) (fun u t => va_P D vwCl (w u) t.heap ∧ va_D A (w u)) A
def ZI (p : Program) (s : State) (m : MethodId) (args : Array Value) (c : Code) (cc : ByteArray) (nL : Nat) (own : String) (D : va_G) (cy : Cy) : Prop :=
  p.tables.exec = Jvm.exec ∧ c.code = cc ∧ c.maxLocals = nL ∧ s.vm.findClass own = some m.cls ∧ (∀ w ∈ TT, w.before args s = true) ∧ va_K D vwCl (tysG cy) s ∧ NWok s ∧ AOk s
section ZMK
variable {p : Program} {l : Launch} {e : Env} {R : Room} {s : State} {m : MethodId} {args : Array Value} {below : List Frame} {meth : Method} {c : Code} {H : Heap} {locs : List Loc} {cells slots : Nat} {Q : State → Prop}
variable {cc : ByteArray} {nL : Nat} {own : String} {D : va_G} {cy : Cy} {A : Nat → Prop} {ws : va_W} {H0 : Heap}
variable {pc : Nat} {ls : Array Slot} {rest : List Value}
theorem ZI.hx (E : ZI p s m args c cc nL own D cy) : p.tables.exec = Jvm.exec := E.1
theorem ZI.hb (E : ZI p s m args c cc nL own D cy) : c.code = cc := E.2.1
theorem ZI.hml (E : ZI p s m args c cc nL own D cy) : c.maxLocals = nL := E.2.2.1
theorem ZI.hown (E : ZI p s m args c cc nL own D cy) : s.vm.findClass own = some m.cls := E.2.2.2.1
theorem ZI.ht (E : ZI p s m args c cc nL own D cy) : ∀ w ∈ TT, w.before args s = true := E.2.2.2.2.1
theorem ZI.hK (E : ZI p s m args c cc nL own D cy) : va_K D vwCl (tysG cy) s := E.2.2.2.2.2.1
theorem ZI.hN (E : ZI p s m args c cc nL own D cy) : NWok s := E.2.2.2.2.2.2.1
theorem ZI.hO (E : ZI p s m args c cc nL own D cy) : AOk s := E.2.2.2.2.2.2.2
theorem ZI.fix (E : ZI p s m args c cc nL own D cy) : CallFix p m c cc nL s args TT own := ⟨E.hx, E.hb, E.hml, E.hown, E.ht⟩
theorem nPre (E : ZI p s m args c cc nL own D cy) (hP : va_P D vwCl ws H) (av : List Value) : PreS s H (zPn D cy H.size ws av) av :=
  ⟨zPn_blind, fun U hU hW => ⟨rfl, by rw [hU], by rw [hU]; exact hP, va_K.moved hW.alike E.hK, E.hN.warm hW, E.hO.moved hW.alike⟩⟩
theorem nofW {y : MethodName} {rm : Room} {av : List Value} {sz mc ms : Nat} {Qc : Array Value → State → Outcome → State → Prop} {free : Addr → Prop} {ret : Option FieldType} (hy : plainName y.cls = true) (hcat : (lg_sl av).length ≤ nL)
    (body : ∀ (p : Program) (e : Env) (s : State) (m : MethodId) (args : Array Value) (below : List Frame) (meth : Method) (c : Code) (ls : Array Slot), ZI p s m args c cc nL y.cls D cy → s.heap.size = sz → va_P D vwCl ws s.heap → meth.sig.returnType = ret → meth.locks = false → meth.name = y.name → lv_has ls nL (lv_args 0 av) →
      W p l e rm s m args below meth c s.heap [] 0 0 (MQ below Qc args s mc ms free) (F0 m 0 ls [])) : Met l y (.code y cc nL ret :: TT) rm (zPn D cy sz ws av) Qc mc ms free := by
  refine Met.ofW (cc := cc) (maxL := nL) (ret := ret) hy rfl ?_
  intro p e s m args below meth c s₁ B hml hv
  obtain ⟨rfl, hsz, hP, hK, hN, hO⟩ := hv
  have hts := atoms_spec (ws := .code y cc nL ret :: TT) B.pre
  have hl := lv_entry av (n := nL) hcat
  rw [lg_entry_eq]
  exact body p e s m _ below meth c _ ⟨B.exec, B.bytes, hml, findClass_of_methodNamed B.named, fun w h => hts w (List.mem_cons_of_mem _ h), hK, hN, hO⟩ hsz hP B.returns B.notSynchronized (name_of_methodNamed B.named B.method).1 hl
theorem ncB {y : MethodName} {bytes : ByteArray} {maxL n idx mc ms : Nat} {ret : Option FieldType} {rm : Room} (E : ZI p s m args c cc nL own D cy) (hcode : Cond.code y bytes maxL ret ∈ TT) (hini : Cond.initialized y.cls ∈ TT) (hl : Cond.methodLink own idx y ∈ TT)
    (hd : y.cls ≠ "java/lang/invoke/MethodHandle" ∧ y.cls ≠ "java/lang/invoke/VarHandle" ∧ (parseMethodDescriptor y.desc).map (fun d => d.parameters.length) = some n) (hrc : rm.cells = mc) (hrs : rm.slots = ms) (hR : rm.frames + 1 ≤ R.frames ∧ 8 + (maxL + 11) + rm.locals ≤ R.locals) : CallB R s args own idx y bytes maxL ret (.code y bytes maxL ret :: TT) rm mc ms n :=
  callB_of n E.ht (gTc hcode) rfl hrc hrs (E.ht _ hini) (E.ht _ hl) hd hR
theorem ncN {host : String} {y : MethodName} {bytes : ByteArray} {maxL n idx mc ms : Nat} {ret : Option FieldType} {rm : Room} (E : ZI p s m args c cc nL own D cy) (hcode : Cond.code y bytes maxL ret ∈ TT) (hini : Cond.initialized y.cls ∈ TT) (hl : Cond.methodLinkNest own idx y host ∈ lw_tbl)
    (hd : y.cls ≠ "java/lang/invoke/MethodHandle" ∧ y.cls ≠ "java/lang/invoke/VarHandle" ∧ (parseMethodDescriptor y.desc).map (fun d => d.parameters.length) = some n) (hrc : rm.cells = mc) (hrs : rm.slots = ms) (hR : rm.frames + 1 ≤ R.frames ∧ 8 + (maxL + 11) + rm.locals ≤ R.locals) : va_CN R s args own idx y host bytes maxL ret (.code y bytes maxL ret :: TT) rm mc ms n :=
  va_cnB n E.ht (gTc hcode) rfl hrc hrs (E.hN _ hl rfl) (E.ht _ hini) hd hR
/-- a cell's class among the known array classes -/
theorem cy_same {t0 : Nat} {cA : ClassId} {ty : FieldType} (hK : va_K D vwCl (tysG cy) s) (ht : (tysG cy)[t0]? = some (cy t0, ty)) (hK2 : va_K D vwCl (tysG cy ++ [(cA, ty)]) s) : cA = cy t0 := by
  have h1 := (hK.2 t0 _ ht).2
  have h2 := (hK2.2 7 (cA, ty) rfl).2
  have nm : ∀ c : ClassId, va_RA s c ty → s.vm.findClass ("[" ++ ty.toString) = some c := by
    intro c h
    cases ty with
    | object C =>
      obtain ⟨_, _, _, _, _, h4⟩ := h
      exact h4
    | _ => exact h
  exact Option.some.inj ((nm _ h2).symm.trans (nm _ h1))
theorem nnewi (E : ZI p s m args c cc nL own D cy) (hP : va_P D vwCl ws H) (hD : va_D A ws) (hS : va_S A H0 H locs) (hA : ∀ q, H0.size ≤ q → A q) {n : Int32} {N : Nat} (hn : ¬ n < 0) (hN : n.toNatClampNeg = N) (hbytes : N * 4 ≤ 536870912) (hcells : cells + 1 ≤ R.cells) (hslots : slots + N ≤ R.slots) (hdg : decode cc pc = .ok (.newarray .int, 2))
    (kk : ∀ (q : Nat) (H1 : Heap), va_P D vwCl (ws ++ [(q, .inl (cy 1, N, .inl (fun _ => 0)))]) H1 → va_D A (ws ++ [(q, .inl (cy 1, N, .inl (fun _ => 0)))]) → va_S A H0 H1 locs → W p l e R s m args below meth c H1 locs (cells + 1) (slots + N) Q (F0 m (pc + 2) ls (.ref q :: rest))) : W p l e R s m args below meth c H locs cells slots Q (F0 m pc ls (.int n :: rest)) :=
  va_newa (atype := .int) (ty := .int) (a0 := (N, .inl (fun _ => 0))) E.hx E.hb (E.ht _ k1_73) rfl E.hK hP hD hS hA (fun _ => rfl) hn hN hbytes hcells hslots hdg (fun q cA H1 hK2 hP1 hD1 hS1 => by
    have e := cy_same (t0 := 1) E.hK rfl hK2
    subst e
    exact kk q H1 hP1 hD1 hS1)
theorem nnewb (E : ZI p s m args c cc nL own D cy) (hP : va_P D vwCl ws H) (hD : va_D A ws) (hS : va_S A H0 H locs) (hA : ∀ q, H0.size ≤ q → A q) {n : Int32} {N : Nat} (hn : ¬ n < 0) (hN : n.toNatClampNeg = N) (hbytes : N * 1 ≤ 536870912) (hcells : cells + 1 ≤ R.cells) (hslots : slots + N ≤ R.slots) (hdg : decode cc pc = .ok (.newarray .byte, 2))
    (kk : ∀ (q : Nat) (H1 : Heap), va_P D vwCl (ws ++ [(q, .inl (cy 0, N, .inl (fun _ => 0)))]) H1 → va_D A (ws ++ [(q, .inl (cy 0, N, .inl (fun _ => 0)))]) → va_S A H0 H1 locs → W p l e R s m args below meth c H1 locs (cells + 1) (slots + N) Q (F0 m (pc + 2) ls (.ref q :: rest))) : W p l e R s m args below meth c H locs cells slots Q (F0 m pc ls (.int n :: rest)) :=
  va_newa (atype := .byte) (ty := .byte) (a0 := (N, .inl (fun _ => 0))) E.hx E.hb (E.ht _ k1_74) rfl E.hK hP hD hS hA (fun _ => rfl) hn hN hbytes hcells hslots hdg (fun q cA H1 hK2 hP1 hD1 hS1 => by
    have e := cy_same (t0 := 0) E.hK rfl hK2
    subst e
    exact kk q H1 hP1 hD1 hS1)
theorem nnewq (E : ZI p s m args c cc nL own D cy) {C : String} {idx t0 : Nat} (hcl : Cond.classLink own idx C ∈ TT) (hao : va_AO C s) (ht : (tysG cy)[t0]? = some (cy t0, .object C)) (hP : va_P D vwCl ws H) (hD : va_D A ws) (hS : va_S A H0 H locs) (hA : ∀ q, H0.size ≤ q → A q) {n : Int32} {N : Nat} (hn : ¬ n < 0) (hN : n.toNatClampNeg = N) (hbytes : N * 4 ≤ 536870912) (hcells : cells + 1 ≤ R.cells) (hslots : slots + N ≤ R.slots) (hdg : decode cc pc = .ok (.anewarray idx, 3))
    (kk : ∀ (q : Nat) (H1 : Heap), va_P D vwCl (ws ++ [(q, .inl (cy t0, N, .inr (.inr (.inr (.inr (fun _ => none))))))]) H1 → va_D A (ws ++ [(q, .inl (cy t0, N, .inr (.inr (.inr (.inr (fun _ => none))))))]) → va_S A H0 H1 locs → W p l e R s m args below meth c H1 locs (cells + 1) (slots + N) Q (F0 m (pc + 3) ls (.ref q :: rest))) : W p l e R s m args below meth c H locs cells slots Q (F0 m pc ls (.int n :: rest)) :=
  va_newq E.hx E.hb E.hown (E.ht _ hcl) hao E.hK hP hD hS hA hn hN hbytes hcells hslots hdg (fun q cA H1 hK2 hP1 hD1 hS1 => by
    have e := cy_same E.hK ht hK2
    subst e
    exact kk q H1 hP1 hD1 hS1)
theorem zjoin {A0 : Nat → Prop} {X w : va_W} {y : Nat × va_E} {H1 : Heap} (hP : va_P D vwCl (X ++ [y]) H) (hD : va_D A0 (X ++ [y])) (hk : ∀ q : Nat, q < H.size → ¬ va_A [y] H.size q → H1[q]? = H[q]?) (hF : ∀ q, va_A [y] H.size q → A0 q) (hP1 : va_P D vwCl w H1) (hD1 : va_D (va_A [y] H.size) w) : va_P D vwCl (X ++ w) H1 ∧ va_D A0 (X ++ w) := by
  have hX : ∀ (k : Nat) (q : Nat × va_E), X[k]? = some q → (X ++ [y])[k]? = some q ∧ q.1 < H.size ∧ ¬ va_A [y] H.size q.1 := by
    intro k q hq
    have hlt := (List.getElem?_eq_some_iff.mp hq).1
    have h1 : (X ++ [y])[k]? = some q := by rw [List.getElem?_append_left hlt]; exact hq
    have h2 := (hP k q h1).lt
    refine ⟨h1, h2, fun h => ?_⟩
    rcases h with ⟨k2, e2, h⟩ | h
    · have hk2 : k2 = 0 := by
        have := (List.getElem?_eq_some_iff.mp h).1
        simp at this
        omega
      subst hk2
      have hy : y = (q.1, e2) := Option.some.inj h
      have h3 : (X ++ [y])[X.length]? = some y := by
        rw [List.getElem?_append_right (Nat.le_refl _), Nat.sub_self]; rfl
      have := hD.1 k X.length q y h1 h3 (by rw [hy])
      omega
    · omega
  refine ⟨va_P.app (fun k q hq => ?_) hP1, va_D.app ⟨fun i j a b ha hb hab => hD.1 i j a b (hX i a ha).1 (hX j b hb).1 hab, fun k q hq => hD.2 k q (hX k q hq).1⟩ (hD1.weaken (fun _ q _ h => hF q.1 h)) (fun i j a b ha hb hab => ?_)⟩
  · obtain ⟨h1, h2, h3⟩ := hX k q hq
    exact (hP k q h1).kept (hk q.1 h2 h3)
  · exact (hX i a ha).2.2 (by rw [hab]; exact hD1.2 j b hb)
theorem nmk {y : Nat × va_E} {X : va_W} {w : (Nat → Nat) → va_W} {mc ms : Nat} {st0 : List Value} {a9 : Array Value} (hP : va_P D vwCl (X ++ [y]) H) (hD : va_D A (X ++ [y])) (hS : va_S A H0 H locs) (hA : ∀ q, H0.size ≤ q → A q)
    (hr : va_Run p l e R s m args below meth c H locs cells slots mc ms (F0 m pc ls st0) rest (zQn D w (va_A [y] H.size) a9) (va_A [y] H.size))
    (kk : ∀ (u : Nat → Nat) (H1 : Heap) (locs1 : List Loc), va_P D vwCl (X ++ w u) H1 → va_D A (X ++ w u) → va_S A H0 H1 locs1 → W p l e R s m args below meth c H1 locs1 (cells + mc) (slots + ms) Q (F0 m (pc + 3) ls rest)) : W p l e R s m args below meth c H locs cells slots Q (F0 m pc ls st0) := by
  have hF : ∀ q, va_A [y] H.size q → A q := by
    intro q h
    rcases h with ⟨k2, e2, h⟩ | h
    · have hk2 : k2 = 0 := by
        have := (List.getElem?_eq_some_iff.mp h).1
        simp at this
        omega
      subst hk2
      have hy : y = (q, e2) := Option.some.inj h
      have h3 : (X ++ [y])[X.length]? = some y := by
        rw [List.getElem?_append_right (Nat.le_refl _), Nat.sub_self]; rfl
      have := hD.2 _ _ h3
      rw [hy] at this
      exact this
    · exact hA q (Nat.le_trans hS.1 h)
  exact va_callv hr hS (fun q _ h => hF q h) hF (fun u t H1 locs1 ht _ _ hB _ hk hS1 => by
    obtain ⟨hP1, hD1⟩ := hB
    rw [ht] at hP1
    obtain ⟨g1, g2⟩ := zjoin hP hD hk hF hP1 hD1
    exact kk u H1 locs1 g1 g2 hS1)
/-- a call that writes one cell -/
theorem nmkS {y y' : Nat × va_E} (i : Nat) {mc ms : Nat} {st0 : List Value} {a9 : Array Value} (hy : ws[i]? = some y) (e1 : y'.1 = y.1) (hP : va_P D vwCl ws H) (hD : va_D A ws) (hS : va_S A H0 H locs) (hA : ∀ q, H0.size ≤ q → A q)
    (hr : va_Run p l e R s m args below meth c H locs cells slots mc ms (F0 m pc ls st0) rest (zQn D (fun _ => [y']) (va_A [y] H.size) a9) (va_A [y] H.size))
    (kk : ∀ (H1 : Heap) (locs1 : List Loc), va_P D vwCl (ws.set i y') H1 → va_D A (ws.set i y') → va_S A H0 H1 locs1 → W p l e R s m args below meth c H1 locs1 (cells + mc) (slots + ms) Q (F0 m (pc + 3) ls rest)) : W p l e R s m args below meth c H locs cells slots Q (F0 m pc ls st0) := by
  have hA1 : ∀ q, va_A [y] H.size q → q = y.1 ∨ H.size ≤ q := by
    intro q h
    rcases h with ⟨k2, e2, h⟩ | h
    · have hk2 : k2 = 0 := by
        have := (List.getElem?_eq_some_iff.mp h).1
        simp at this
        omega
      subst hk2
      have hy : y = (q, e2) := Option.some.inj h
      exact Or.inl (by rw [hy])
    · exact Or.inr h
  have hF : ∀ q, va_A [y] H.size q → A q := by
    intro q h
    rcases hA1 q h with h | h
    · rw [h]; exact hD.2 i y hy
    · exact hA q (Nat.le_trans hS.1 h)
  have hil : i < ws.length := (List.getElem?_eq_some_iff.mp hy).1
  have hset : ∀ (k : Nat) (q : Nat × va_E), (ws.set i y')[k]? = some q → (k = i ∧ q = y') ∨ (k ≠ i ∧ ws[k]? = some q) := by
    intro k q h
    by_cases e : k = i
    · subst e
      rw [List.getElem?_set_self hil] at h
      exact Or.inl ⟨rfl, (Option.some.inj h).symm⟩
    · rw [List.getElem?_set_ne (Ne.symm e)] at h
      exact Or.inr ⟨e, h⟩
  refine va_callv hr hS (fun q _ h => hF q h) hF (fun u t H1 locs1 ht _ _ hB _ hk hS1 => ?_)
  obtain ⟨hP1, -⟩ := hB
  rw [ht] at hP1
  refine kk H1 locs1 (fun k q hq => ?_) ⟨fun a b x z hx hz hxz => ?_, fun k q hq => ?_⟩ hS1
  · rcases hset k q hq with ⟨-, rfl⟩ | ⟨e, h⟩
    · exact hP1 0 _ rfl
    · refine (hP k q h).kept (hk q.1 (hP k q h).lt (fun z => ?_))
      rcases hA1 _ z with z | z
      · exact e (hD.1 k i q y h hy z)
      · have := (hP k q h).lt
        omega
  · rcases hset a x hx with ⟨ha, rfl⟩ | ⟨ha, h1⟩ <;> rcases hset b z hz with ⟨hb, rfl⟩ | ⟨hb, h2⟩
    · omega
    · exact absurd (hD.1 b i z y h2 hy (by rw [← hxz, e1])) hb
    · exact absurd (hD.1 a i x y h1 hy (by rw [hxz, e1])) ha
    · exact hD.1 a b x z h1 h2 hxz
  · rcases hset k q hq with ⟨-, rfl⟩ | ⟨-, h⟩
    · rw [e1]; exact hD.2 i y hy
    · exact hD.2 k q h
end ZMK
