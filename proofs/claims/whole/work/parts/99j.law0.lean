/-! the law's own world: both objects, a call on each -/
theorem strX.narrow {A B : Nat → Prop} {U : State} {H : Heap} (hAB : ∀ q, B q → A q) (h : strX A U H) : strX B U H := by
  obtain ⟨⟨aK, aV, h1, h2⟩, h3, h4⟩ := h
  exact ⟨⟨aK, aV, h1, h2.narrow hAB⟩, h3.narrow hAB, h4.narrow hAB⟩
def LWe (p : Program) (s : State) (m : MethodId) (args : Array Value) (c : Code) (b L : Nat) (xs : Nat → Int32) (D : va_G) (cy : Cy) (adC adM : Nat → Nat) (AC AM : Nat → Prop) : Prop :=
  p.tables.exec = Jvm.exec ∧ c.code = cL_law ∧ c.maxLocals = 4 ∧ s.vm.findClass "KiteSummonsLaw" = some m.cls ∧ (∀ w ∈ TT, w.before args s = true) ∧ va_K D vwCl (tysG cy) s ∧ NWok s ∧ strX (fun q => s.heap.size ≤ q) s s.heap ∧ okAd 97 adC AC ∧ okAd 17 adM AM ∧ (∀ q, AC q → s.heap.size ≤ q) ∧ (∀ q, AM q → s.heap.size ≤ q) ∧ (∀ q, AC q → ¬ AM q) ∧ va_X b L xs s s.heap ∧ b < s.heap.size ∧ L ≤ 2560
def LWs (D : va_G) (cy : Cy) (adC adM : Nat → Nat) (s : State) (σC σM : Sg) (H : Heap) (locs : List Loc) : Prop := va_P D vwCl (wG 97 (celC adC cy) adC σC) H ∧ va_P D vwCl (wG 17 (celM adM cy) adM σM) H ∧ va_S (fun q => s.heap.size ≤ q) s.heap H locs
section LAW
variable {p : Program} {l : Launch} {e : Env} {R : Room} {s : State} {m : MethodId} {args : Array Value} {below : List Frame} {meth : Method} {c : Code} {H : Heap} {locs : List Loc} {cells slots : Nat} {Q : State → Prop}
variable {b L : Nat} {xs : Nat → Int32} {D : va_G} {cy : Cy} {adC adM : Nat → Nat} {AC AM : Nat → Prop} {σC σM : Sg}
variable {pc : Nat} {ls : Array Slot} {rest : List Value}
theorem LWe.hx (E : LWe p s m args c b L xs D cy adC adM AC AM) : p.tables.exec = Jvm.exec := E.1
theorem LWe.hb (E : LWe p s m args c b L xs D cy adC adM AC AM) : c.code = cL_law := E.2.1
theorem LWe.hml (E : LWe p s m args c b L xs D cy adC adM AC AM) : c.maxLocals = 4 := E.2.2.1
theorem LWe.hown (E : LWe p s m args c b L xs D cy adC adM AC AM) : s.vm.findClass "KiteSummonsLaw" = some m.cls := E.2.2.2.1
theorem LWe.ht (E : LWe p s m args c b L xs D cy adC adM AC AM) : ∀ w ∈ TT, w.before args s = true := E.2.2.2.2.1
theorem LWe.hK (E : LWe p s m args c b L xs D cy adC adM AC AM) : va_K D vwCl (tysG cy) s := E.2.2.2.2.2.1
theorem LWe.hN (E : LWe p s m args c b L xs D cy adC adM AC AM) : NWok s := E.2.2.2.2.2.2.1
theorem LWe.hX (E : LWe p s m args c b L xs D cy adC adM AC AM) : strX (fun q => s.heap.size ≤ q) s s.heap := E.2.2.2.2.2.2.2.1
theorem LWe.oC (E : LWe p s m args c b L xs D cy adC adM AC AM) : okAd 97 adC AC := E.2.2.2.2.2.2.2.2.1
theorem LWe.oM (E : LWe p s m args c b L xs D cy adC adM AC AM) : okAd 17 adM AM := E.2.2.2.2.2.2.2.2.2.1
theorem LWe.aC (E : LWe p s m args c b L xs D cy adC adM AC AM) : ∀ q, AC q → s.heap.size ≤ q := E.2.2.2.2.2.2.2.2.2.2.1
theorem LWe.aM (E : LWe p s m args c b L xs D cy adC adM AC AM) : ∀ q, AM q → s.heap.size ≤ q := E.2.2.2.2.2.2.2.2.2.2.2.1
theorem LWe.dis (E : LWe p s m args c b L xs D cy adC adM AC AM) : ∀ q, AC q → ¬ AM q := E.2.2.2.2.2.2.2.2.2.2.2.2.1
theorem LWe.scr (E : LWe p s m args c b L xs D cy adC adM AC AM) : va_X b L xs s s.heap := E.2.2.2.2.2.2.2.2.2.2.2.2.2.1
theorem LWe.hbl (E : LWe p s m args c b L xs D cy adC adM AC AM) : b < s.heap.size := E.2.2.2.2.2.2.2.2.2.2.2.2.2.2.1
theorem LWe.hL (E : LWe p s m args c b L xs D cy adC adM AC AM) : L ≤ 2560 := E.2.2.2.2.2.2.2.2.2.2.2.2.2.2.2
theorem LWe.fix (E : LWe p s m args c b L xs D cy adC adM AC AM) : CallFix p m c cL_law 4 s args TT "KiteSummonsLaw" := ⟨E.hx, E.hb, E.hml, E.hown, E.ht⟩
theorem lPreC (E : LWe p s m args c b L xs D cy adC adM AC AM) (h : LWs D cy adC adM s σC σM H locs) (As : List Value) : PreV s H "KiteSummons" (adC 0) (zPc D cy 97 (celC adC cy) adC AC (.ref (adC 0) :: As) σC) As :=
  ⟨zPc_blind, va_recv (q := (RX11, TX11, 17)) (ci := 11) (q0 := 0) E.hK h.1 rfl (by rw [wG_get (by decide), ceC_0]), fun U hU hW => ⟨rfl, by rw [hU]; exact h.1, va_K.moved hW.alike E.hK, E.hN.warm hW, by rw [hU]; exact (E.hX.warm hW h.2.2.2.1).narrow E.aC⟩⟩
theorem lPreM (E : LWe p s m args c b L xs D cy adC adM AC AM) (h : LWs D cy adC adM s σC σM H locs) (As : List Value) : PreV s H "KiteSummonsModel" (adM 0) (zPc D cy 17 (celM adM cy) adM AM (.ref (adM 0) :: As) σM) As :=
  ⟨zPc_blind, va_recv (q := (RX12, TX12, 40)) (ci := 12) (q0 := 0) E.hK h.2.1 rfl (by rw [wG_get (by decide), ceM_0]), fun U hU hW => ⟨rfl, by rw [hU]; exact h.2.1, va_K.moved hW.alike E.hK, E.hN.warm hW, by rw [hU]; exact (E.hX.warm hW h.2.2.2.1).narrow E.aM⟩⟩
theorem lcV {C : String} {y : MethodName} {bytes : ByteArray} {maxL n idx : Nat} {ret : Option FieldType} {rm : Room} (E : LWe p s m args c b L xs D cy adC adM AC AM) (hcode : Cond.code y bytes maxL ret ∈ TT) (hini : Cond.initialized y.cls ∈ TT) (hl : Cond.methodLink "KiteSummonsLaw" idx y ∈ TT) (hi : Cond.instanceMethod y ∈ TT) (hs : Cond.selects C y y ∈ TT)
    (hd : y.cls ≠ "java/lang/invoke/MethodHandle" ∧ y.cls ≠ "java/lang/invoke/VarHandle" ∧ (parseMethodDescriptor y.desc).map (fun d => d.parameters.length) = some n) (hrc : rm.cells = 0) (hrs : rm.slots = 0) (hR : rm.frames + 1 ≤ R.frames ∧ 8 + (maxL + 11) + rm.locals ≤ R.locals) : CallW R s args "KiteSummonsLaw" C idx y bytes maxL ret (.code y bytes maxL ret :: TT) rm 0 0 n :=
  ⟨callB_of n E.ht (gTc hcode) rfl hrc hrs (E.ht _ hini) (E.ht _ hl) hd hR, E.ht _ hi, E.ht _ hs⟩
theorem lcalC {st0 : List Value} {a9 : Array Value} {r : Int32} {σ1 : Sg} (E : LWe p s m args c b L xs D cy adC adM AC AM) (h : LWs D cy adC adM s σC σM H locs) (hr : va_Run p l e R s m args below meth c H locs cells slots 0 0 (F0 m pc ls st0) rest (zQi D 97 (celC adC cy) adC AC r σ1 a9) AC)
    (kk : ∀ (H1 : Heap) (locs1 : List Loc), LWs D cy adC adM s σ1 σM H1 locs1 → W p l e R s m args below meth c H1 locs1 cells slots Q (F0 m (pc + 3) ls (.int r :: rest))) : W p l e R s m args below meth c H locs cells slots Q (F0 m pc ls st0) :=
  va_calli hr h.2.2 (fun q _ hq => E.aC q hq) (fun q hq => E.aC q hq) (fun r2 u t H1 locs1 ht _ hp hB _ hk hS => by
    subst hp
    rw [ht] at hB
    refine kk H1 locs1 ⟨hB, h.2.1.kept (fun k q hq => hk q.1 (h.2.1 k q hq).lt (fun z => ?_)), hS⟩
    obtain ⟨h1, rfl⟩ := wG_at hq
    exact E.dis _ z (E.oM.2 k h1))
theorem lcalM {st0 : List Value} {a9 : Array Value} {r : Int32} {σ1 : Sg} (E : LWe p s m args c b L xs D cy adC adM AC AM) (h : LWs D cy adC adM s σC σM H locs) (hr : va_Run p l e R s m args below meth c H locs cells slots 0 0 (F0 m pc ls st0) rest (zQi D 17 (celM adM cy) adM AM r σ1 a9) AM)
    (kk : ∀ (H1 : Heap) (locs1 : List Loc), LWs D cy adC adM s σC σ1 H1 locs1 → W p l e R s m args below meth c H1 locs1 cells slots Q (F0 m (pc + 3) ls (.int r :: rest))) : W p l e R s m args below meth c H locs cells slots Q (F0 m pc ls st0) :=
  va_calli hr h.2.2 (fun q _ hq => E.aM q hq) (fun q hq => E.aM q hq) (fun r2 u t H1 locs1 ht _ hp hB _ hk hS => by
    subst hp
    rw [ht] at hB
    refine kk H1 locs1 ⟨h.1.kept (fun k q hq => hk q.1 (h.1 k q hq).lt (fun z => ?_)), hB, hS⟩
    obtain ⟨h1, rfl⟩ := wG_at hq
    exact E.dis _ (E.oC.2 k h1) z)
/-- script[i + k] -/
theorem larg (E : LWe p s m args c b L xs D cy adC adM AC AM) (h : LWs D cy adC adM s σC σM H locs) {i k : Nat} {kI : Int} {lv : List (Nat × Value)} (hik : i + k < L) (hl : lv_has ls 4 lv) (h0 : lv[3]? = some (0, .ref b)) (h3 : lv[0]? = some (3, .int (nI i))) (d1 : decode cL_law pc = .ok (.aload_n 0, 1)) (d2 : decode cL_law (pc + 1) = .ok (.iload_n 3, 1)) (d3 : decode cL_law (pc + 2) = .ok (.iconst kI, 1)) (d4 : decode cL_law (pc + 3) = .ok (.iadd, 1)) (d5 : decode cL_law (pc + 4) = .ok (.iaload, 1)) (hk : Int32.ofInt kI = nI k)
    (kk : W p l e R s m args below meth c H locs cells slots Q (F0 m (pc + 5) ls (.int (xs (i + k)) :: rest))) : W p l e R s m args below meth c H locs cells slots Q (F0 m pc ls rest) := by
  refine lv_aload_n E.hx E.hb d1 rfl (lv_at hl 3 h0) ?_
  refine lv_iload_n E.hx E.hb d2 rfl (lv_at hl 0 h3) ?_
  refine lv_iconst (v := nI k) E.hx E.hb d3 hk ?_
  refine lv_iadd E.hx E.hb d4 ?_
  rw [nI_add]
  have hLb := E.hL
  refine va_sld E.hx E.hb E.scr E.hbl (Nat.not_le.mpr E.hbl) h.2.2 (vp_in_nI hik (by omega)) d5 ?_
  rw [nI_clamp (by omega)]
  exact kk
end LAW
