/-! my rows: a world of NP cells at addresses ad, what they hold told by a function of place and slot; contracts and calls over it -/
def nestWord : Cond → Bool
  | .methodLinkNest .. => true
  | .declares _ => true
  | .castable .. => true
  | _ => false
def NWok (U : State) : Prop := ∀ w ∈ lw_tbl, nestWord w = true → va_Nw w U
theorem nest_warm {w : Cond} (h : nestWord w = true) {s U : State} (hW : s.WarmedH U.vm) (hz : va_Nw w s) : va_Nw w U := by
  cases w <;> first | exact va_Nw.warmM hW hz | exact va_Nw.warmD hW hz | exact va_Nw.warmC hW hz | (simp [nestWord] at h)
theorem nest_same {w : Cond} (h : nestWord w = true) {u U : State} (hv : u.vm = U.vm) (hz : va_Nw w u) : va_Nw w U := by
  cases w <;> first | exact va_Nw.same rfl hv hz | (simp [nestWord] at h)
theorem NWok.warm {s U : State} (hW : s.WarmedH U.vm) (h : NWok s) : NWok U := fun w hw hn => nest_warm hn hW (h w hw hn)
theorem NWok.same {u U : State} (hv : u.vm = U.vm) (h : NWok u) : NWok U := fun w hw hn => nest_same hn hv (h w hw hn)
theorem gT {ws : List Cond} (h : ∀ w ∈ ws, w ∈ TT) : GoodIn TT ws := fun w hw => ⟨h w hw, good_of_word (TT_good w (h w hw))⟩
theorem gTc {c : Cond} (h : c ∈ TT) : GoodIn TT (c :: TT) := gT (fun w hw => (List.mem_cons.mp hw).elim (fun q => q ▸ h) id)
abbrev Sg : Type := Nat → Nat → Int32
def upR (σ : Sg) (p : Nat) (r : Nat → Int32) : Sg := fun k => if k = p then r else σ k
def upS (σ : Sg) (p i : Nat) (v : Int32) : Sg := upR σ p (upd (σ p) i v)
abbrev Ce : Type := Nat → (Nat → Int32) → va_E
def wG (NP : Nat) (ce : Ce) (ad : Nat → Nat) (σ : Sg) : va_W := (List.range NP).map (fun k => (ad k, ce k (σ k)))
theorem wG_get {NP : Nat} {ce : Ce} {ad : Nat → Nat} {σ : Sg} {k : Nat} (h : k < NP) : (wG NP ce ad σ)[k]? = some (ad k, ce k (σ k)) := by
  simp [wG, List.getElem?_map, List.getElem?_range h]
theorem wG_at {NP : Nat} {ce : Ce} {ad : Nat → Nat} {σ : Sg} {k : Nat} {q : Nat × va_E} (h : (wG NP ce ad σ)[k]? = some q) : k < NP ∧ q = (ad k, ce k (σ k)) := by
  have hl : k < NP := by
    have := (List.getElem?_eq_some_iff.mp h).1
    simpa [wG] using this
  rw [wG_get hl] at h
  exact ⟨hl, (Option.some.inj h).symm⟩
theorem wG_set {NP : Nat} {ce : Ce} {ad : Nat → Nat} {σ : Sg} {p : Nat} {r : Nat → Int32} (h : p < NP) : (wG NP ce ad σ).set p (ad p, ce p r) = wG NP ce ad (upR σ p r) := by
  apply List.ext_getElem?
  intro k
  by_cases hk : k < NP
  · rw [wG_get hk]
    by_cases e : k = p
    · subst e
      rw [List.getElem?_set_self (by simpa [wG] using hk)]
      simp [upR]
    · rw [List.getElem?_set_ne (Ne.symm e), wG_get hk]
      simp [upR, e]
  · rw [List.getElem?_eq_none (by simp [wG]; omega), List.getElem?_eq_none (by simp [wG]; omega)]
abbrev Cy : Type := Nat → ClassId
abbrev tysG (cy : Cy) : List (ClassId × FieldType) := [(cy 0, .byte), (cy 1, .int), (cy 2, .long), (cy 3, .object "KiteSummons$Kite"), (cy 4, .object "KiteSummons$Sky"), (cy 5, .array .int), (cy 6, .array .long)]
def okAd (NP : Nat) (ad : Nat → Nat) (A : Nat → Prop) : Prop := (∀ i j, i < NP → j < NP → ad i = ad j → i = j) ∧ ∀ k, k < NP → A (ad k)
theorem okAd.D {NP : Nat} {ad : Nat → Nat} {A : Nat → Prop} (h : okAd NP ad A) (ce : Ce) (σ : Sg) : va_D A (wG NP ce ad σ) := by
  refine ⟨fun i j p q hp hq e => ?_, fun k q hq => ?_⟩
  · obtain ⟨h1, rfl⟩ := wG_at hp
    obtain ⟨h2, rfl⟩ := wG_at hq
    exact h.1 i j h1 h2 e
  · obtain ⟨h1, rfl⟩ := wG_at hq
    exact h.2 k h1
def strW : String := "kite red heavy judge box old serve hold cut gust string far name number if or and not "
def strB : List Int32 := [107, 105, 116, 101, 32, 114, 101, 100, 32, 104, 101, 97, 118, 121, 32, 106, 117, 100, 103, 101, 32, 98, 111, 120, 32, 111, 108, 100, 32, 115, 101, 114, 118, 101, 32, 104, 111, 108, 100, 32, 99, 117, 116, 32, 103, 117, 115, 116, 32, 115, 116, 114, 105, 110, 103, 32, 102, 97, 114, 32, 110, 97, 109, 101, 32, 110, 117, 109, 98, 101, 114, 32, 105, 102, 32, 111, 114, 32, 97, 110, 100, 32, 110, 111, 116, 32]
/-- the one String constant and the JDK's statics that are read on the way to its signs -/
def strX (A : Nat → Prop) (U : State) (H : Heap) : Prop := (∃ aK aV : Nat → Nat, vk_R "KiteSummons$RuleReader" 95 strW (aK 0) U ∧ vk_S 1 [86] [strB] aK aV A U H) ∧ va_Z "java/lang/String" "COMPACT_STRINGS" "Z" (.int 1) A U H ∧ va_Zq "jdk/internal/util/Preconditions" "SIOOBE_FORMATTER" "Ljava/util/function/BiFunction;" A U H
theorem strX.same {A : Nat → Prop} {u U : State} {H : Heap} (hv : U.vm = u.vm) (h : strX A u H) : strX A U H := by
  obtain ⟨⟨aK, aV, h1, h2⟩, h3, h4⟩ := h
  have ha : u.vm.Alike U.vm := by rw [hv]; exact Vm.Alike.refl _
  exact ⟨⟨aK, aV, vk_R.same hv h1, vk_S.moved ha h2⟩, h3.moved ha, h4.moved ha⟩
theorem strX.warm {A : Nat → Prop} {s U : State} {H H1 : Heap} (hW : s.WarmedH U.vm) (hq : ∀ a : Nat, a < H.size → ¬ A a → H1[a]? = H[a]?) (h : strX A s H) : strX A U H1 := by
  obtain ⟨⟨aK, aV, h1, h2⟩, h3, h4⟩ := h
  exact ⟨⟨aK, aV, vk_R.warm hW h1, (vk_S.moved hW.alike h2).kept hq⟩, (h3.moved hW.alike).kept hq, (h4.moved hW.alike).kept hq⟩
/-- what holds all through a method's walk -/
def ZE (p : Program) (s : State) (m : MethodId) (args : Array Value) (c : Code) (cc : ByteArray) (nL : Nat) (own : String) (D : va_G) (cy : Cy) (NP : Nat) (ad : Nat → Nat) (A : Nat → Prop) : Prop :=
  p.tables.exec = Jvm.exec ∧ c.code = cc ∧ c.maxLocals = nL ∧ s.vm.findClass own = some m.cls ∧ (∀ w ∈ TT, w.before args s = true) ∧ va_K D vwCl (tysG cy) s ∧ okAd NP ad A ∧ NWok s ∧ strX A s s.heap
/-- what the heap holds now -/
def ZS (D : va_G) (NP : Nat) (ce : Ce) (ad : Nat → Nat) (A : Nat → Prop) (s : State) (σ : Sg) (H : Heap) (locs : List Loc) : Prop := va_P D vwCl (wG NP ce ad σ) H ∧ va_S A s.heap H locs
def zPc (D : va_G) (cy : Cy) (NP : Nat) (ce : Ce) (ad : Nat → Nat) (A : Nat → Prop) (av : List Value) (σ : Sg) : Array Value → State → Prop := va_Pc av (fun U => va_P D vwCl (wG NP ce ad σ) U.heap ∧ va_K D vwCl (tysG cy) U ∧ NWok U ∧ strX A U U.heap)
def zQi (D : va_G) (NP : Nat) (ce : Ce) (ad : Nat → Nat) (A : Nat → Prop) (r : Int32) (σ : Sg) : Array Value → State → Outcome → State → Prop := va_Qi (fun x (_ : Unit) => x = r) (fun _ t => va_P D vwCl (wG NP ce ad σ) t.heap) A
def zQl (D : va_G) (NP : Nat) (ce : Ce) (ad : Nat → Nat) (A : Nat → Prop) (r : Int64) (σ : Sg) : Array Value → State → Outcome → State → Prop := va_Ql (fun x (_ : Unit) => x = r) (fun _ t => va_P D vwCl (wG NP ce ad σ) t.heap) A
def zQv (D : va_G) (NP : Nat) (ce : Ce) (ad : Nat → Nat) (A : Nat → Prop) (σ : Sg) : Array Value → State → Outcome → State → Prop := va_Qv (fun (_ : Unit) => True) (fun _ t => va_P D vwCl (wG NP ce ad σ) t.heap) A
def b2i (b : Bool) : Int32 := if b then 1 else 0
theorem b2i_nar (b : Bool) : narrow .boolean (.int (b2i b)) = .int (b2i b) := by cases b <;> rfl
theorem zPc_blind {D : va_G} {cy : Cy} {NP : Nat} {ce : Ce} {ad : Nat → Nat} {A : Nat → Prop} {av : List Value} {σ : Sg} : FrameBlind (zPc D cy NP ce ad A av σ) := fun a U g mk q => ⟨q.1, q.2.1, va_K.moved (u := U) (U := U.calling g mk a) (Vm.Alike.refl U.vm) q.2.2.1, NWok.same (u := U) (U := U.calling g mk a) rfl q.2.2.2.1, strX.same (u := U) (U := U.calling g mk a) rfl q.2.2.2.2⟩
section ZZ
variable {p : Program} {l : Launch} {e : Env} {R : Room} {s : State} {m : MethodId} {args : Array Value} {below : List Frame} {meth : Method} {c : Code} {H : Heap} {locs : List Loc} {cells slots : Nat} {Q : State → Prop}
variable {cc : ByteArray} {nL : Nat} {own : String} {D : va_G} {cy : Cy} {NP : Nat} {ce : Ce} {ad : Nat → Nat} {A : Nat → Prop} {σ : Sg}
variable {pc : Nat} {ls : Array Slot} {rest : List Value}
theorem ZE.hx (E : ZE p s m args c cc nL own D cy NP ad A) : p.tables.exec = Jvm.exec := E.1
theorem ZE.hb (E : ZE p s m args c cc nL own D cy NP ad A) : c.code = cc := E.2.1
theorem ZE.hml (E : ZE p s m args c cc nL own D cy NP ad A) : c.maxLocals = nL := E.2.2.1
theorem ZE.hown (E : ZE p s m args c cc nL own D cy NP ad A) : s.vm.findClass own = some m.cls := E.2.2.2.1
theorem ZE.ht (E : ZE p s m args c cc nL own D cy NP ad A) : ∀ w ∈ TT, w.before args s = true := E.2.2.2.2.1
theorem ZE.hK (E : ZE p s m args c cc nL own D cy NP ad A) : va_K D vwCl (tysG cy) s := E.2.2.2.2.2.1
theorem ZE.hA (E : ZE p s m args c cc nL own D cy NP ad A) : okAd NP ad A := E.2.2.2.2.2.2.1
theorem ZE.hN (E : ZE p s m args c cc nL own D cy NP ad A) : NWok s := E.2.2.2.2.2.2.2.1
theorem ZE.hX (E : ZE p s m args c cc nL own D cy NP ad A) : strX A s s.heap := E.2.2.2.2.2.2.2.2
theorem ZE.fix (E : ZE p s m args c cc nL own D cy NP ad A) : CallFix p m c cc nL s args TT own := ⟨E.hx, E.hb, E.hml, E.hown, E.ht⟩
theorem zget (E : ZE p s m args c cc nL own D cy NP ad A) (hw : ZS D NP ce ad A s σ H locs) {k : Nat} (hk : k < NP) {ci : Nat} {fs : List Value} (he : ce k (σ k) = .inr (ci, fs)) {C ref : String} {T : u_T} {N idx : Nat} (hc : vwCl[ci]? = some (C, T, N)) (hin : ∀ w ∈ u_ws C T N, w ∈ TT) (i : Nat) (hi : i < N)
    (hlink : Cond.fieldLink own idx ref (T i).2.1 (T i).2.2.1 ∈ TT) (hsame : ∀ x, s.fieldFound? (T i).1 (T i).2.1 (T i).2.2.1 = some x → s.fieldFound? ref (T i).2.1 (T i).2.2.1 = some x) {v : Value} (hv : fs[i]? = some v) (hdg : decode cc pc = .ok (.getfield idx, 3))
    (kk : W p l e R s m args below meth c H locs cells slots Q (F0 m (pc + 3) ls (v :: rest))) : W p l e R s m args below meth c H locs cells slots Q (F0 m pc ls (.ref (ad k) :: rest)) :=
  va_get E.hx E.hb E.ht hin E.hown E.hK hw.1 k (by rw [wG_get hk, he]) hc i hi (E.ht _ hlink) hsame hv hdg kk
theorem zput (E : ZE p s m args c cc nL own D cy NP ad A) (hw : ZS D NP ce ad A s σ H locs) {k : Nat} (hk : k < NP) {ci : Nat} {fs : List Value} (he : ce k (σ k) = .inr (ci, fs)) {C ref : String} {T : u_T} {N idx : Nat} (hc : vwCl[ci]? = some (C, T, N)) (hin : ∀ w ∈ u_ws C T N, w ∈ TT) (ty0 : Nat → FieldType) (hty : ∀ k, k < N → parseFieldDescriptor (T k).2.2.1 = some (ty0 k)) (hnm : ∀ a, a < N → ∀ b, b < N → a ≠ b → (T a).2.1 ≠ (T b).2.1) (i : Nat) (hi : i < N)
    (hlink : Cond.fieldLink own idx ref (T i).2.1 (T i).2.2.1 ∈ TT) (hsame : ∀ x, s.fieldFound? (T i).1 (T i).2.1 (T i).2.2.1 = some x → s.fieldFound? ref (T i).2.1 (T i).2.2.1 = some x) (hfin : (T i).2.2.2 = false) {x : Int32} (hn : narrow (ty0 i) (.int x) = .int x) (hfit : fits (ty0 i) (.int x) = true) (hl : i < fs.length)
    {j : Nat} (he2 : ce k (upd (σ k) j x) = .inr (ci, fs.set i (.int x))) (hdg : decode cc pc = .ok (.putfield idx, 3))
    (kk : ∀ (H1 : Heap) (locs1 : List Loc), ZS D NP ce ad A s (upS σ k j x) H1 locs1 → W p l e R s m args below meth c H1 locs1 cells slots Q (F0 m (pc + 3) ls rest)) : W p l e R s m args below meth c H locs cells slots Q (F0 m pc ls (.int x :: .ref (ad k) :: rest)) :=
  va_put E.hx E.hb E.ht hin ty0 hty hnm E.hown E.hK hw.1 (E.hA.D ce σ) hw.2 k (by rw [wG_get hk, he]) hc i hi (E.ht _ hlink) hsame hfin (hty i hi) hn hfit hl hdg (fun H1 locs1 hP _ hS => kk H1 locs1 ⟨by
    have h2 := wG_set (ce := ce) (ad := ad) (σ := σ) (r := upd (σ k) j x) hk
    rw [he2] at h2
    rw [h2] at hP
    exact hP, hS⟩)
theorem zald (E : ZE p s m args c cc nL own D cy NP ad A) (hw : ZS D NP ce ad A s σ H locs) {k : Nat} (hk : k < NP) {n : Nat} {f : Nat → Int32} (he : ce k (σ k) = .inl (cy 1, n, .inl f)) {i : Int32} (hin : ¬ (i < 0 ∨ n ≤ i.toNatClampNeg)) (hdg : decode cc pc = .ok (.iaload, 1))
    (kk : W p l e R s m args below meth c H locs cells slots Q (F0 m (pc + 1) ls (.int (f i.toNatClampNeg) :: rest))) : W p l e R s m args below meth c H locs cells slots Q (F0 m pc ls (.int i :: .ref (ad k) :: rest)) :=
  va_iald E.hx E.hb E.hK hw.1 k 1 (by rw [wG_get hk, he]) rfl hin hdg kk
theorem zbald (E : ZE p s m args c cc nL own D cy NP ad A) (hw : ZS D NP ce ad A s σ H locs) {k : Nat} (hk : k < NP) {n : Nat} {f : Nat → Int32} (he : ce k (σ k) = .inl (cy 0, n, .inl f)) {i : Int32} (hin : ¬ (i < 0 ∨ n ≤ i.toNatClampNeg)) (hdg : decode cc pc = .ok (.baload, 1))
    (kk : W p l e R s m args below meth c H locs cells slots Q (F0 m (pc + 1) ls (.int (f i.toNatClampNeg) :: rest))) : W p l e R s m args below meth c H locs cells slots Q (F0 m pc ls (.int i :: .ref (ad k) :: rest)) :=
  va_bald E.hx E.hb E.hK hw.1 k 0 (by rw [wG_get hk, he]) rfl hin hdg kk
theorem zlald (E : ZE p s m args c cc nL own D cy NP ad A) (hw : ZS D NP ce ad A s σ H locs) {k : Nat} (hk : k < NP) {n : Nat} {f : Nat → Int64} (he : ce k (σ k) = .inl (cy 2, n, .inr (.inl f))) {i : Int32} (hin : ¬ (i < 0 ∨ n ≤ i.toNatClampNeg)) (hdg : decode cc pc = .ok (.laload, 1))
    (kk : W p l e R s m args below meth c H locs cells slots Q (F0 m (pc + 1) ls (.long (f i.toNatClampNeg) :: rest))) : W p l e R s m args below meth c H locs cells slots Q (F0 m pc ls (.int i :: .ref (ad k) :: rest)) :=
  va_lald E.hx E.hb E.hK hw.1 k 2 (by rw [wG_get hk, he]) rfl hin hdg kk
theorem zast (E : ZE p s m args c cc nL own D cy NP ad A) (hw : ZS D NP ce ad A s σ H locs) {k : Nat} (hk : k < NP) {n : Nat} {f : Nat → Int32} (he : ce k (σ k) = .inl (cy 1, n, .inl f)) {i x : Int32} (hin : ¬ (i < 0 ∨ n ≤ i.toNatClampNeg)) (he2 : ce k (upd (σ k) i.toNatClampNeg x) = .inl (cy 1, n, .inl (upd f i.toNatClampNeg x))) (hdg : decode cc pc = .ok (.iastore, 1))
    (kk : ∀ (H1 : Heap) (locs1 : List Loc), ZS D NP ce ad A s (upS σ k i.toNatClampNeg x) H1 locs1 → W p l e R s m args below meth c H1 locs1 cells slots Q (F0 m (pc + 1) ls rest)) : W p l e R s m args below meth c H locs cells slots Q (F0 m pc ls (.int x :: .int i :: .ref (ad k) :: rest)) :=
  va_iast E.hx E.hb E.hK hw.1 (E.hA.D ce σ) hw.2 k 1 (by rw [wG_get hk, he]) rfl hin hdg (fun H1 locs1 hP _ hS => kk H1 locs1 ⟨by
    have h2 := wG_set (ce := ce) (ad := ad) (σ := σ) (r := upd (σ k) i.toNatClampNeg x) hk
    rw [he2] at h2
    rw [h2] at hP
    exact hP, hS⟩)
theorem zbast (E : ZE p s m args c cc nL own D cy NP ad A) (hw : ZS D NP ce ad A s σ H locs) {k : Nat} (hk : k < NP) {n : Nat} {f : Nat → Int32} (he : ce k (σ k) = .inl (cy 0, n, .inl f)) {i x : Int32} (hin : ¬ (i < 0 ∨ n ≤ i.toNatClampNeg)) (he2 : ce k (upd (σ k) i.toNatClampNeg x.toInt8.toInt32) = .inl (cy 0, n, .inl (upd f i.toNatClampNeg x.toInt8.toInt32))) (hdg : decode cc pc = .ok (.bastore, 1))
    (kk : ∀ (H1 : Heap) (locs1 : List Loc), ZS D NP ce ad A s (upS σ k i.toNatClampNeg x.toInt8.toInt32) H1 locs1 → W p l e R s m args below meth c H1 locs1 cells slots Q (F0 m (pc + 1) ls rest)) : W p l e R s m args below meth c H locs cells slots Q (F0 m pc ls (.int x :: .int i :: .ref (ad k) :: rest)) :=
  va_bast E.hx E.hb E.hK hw.1 (E.hA.D ce σ) hw.2 k 0 (by rw [wG_get hk, he]) rfl hin hdg (fun H1 locs1 hP _ hS => kk H1 locs1 ⟨by
    have h2 := wG_set (ce := ce) (ad := ad) (σ := σ) (r := upd (σ k) i.toNatClampNeg x.toInt8.toInt32) hk
    rw [he2] at h2
    rw [vp_nar_byte, h2] at hP
    exact hP, hS⟩)
theorem zlast (E : ZE p s m args c cc nL own D cy NP ad A) (hw : ZS D NP ce ad A s σ H locs) {k : Nat} (hk : k < NP) {n : Nat} {f : Nat → Int64} (he : ce k (σ k) = .inl (cy 2, n, .inr (.inl f))) {i x : Int32} {x64 : Int64} (hin : ¬ (i < 0 ∨ n ≤ i.toNatClampNeg)) (he2 : ce k (upd (σ k) i.toNatClampNeg x) = .inl (cy 2, n, .inr (.inl (vp_updL f i.toNatClampNeg x64)))) (hdg : decode cc pc = .ok (.lastore, 1))
    (kk : ∀ (H1 : Heap) (locs1 : List Loc), ZS D NP ce ad A s (upS σ k i.toNatClampNeg x) H1 locs1 → W p l e R s m args below meth c H1 locs1 cells slots Q (F0 m (pc + 1) ls rest)) : W p l e R s m args below meth c H locs cells slots Q (F0 m pc ls (.long x64 :: .int i :: .ref (ad k) :: rest)) :=
  va_last E.hx E.hb E.hK hw.1 (E.hA.D ce σ) hw.2 k 2 (by rw [wG_get hk, he]) rfl hin hdg (fun H1 locs1 hP _ hS => kk H1 locs1 ⟨by
    have h2 := wG_set (ce := ce) (ad := ad) (σ := σ) (r := upd (σ k) i.toNatClampNeg x) hk
    rw [he2] at h2
    rw [h2] at hP
    exact hP, hS⟩)
theorem zaldq (E : ZE p s m args c cc nL own D cy NP ad A) (hw : ZS D NP ce ad A s σ H locs) {k : Nat} (hk : k < NP) {n : Nat} {f : Nat → Option Nat} (t0 : Nat) {cA : ClassId} {ty : FieldType} (ht : (tysG cy)[t0]? = some (cA, ty)) (hr : ty.isReference = true) (he : ce k (σ k) = .inl (cA, n, .inr (.inr (.inr (.inr f))))) {i : Int32} (hin : ¬ (i < 0 ∨ n ≤ i.toNatClampNeg)) (hdg : decode cc pc = .ok (.aaload, 1))
    (kk : W p l e R s m args below meth c H locs cells slots Q (F0 m (pc + 1) ls (va_rf (f i.toNatClampNeg) :: rest))) : W p l e R s m args below meth c H locs cells slots Q (F0 m pc ls (.int i :: .ref (ad k) :: rest)) := by
  have hlt : i.toNatClampNeg < n := Nat.not_le.mp fun q => hin (Or.inr q)
  have ha : (wG NP ce ad σ)[k]? = some (ad k, .inl (cA, n, .inr (.inr (.inr (.inr f))))) := by rw [wG_get hk, he]
  exact W.aald (v := va_rf (f i.toNatClampNeg)) (ty := ty) E.hx E.hb (hw.1 k _ ha) ((E.hK.2 t0 _ ht).1 n (fun j => va_rf (f j))) hr (fun q => by cases q) (by show ¬ (i < 0 ∨ (arrV _ _ _).slots.size ≤ _); rw [arrV_size]; exact hin) (by show (arrV _ _ _).slots[_]? = _; rw [arrV_read _ _ hlt]) rfl rfl hdg kk
theorem zalen (E : ZE p s m args c cc nL own D cy NP ad A) (hw : ZS D NP ce ad A s σ H locs) {k : Nat} (hk : k < NP) (t0 : Nat) {cA : ClassId} {ty : FieldType} (ht : (tysG cy)[t0]? = some (cA, ty)) {x : vp_A} (he : ce k (σ k) = .inl (cA, x)) {v : Int32} (hv : Int32.ofNat x.1 = v) (hdg : decode cc pc = .ok (.arraylength, 1))
    (kk : W p l e R s m args below meth c H locs cells slots Q (F0 m (pc + 1) ls (.int v :: rest))) : W p l e R s m args below meth c H locs cells slots Q (F0 m pc ls (.ref (ad k) :: rest)) :=
  va_alen E.hx E.hb E.hK hw.1 k t0 (by rw [wG_get hk, he]) ht hv hdg kk
/-! calls -/
theorem zPre (E : ZE p s m args c cc nL own D cy NP ad A) (hw : ZS D NP ce ad A s σ H locs) (av : List Value) : PreS s H (zPc D cy NP ce ad A av σ) av :=
  ⟨zPc_blind, fun U hU hW => ⟨rfl, by rw [hU]; exact hw.1, va_K.moved hW.alike E.hK, E.hN.warm hW, by rw [hU]; exact E.hX.warm hW hw.2.2.1⟩⟩
theorem zPreV (E : ZE p s m args c cc nL own D cy NP ad A) (hw : ZS D NP ce ad A s σ H locs) {k : Nat} (hk : k < NP) {ci : Nat} {fs : List Value} (he : ce k (σ k) = .inr (ci, fs)) {C : String} {T : u_T} {N : Nat} (hc : vwCl[ci]? = some (C, T, N)) (As : List Value) : PreV s H C (ad k) (zPc D cy NP ce ad A (.ref (ad k) :: As) σ) As :=
  ⟨zPc_blind, va_recv E.hK hw.1 (q0 := k) hc (by rw [wG_get hk, he]), (zPre E hw _).2⟩
theorem zcB {y : MethodName} {bytes : ByteArray} {maxL n idx : Nat} {ret : Option FieldType} {rm : Room} (E : ZE p s m args c cc nL own D cy NP ad A) (hcode : Cond.code y bytes maxL ret ∈ TT) (hini : Cond.initialized y.cls ∈ TT) (hl : Cond.methodLink own idx y ∈ TT)
    (hd : y.cls ≠ "java/lang/invoke/MethodHandle" ∧ y.cls ≠ "java/lang/invoke/VarHandle" ∧ (parseMethodDescriptor y.desc).map (fun d => d.parameters.length) = some n) (hrc : rm.cells = 0) (hrs : rm.slots = 0) (hR : rm.frames + 1 ≤ R.frames ∧ 8 + (maxL + 11) + rm.locals ≤ R.locals) : CallB R s args own idx y bytes maxL ret (.code y bytes maxL ret :: TT) rm 0 0 n :=
  callB_of n E.ht (gTc hcode) rfl hrc hrs (E.ht _ hini) (E.ht _ hl) hd hR
theorem zcV {C : String} {y : MethodName} {bytes : ByteArray} {maxL n idx : Nat} {ret : Option FieldType} {rm : Room} (E : ZE p s m args c cc nL own D cy NP ad A) (hcode : Cond.code y bytes maxL ret ∈ TT) (hini : Cond.initialized y.cls ∈ TT) (hl : Cond.methodLink own idx y ∈ TT) (hi : Cond.instanceMethod y ∈ TT) (hs : Cond.selects C y y ∈ TT)
    (hd : y.cls ≠ "java/lang/invoke/MethodHandle" ∧ y.cls ≠ "java/lang/invoke/VarHandle" ∧ (parseMethodDescriptor y.desc).map (fun d => d.parameters.length) = some n) (hrc : rm.cells = 0) (hrs : rm.slots = 0) (hR : rm.frames + 1 ≤ R.frames ∧ 8 + (maxL + 11) + rm.locals ≤ R.locals) : CallW R s args own C idx y bytes maxL ret (.code y bytes maxL ret :: TT) rm 0 0 n :=
  ⟨zcB E hcode hini hl hd hrc hrs hR, E.ht _ hi, E.ht _ hs⟩
theorem zcS {y : MethodName} {bytes : ByteArray} {maxL n idx : Nat} {ret : Option FieldType} {rm : Room} (E : ZE p s m args c cc nL own D cy NP ad A) (hcode : Cond.code y bytes maxL ret ∈ TT) (hini : Cond.initialized y.cls ∈ TT) (hl : Cond.methodLink own idx y ∈ TT) (hi : Cond.static y ∈ TT)
    (hd : y.cls ≠ "java/lang/invoke/MethodHandle" ∧ y.cls ≠ "java/lang/invoke/VarHandle" ∧ (parseMethodDescriptor y.desc).map (fun d => d.parameters.length) = some n) (hrc : rm.cells = 0) (hrs : rm.slots = 0) (hR : rm.frames + 1 ≤ R.frames ∧ 8 + (maxL + 11) + rm.locals ≤ R.locals) : CallB R s args own idx y bytes maxL ret (.code y bytes maxL ret :: TT) rm 0 0 n ∧ (Cond.static y).before args s = true :=
  ⟨zcB E hcode hini hl hd hrc hrs hR, E.ht _ hi⟩
theorem zcN {host : String} {y : MethodName} {bytes : ByteArray} {maxL n idx : Nat} {ret : Option FieldType} {rm : Room} (E : ZE p s m args c cc nL own D cy NP ad A) (hcode : Cond.code y bytes maxL ret ∈ TT) (hini : Cond.initialized y.cls ∈ TT) (hl : Cond.methodLinkNest own idx y host ∈ lw_tbl) (hi : Cond.static y ∈ TT)
    (hd : y.cls ≠ "java/lang/invoke/MethodHandle" ∧ y.cls ≠ "java/lang/invoke/VarHandle" ∧ (parseMethodDescriptor y.desc).map (fun d => d.parameters.length) = some n) (hrc : rm.cells = 0) (hrs : rm.slots = 0) (hR : rm.frames + 1 ≤ R.frames ∧ 8 + (maxL + 11) + rm.locals ≤ R.locals) : va_CN R s args own idx y host bytes maxL ret (.code y bytes maxL ret :: TT) rm 0 0 n ∧ (Cond.static y).before args s = true ∧ True :=
  ⟨va_cnB n E.ht (gTc hcode) rfl hrc hrs (E.hN _ hl rfl) (E.ht _ hini) hd hR, E.ht _ hi, trivial⟩
theorem zcSU {y : MethodName} {bytes : ByteArray} {maxL n idx : Nat} {ret : Option FieldType} {rm : Room} (E : ZE p s m args c cc nL own D cy NP ad A) (hcode : Cond.code y bytes maxL ret ∈ TT) (hini : Cond.initialized y.cls ∈ TT) (hl : Cond.methodLink own idx y ∈ TT) (hi : Cond.instanceMethod y ∈ TT) (hsm : Cond.sameMethod y.cls y.cls y.name y.desc ∈ TT) (hsup : Cond.superclass own y.cls ∈ TT)
    (hd : y.name ≠ "<init>" ∧ (parseMethodDescriptor y.desc).map (fun d => d.parameters.length) = some n) (hrc : rm.cells = 0) (hrs : rm.slots = 0) (hR : rm.frames + 1 ≤ R.frames ∧ 8 + (maxL + 11) + rm.locals ≤ R.locals) : va_CS R s args own idx y bytes maxL ret (.code y bytes maxL ret :: TT) rm 0 0 n := by
  refine ⟨⟨hrc, hrs, hR.1, hR.2, pay_in E.ht (gTc hcode), List.mem_cons_self⟩, E.ht _ hl, E.ht _ hsm, E.ht _ hsup, E.ht _ hi, E.ht _ hini, E.ht _ hcode, hd.1, fun sig h => ?_⟩
  have h2 := hd.2
  rw [h] at h2
  exact (Option.some.inj h2).symm
theorem zcU {C owner : String} {x y : MethodName} {bytes b0 : ByteArray} {maxL m0 n idx : Nat} {ret r0 : Option FieldType} {rm : Room} (E : ZE p s m args c cc nL own D cy NP ad A) (hcode : Cond.code y bytes maxL ret ∈ TT) (hini : Cond.initialized y.cls ∈ TT) (hl : Cond.methodLink own idx x ∈ TT) (hsm : Cond.sameMethod x.cls owner x.name x.desc ∈ TT) (hio : Cond.instanceMethod ⟨owner, x.name, x.desc⟩ ∈ TT) (h0 : Cond.code ⟨owner, x.name, x.desc⟩ b0 m0 r0 ∈ TT) (hs : Cond.selects C x y ∈ TT) (hi : Cond.instanceMethod y ∈ TT)
    (hd : owner ≠ "java/lang/invoke/MethodHandle" ∧ owner ≠ "java/lang/invoke/VarHandle" ∧ (parseMethodDescriptor x.desc).map (fun d => d.parameters.length) = some n) (hrc : rm.cells = 0) (hrs : rm.slots = 0) (hR : rm.frames + 1 ≤ R.frames ∧ 8 + (maxL + 11) + rm.locals ≤ R.locals) : va_CU R s args own C owner idx x y bytes maxL ret (.code y bytes maxL ret :: TT) rm 0 0 n := by
  refine ⟨⟨hrc, hrs, hR.1, hR.2, pay_in E.ht (gTc hcode), List.mem_cons_self⟩, E.ht _ hcode, E.ht _ hini, ⟨hd.1, hd.2.1⟩, fun sig h => ?_, E.ht _ hl, E.ht _ hsm, va_Decl.of (E.ht _ hio) (E.ht _ h0), E.ht _ hs, E.ht _ hi⟩
  have h2 := hd.2.2
  rw [h] at h2
  exact (Option.some.inj h2).symm
variable {st0 : List Value} {a9 : Array Value} {r : Int32} {r64 : Int64} {σ1 : Sg}
theorem zcali (hw : ZS D NP ce ad A s σ H locs) (hr : va_Run p l e R s m args below meth c H locs cells slots 0 0 (F0 m pc ls st0) rest (zQi D NP ce ad A r σ1 a9) A)
    (kk : ∀ (H1 : Heap) (locs1 : List Loc), ZS D NP ce ad A s σ1 H1 locs1 → W p l e R s m args below meth c H1 locs1 cells slots Q (F0 m (pc + 3) ls (.int r :: rest))) : W p l e R s m args below meth c H locs cells slots Q (F0 m pc ls st0) :=
  va_calli hr hw.2 (fun _ _ h => h) (fun _ h => h) (fun r2 u t H1 locs1 ht _ hp hB _ _ hS => by
    subst hp
    rw [ht] at hB
    exact kk H1 locs1 ⟨hB, hS⟩)
theorem zcall (hw : ZS D NP ce ad A s σ H locs) (hr : va_Run p l e R s m args below meth c H locs cells slots 0 0 (F0 m pc ls st0) rest (zQl D NP ce ad A r64 σ1 a9) A)
    (kk : ∀ (H1 : Heap) (locs1 : List Loc), ZS D NP ce ad A s σ1 H1 locs1 → W p l e R s m args below meth c H1 locs1 cells slots Q (F0 m (pc + 3) ls (.long r64 :: rest))) : W p l e R s m args below meth c H locs cells slots Q (F0 m pc ls st0) :=
  va_calll hr hw.2 (fun _ _ h => h) (fun _ h => h) (fun r2 u t H1 locs1 ht _ hp hB _ _ hS => by
    subst hp
    rw [ht] at hB
    exact kk H1 locs1 ⟨hB, hS⟩)
theorem zcalv (hw : ZS D NP ce ad A s σ H locs) (hr : va_Run p l e R s m args below meth c H locs cells slots 0 0 (F0 m pc ls st0) rest (zQv D NP ce ad A σ1 a9) A)
    (kk : ∀ (H1 : Heap) (locs1 : List Loc), ZS D NP ce ad A s σ1 H1 locs1 → W p l e R s m args below meth c H1 locs1 cells slots Q (F0 m (pc + 3) ls rest)) : W p l e R s m args below meth c H locs cells slots Q (F0 m pc ls st0) :=
  va_callv hr hw.2 (fun _ _ h => h) (fun _ h => h) (fun u t H1 locs1 ht _ hp hB _ _ hS => by
    rw [ht] at hB
    exact kk H1 locs1 ⟨hB, hS⟩)
/-! ends -/
theorem zreti (E : ZE p s m args c cc nL own D cy NP ad A) (hw : ZS D NP ce ad A s σ H locs) (hr : meth.sig.returnType = some .int) (hlocks : meth.locks = false) {v : Int32} (hv : v = r) (hσ : σ = σ1) (hdg : decode cc pc = .ok (.ireturn, 1)) : W p l e R s m args below meth c H locs 0 0 (MQ below (zQi D NP ce ad A r σ1) args s 0 0 A) (F0 m pc ls [.int v]) := by
  subst hv; subst hσ
  exact W.iret E.hx E.hb hr (fun t ht _ => ⟨⟨v, (), rfl, rfl, by show va_P D vwCl (wG NP ce ad σ) t.heap; rw [ht]; exact hw.1⟩, hw.2.F ht⟩) hw.2.2.2 hdg hlocks
theorem zretz (E : ZE p s m args c cc nL own D cy NP ad A) (hw : ZS D NP ce ad A s σ H locs) (hr : meth.sig.returnType = some .boolean) (hlocks : meth.locks = false) {v : Int32} {b : Bool} (hv : v = b2i b) (hσ : σ = σ1) (hdg : decode cc pc = .ok (.ireturn, 1)) : W p l e R s m args below meth c H locs 0 0 (MQ below (zQi D NP ce ad A (b2i b) σ1) args s 0 0 A) (F0 m pc ls [.int v]) := by
  subst hv; subst hσ
  exact W.zret E.hx E.hb hr (b2i_nar b) (fun t ht _ => ⟨⟨b2i b, (), rfl, rfl, by show va_P D vwCl (wG NP ce ad σ) t.heap; rw [ht]; exact hw.1⟩, hw.2.F ht⟩) hw.2.2.2 hdg hlocks
theorem zretl (E : ZE p s m args c cc nL own D cy NP ad A) (hw : ZS D NP ce ad A s σ H locs) (hr : meth.sig.returnType = some .long) (hlocks : meth.locks = false) {v : Int64} (hv : v = r64) (hσ : σ = σ1) (hdg : decode cc pc = .ok (.lreturn, 1)) : W p l e R s m args below meth c H locs 0 0 (MQ below (zQl D NP ce ad A r64 σ1) args s 0 0 A) (F0 m pc ls [.long v]) := by
  subst hv; subst hσ
  exact W.lret E.hx E.hb hr (fun t ht _ => ⟨⟨v, (), rfl, rfl, by show va_P D vwCl (wG NP ce ad σ) t.heap; rw [ht]; exact hw.1⟩, hw.2.F ht⟩) hw.2.2.2 hdg hlocks
theorem zretv (E : ZE p s m args c cc nL own D cy NP ad A) (hw : ZS D NP ce ad A s σ H locs) (hr : meth.sig.returnType = none) (hlocks : meth.locks = false) (hσ : σ = σ1) (hdg : decode cc pc = .ok (.return_, 1)) : W p l e R s m args below meth c H locs 0 0 (MQ below (zQv D NP ce ad A σ1) args s 0 0 A) (F0 m pc ls []) := by
  subst hσ
  exact W.vret E.hx E.hb hr (fun t ht _ => ⟨⟨(), rfl, trivial, by show va_P D vwCl (wG NP ce ad σ) t.heap; rw [ht]; exact hw.1⟩, hw.2.F ht⟩) hw.2.2.2 hdg hlocks
/-- a contract out of its walk -/
theorem zofW {y : MethodName} {rm : Room} {ret : Option FieldType} {av : List Value} {Qc : Array Value → State → Outcome → State → Prop} (hy : plainName y.cls = true) (hA : okAd NP ad A) (hcat : (lg_sl av).length ≤ nL)
    (body : ∀ (p : Program) (e : Env) (s : State) (m : MethodId) (args : Array Value) (below : List Frame) (meth : Method) (c : Code) (ls : Array Slot), ZE p s m args c cc nL y.cls D cy NP ad A → ZS D NP ce ad A s σ s.heap [] → meth.sig.returnType = ret → meth.locks = false → lv_has ls nL (lv_args 0 av) →
      W p l e rm s m args below meth c s.heap [] 0 0 (MQ below Qc args s 0 0 A) (F0 m 0 ls [])) : Met l y (.code y cc nL ret :: TT) rm (zPc D cy NP ce ad A av σ) Qc 0 0 A := by
  refine Met.ofW (cc := cc) (maxL := nL) (ret := ret) hy rfl ?_
  intro p e s m args below meth c s₁ B hml hv
  obtain ⟨rfl, hP, hK, hN, hX⟩ := hv
  have hts := atoms_spec (ws := .code y cc nL ret :: TT) B.pre
  have hl := lv_entry av (n := nL) hcat
  rw [lg_entry_eq]
  exact body p e s m _ below meth c _ ⟨B.exec, B.bytes, hml, findClass_of_methodNamed B.named, fun w h => hts w (List.mem_cons_of_mem _ h), hK, hA, hN, hX⟩ ⟨hP, va_S.rf⟩ B.returns B.notSynchronized hl
end ZZ
