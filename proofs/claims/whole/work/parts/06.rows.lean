/-! what the functions are made of, and the rows that go with it -/
def lt {α β : Sort _} (v : α) (k : α → β) : β := k v
def lt2 {α β γ : Type} (q : α × β) (k : α → β → γ) : γ := k q.1 q.2
def bd2 {α β γ : Type} (q : Option (α × β)) (k : α → β → Option γ) : Option γ := Option.bind q (fun z => k z.1 z.2)
def fuel {α : Type} (z : α) (f : α → α) : Nat → α
  | 0 => z
  | n + 1 => f (fuel z f n)
def rd (σ : Sg) (p n : Nat) (i : Int32) : Option Int32 := if i < 0 ∨ n ≤ i.toNatClampNeg then none else some (σ p i.toNatClampNeg)
def wr (σ : Sg) (p n : Nat) (i x : Int32) : Option Sg := if i < 0 ∨ n ≤ i.toNatClampNeg then none else some (upS σ p i.toNatClampNeg x)
def cpy (σ : Sg) (a b n : Nat) : Sg := upR σ b (fun k => if k < n then σ a k else σ b k)
def chW (i : Int32) : Option Int32 := if i < 0 ∨ 86 ≤ i.toNatClampNeg then none else some (strB.getD i.toNatClampNeg 0)
def rem32 (x y : Int32) : Int32 := x - x / y * y
def shl32 (x y : Int32) : Int32 := x <<< (y &&& 31)
def shr32 (x y : Int32) : Int32 := x >>> (y &&& 31)
def ushr32 (x y : Int32) : Int32 := (x.toUInt32 >>> (y.toUInt32 &&& Int32.toUInt32 31)).toInt32
def shr64 (x : Int64) (y : Int32) : Int64 := x >>> (y.toInt64 &&& 63)
def ushr64 (x : Int64) (y : Int32) : Int64 := (x.toUInt64 >>> (y.toInt64.toUInt64 &&& Int64.toUInt64 63)).toInt64
def min32 (x y : Int32) : Int32 := if y < x then y else x
def max32 (x y : Int32) : Int32 := if x < y then y else x
def abs32 (x : Int32) : Int32 := if 0 ≤ x then x else 0 - x
theorem lt_e {α : Sort _} {β : Sort _} {v : α} {k : α → β} {r : β} (h : lt v k = r) : ∃ x, v = x ∧ k x = r := ⟨v, rfl, h⟩
theorem lt_i {α : Sort _} {β : Sort _} {v x : α} {k : α → β} {r : β} (e : x = v) (h : lt v k = r) : k x = r := by subst e; exact h
theorem lt2_e {α β γ : Type} {q : α × β} {k : α → β → γ} {r : γ} (h : lt2 q k = r) : ∃ x y, q = (x, y) ∧ k x y = r := ⟨q.1, q.2, rfl, h⟩
theorem bd_e {α β : Type} {q : Option α} {k : α → Option β} {r : β} (h : Option.bind q k = some r) : ∃ x, q = some x ∧ k x = some r := by
  cases q with
  | none => exact absurd h (by simp)
  | some x => exact ⟨x, rfl, h⟩
theorem bd2_e {α β γ : Type} {q : Option (α × β)} {k : α → β → Option γ} {r : γ} (h : bd2 q k = some r) : ∃ x y, q = some (x, y) ∧ k x y = some r := by
  cases q with
  | none => exact absurd h (by simp [bd2])
  | some x => exact ⟨x.1, x.2, rfl, h⟩
theorem nn_e {α : Type} {P : Prop} {r : α} (h : none = some r) : P := by cases h
theorem gd_e {α : Type} {c : Prop} [Decidable c] {q : Option α} {r : α} (h : (if c then none else q) = some r) : ¬ c ∧ q = some r := by
  by_cases hc : c
  · rw [if_pos hc] at h; cases h
  · rw [if_neg hc] at h; exact ⟨hc, h⟩
theorem it_t {α : Sort _} {c : Prop} [Decidable c] {a b r : α} (hc : c) (h : (if c then a else b) = r) : a = r := by rw [if_pos hc] at h; exact h
theorem it_f {α : Sort _} {c : Prop} [Decidable c] {a b r : α} (hc : ¬ c) (h : (if c then a else b) = r) : b = r := by rw [if_neg hc] at h; exact h
theorem it_n {α : Sort _} {c : Prop} [Decidable c] {a b r : α} (hc : c) (h : (if ¬ c then a else b) = r) : b = r := by rw [if_neg (not_not_intro hc)] at h; exact h
theorem b2i_0 {b : Bool} (h : b2i b = 0) : ¬ b = true := by cases b with
  | false => decide
  | true => exact absurd h (by decide)
theorem b2i_n {b : Bool} (h : ¬ b2i b = 0) : b = true := by cases b with
  | false => exact absurd rfl h
  | true => rfl
theorem rt_1 {α : Type} {a b : α} (h : some a = some b) : a = b := by cases h; rfl
theorem rt_a {α β : Type} {a c : α} {b d : β} (h : some (a, b) = some (c, d)) : a = c := by cases h; rfl
theorem rt_b {α β : Type} {a c : α} {b d : β} (h : some (a, b) = some (c, d)) : b = d := by cases h; rfl
theorem rp_a {α β : Type} {a c : α} {b d : β} (h : (a, b) = (c, d)) : a = c := by cases h; rfl
theorem rp_b {α β : Type} {a c : α} {b d : β} (h : (a, b) = (c, d)) : b = d := by cases h; rfl
theorem b_e {x : Int32} {b r : Bool} (h : b = r) (hk : x = b2i b) : x = b2i r := by subst h; exact hk
theorem z_b {v k : Int32} {b r : Bool} (hz : v = k) (h : b = r) (hk : k = b2i b) : v = b2i r := by subst h; exact hz.trans hk
theorem emb_e {a r : Int32} {x : Int64} (h : a = r) (hk : x = a.toInt64) : x = r.toInt64 := by subst h; exact hk
theorem z01_e {α : Type} {v : Int32} {A B : Option α} {r : α} (h : (if v = 1 then A else if v = 0 then B else none) = some r) : (v = 1 ∧ A = some r) ∨ (v = 0 ∧ B = some r) := by
  by_cases h1 : v = 1
  · rw [if_pos h1] at h; exact Or.inl ⟨h1, h⟩
  · rw [if_neg h1] at h
    by_cases h0 : v = 0
    · rw [if_pos h0] at h; exact Or.inr ⟨h0, h⟩
    · rw [if_neg h0] at h; cases h
theorem z01_nar {v : Int32} (h : ¬ ¬ (v = 0 ∨ v = 1)) : narrow .boolean (.int v) = .int v := by
  rcases Decidable.of_not_not h with rfl | rfl <;> rfl
theorem z01_fit {v : Int32} (h : ¬ ¬ (v = 0 ∨ v = 1)) : fits .boolean (.int v) = true := by
  rcases Decidable.of_not_not h with rfl | rfl <;> rfl
theorem b2i_fit (b : Bool) : fits .boolean (.int (b2i b)) = true := by cases b <;> rfl
theorem nlt {i : Int32} {n : Nat} (h : ¬ (i < 0 ∨ n ≤ i.toNatClampNeg)) : i.toNatClampNeg < n := Nat.not_le.mp fun q => h (Or.inr q)
theorem i64_back (x : Int32) : x.toInt64.toInt32 = x := by simp
theorem upd64 (f : Nat → Int32) (i : Nat) (x : Int32) : (fun j => (upd f i x j).toInt64) = vp_updL (fun j => (f j).toInt64) i x.toInt64 := by
  funext j
  unfold upd vp_updL
  split <;> rfl
section ZR
variable {p : Program} {l : Launch} {e : Env} {R : Room} {s : State} {m : MethodId} {args : Array Value} {below : List Frame} {meth : Method} {c : Code} {H : Heap} {locs : List Loc} {cells slots : Nat} {Q : State → Prop}
variable {cc : ByteArray} {nL : Nat} {own : String} {D : va_G} {cy : Cy} {NP : Nat} {ce : Ce} {ad : Nat → Nat} {A : Nat → Prop} {σ : Sg}
variable {pc : Nat} {ls : Array Slot} {rest : List Value}
theorem zirem (hx : p.tables.exec = Jvm.exec) (hb : c.code = cc) {x y : Int32} (hdg : decode cc pc = .ok (.irem, 1)) (hne : ¬ y = 0) (k : W p l e R s m args below meth c H locs cells slots Q (F0 m (pc + 1) ls (.int (rem32 x y) :: rest))) : W p l e R s m args below meth c H locs cells slots Q (F0 m pc ls (.int y :: .int x :: rest)) := lv_irem hx hb hdg hne k
theorem zishl (hx : p.tables.exec = Jvm.exec) (hb : c.code = cc) {x y : Int32} (hdg : decode cc pc = .ok (.ishl, 1)) (k : W p l e R s m args below meth c H locs cells slots Q (F0 m (pc + 1) ls (.int (shl32 x y) :: rest))) : W p l e R s m args below meth c H locs cells slots Q (F0 m pc ls (.int y :: .int x :: rest)) := lv_ishl hx hb hdg k
theorem zishr (hx : p.tables.exec = Jvm.exec) (hb : c.code = cc) {x y : Int32} (hdg : decode cc pc = .ok (.ishr, 1)) (k : W p l e R s m args below meth c H locs cells slots Q (F0 m (pc + 1) ls (.int (shr32 x y) :: rest))) : W p l e R s m args below meth c H locs cells slots Q (F0 m pc ls (.int y :: .int x :: rest)) := lv_ishr hx hb hdg k
theorem ziushr (hx : p.tables.exec = Jvm.exec) (hb : c.code = cc) {x y : Int32} (hdg : decode cc pc = .ok (.iushr, 1)) (k : W p l e R s m args below meth c H locs cells slots Q (F0 m (pc + 1) ls (.int (ushr32 x y) :: rest))) : W p l e R s m args below meth c H locs cells slots Q (F0 m pc ls (.int y :: .int x :: rest)) := lv_iushr hx hb hdg rfl k
theorem zlshr (hx : p.tables.exec = Jvm.exec) (hb : c.code = cc) {x : Int64} {y : Int32} (hdg : decode cc pc = .ok (.lshr, 1)) (k : W p l e R s m args below meth c H locs cells slots Q (F0 m (pc + 1) ls (.long (shr64 x y) :: rest))) : W p l e R s m args below meth c H locs cells slots Q (F0 m pc ls (.int y :: .long x :: rest)) := lv_lshr hx hb hdg rfl k
theorem zlushr (hx : p.tables.exec = Jvm.exec) (hb : c.code = cc) {x : Int64} {y : Int32} (hdg : decode cc pc = .ok (.lushr, 1)) (k : W p l e R s m args below meth c H locs cells slots Q (F0 m (pc + 1) ls (.long (ushr64 x y) :: rest))) : W p l e R s m args below meth c H locs cells slots Q (F0 m pc ls (.int y :: .long x :: rest)) := lv_lushr hx hb hdg rfl k
theorem zputs (E : ZE p s m args c cc nL own D cy NP ad A) (hw : ZS D NP ce ad A s σ H locs) {k : Nat} (hk : k < NP) {ci : Nat} {fs : List Value} (he : ce k (σ k) = .inr (ci, fs)) {C ref : String} {T : u_T} {N idx : Nat} (hc : vwCl[ci]? = some (C, T, N)) (hin : ∀ w ∈ u_ws C T N, w ∈ TT) (ty0 : Nat → FieldType) (hty : ∀ k, k < N → parseFieldDescriptor (T k).2.2.1 = some (ty0 k)) (hnm : ∀ a, a < N → ∀ b, b < N → a ≠ b → (T a).2.1 ≠ (T b).2.1) (i : Nat) (hi : i < N)
    (hlink : Cond.fieldLink own idx ref (T i).2.1 (T i).2.2.1 ∈ TT) (hsame : ∀ x, s.fieldFound? (T i).1 (T i).2.1 (T i).2.2.1 = some x → s.fieldFound? ref (T i).2.1 (T i).2.2.1 = some x) (hfin : (T i).2.2.2 = false) {x : Int32} (hn : narrow (ty0 i) (.int x) = .int x) (hfit : fits (ty0 i) (.int x) = true) (hl : i < fs.length)
    {j : Nat} (he2 : ce k (upd (σ k) j x) = .inr (ci, fs.set i (.int x))) (hdg : decode cc pc = .ok (.putfield idx, 3))
    (kk : ∀ (σ2 : Sg), σ2 = upS σ k j x → ∀ (H1 : Heap) (locs1 : List Loc), ZS D NP ce ad A s σ2 H1 locs1 → W p l e R s m args below meth c H1 locs1 cells slots Q (F0 m (pc + 3) ls rest)) : W p l e R s m args below meth c H locs cells slots Q (F0 m pc ls (.int x :: .ref (ad k) :: rest)) :=
  zput E hw hk he hc hin ty0 hty hnm i hi hlink hsame hfin hn hfit hl he2 hdg (kk _ rfl)
theorem rd_e {σ : Sg} {k n : Nat} {i v : Int32} (h : rd σ k n i = some v) : ¬ (i < 0 ∨ n ≤ i.toNatClampNeg) ∧ σ k i.toNatClampNeg = v := by
  obtain ⟨h1, h2⟩ := gd_e h
  exact ⟨h1, rt_1 h2⟩
theorem wr_e {σ σ2 : Sg} {k n : Nat} {i x : Int32} (h : wr σ k n i x = some σ2) : ¬ (i < 0 ∨ n ≤ i.toNatClampNeg) ∧ upS σ k i.toNatClampNeg x = σ2 := by
  obtain ⟨h1, h2⟩ := gd_e h
  exact ⟨h1, rt_1 h2⟩
theorem zaldr (E : ZE p s m args c cc nL own D cy NP ad A) (hw : ZS D NP ce ad A s σ H locs) {k : Nat} (hk : k < NP) {n : Nat} (he : ∀ row, ce k row = .inl (cy 1, n, .inl row)) {i v : Int32} (hv : rd σ k n i = some v) (hdg : decode cc pc = .ok (.iaload, 1))
    (kk : W p l e R s m args below meth c H locs cells slots Q (F0 m (pc + 1) ls (.int v :: rest))) : W p l e R s m args below meth c H locs cells slots Q (F0 m pc ls (.int i :: .ref (ad k) :: rest)) := by
  obtain ⟨h1, rfl⟩ := rd_e hv
  exact zald E hw hk (he _) h1 hdg kk
theorem zbaldr (E : ZE p s m args c cc nL own D cy NP ad A) (hw : ZS D NP ce ad A s σ H locs) {k : Nat} (hk : k < NP) {n : Nat} (he : ∀ row, ce k row = .inl (cy 0, n, .inl row)) {i v : Int32} (hv : rd σ k n i = some v) (hdg : decode cc pc = .ok (.baload, 1))
    (kk : W p l e R s m args below meth c H locs cells slots Q (F0 m (pc + 1) ls (.int v :: rest))) : W p l e R s m args below meth c H locs cells slots Q (F0 m pc ls (.int i :: .ref (ad k) :: rest)) := by
  obtain ⟨h1, rfl⟩ := rd_e hv
  exact zbald E hw hk (he _) h1 hdg kk
theorem zlaldr (E : ZE p s m args c cc nL own D cy NP ad A) (hw : ZS D NP ce ad A s σ H locs) {k : Nat} (hk : k < NP) {n : Nat} (he : ∀ row : Nat → Int32, ce k row = .inl (cy 2, n, .inr (.inl (fun j => (row j).toInt64)))) {i v : Int32} (hv : rd σ k n i = some v) (hdg : decode cc pc = .ok (.laload, 1))
    (kk : W p l e R s m args below meth c H locs cells slots Q (F0 m (pc + 1) ls (.long v.toInt64 :: rest))) : W p l e R s m args below meth c H locs cells slots Q (F0 m pc ls (.int i :: .ref (ad k) :: rest)) := by
  obtain ⟨h1, rfl⟩ := rd_e hv
  exact zlald E hw hk (he _) h1 hdg kk
theorem clp {i : Int32} {j n : Nat} (hj : i.toNatClampNeg = j) (hlt : j < n) (h0 : ¬ i < 0) : ¬ (i < 0 ∨ n ≤ i.toNatClampNeg) := by
  rw [hj]
  rintro (h | h)
  · exact h0 h
  · omega
theorem zaldk (E : ZE p s m args c cc nL own D cy NP ad A) (hw : ZS D NP ce ad A s σ H locs) {k : Nat} (hk : k < NP) {n : Nat} (he : ∀ row, ce k row = .inl (cy 1, n, .inl row)) {i : Int32} (j : Nat) (hj : i.toNatClampNeg = j) (hlt : j < n) (h0 : ¬ i < 0) (hdg : decode cc pc = .ok (.iaload, 1))
    (kk : W p l e R s m args below meth c H locs cells slots Q (F0 m (pc + 1) ls (.int (σ k j) :: rest))) : W p l e R s m args below meth c H locs cells slots Q (F0 m pc ls (.int i :: .ref (ad k) :: rest)) :=
  zald E hw hk (he _) (clp hj hlt h0) hdg (by rw [hj]; exact kk)
theorem zbaldk (E : ZE p s m args c cc nL own D cy NP ad A) (hw : ZS D NP ce ad A s σ H locs) {k : Nat} (hk : k < NP) {n : Nat} (he : ∀ row, ce k row = .inl (cy 0, n, .inl row)) {i : Int32} (j : Nat) (hj : i.toNatClampNeg = j) (hlt : j < n) (h0 : ¬ i < 0) (hdg : decode cc pc = .ok (.baload, 1))
    (kk : W p l e R s m args below meth c H locs cells slots Q (F0 m (pc + 1) ls (.int (σ k j) :: rest))) : W p l e R s m args below meth c H locs cells slots Q (F0 m pc ls (.int i :: .ref (ad k) :: rest)) :=
  zbald E hw hk (he _) (clp hj hlt h0) hdg (by rw [hj]; exact kk)
theorem zastr (E : ZE p s m args c cc nL own D cy NP ad A) (hw : ZS D NP ce ad A s σ H locs) {k : Nat} (hk : k < NP) {n : Nat} (he : ∀ row, ce k row = .inl (cy 1, n, .inl row)) {i x : Int32} {σ2 : Sg} (hv : wr σ k n i x = some σ2) (hdg : decode cc pc = .ok (.iastore, 1))
    (kk : ∀ (H1 : Heap) (locs1 : List Loc), ZS D NP ce ad A s σ2 H1 locs1 → W p l e R s m args below meth c H1 locs1 cells slots Q (F0 m (pc + 1) ls rest)) : W p l e R s m args below meth c H locs cells slots Q (F0 m pc ls (.int x :: .int i :: .ref (ad k) :: rest)) := by
  obtain ⟨h1, rfl⟩ := wr_e hv
  exact zast E hw hk (he _) h1 (he _) hdg kk
theorem zbastr (E : ZE p s m args c cc nL own D cy NP ad A) (hw : ZS D NP ce ad A s σ H locs) {k : Nat} (hk : k < NP) {n : Nat} (he : ∀ row, ce k row = .inl (cy 0, n, .inl row)) {i x : Int32} {σ2 : Sg} (hv : wr σ k n i x.toInt8.toInt32 = some σ2) (hdg : decode cc pc = .ok (.bastore, 1))
    (kk : ∀ (H1 : Heap) (locs1 : List Loc), ZS D NP ce ad A s σ2 H1 locs1 → W p l e R s m args below meth c H1 locs1 cells slots Q (F0 m (pc + 1) ls rest)) : W p l e R s m args below meth c H locs cells slots Q (F0 m pc ls (.int x :: .int i :: .ref (ad k) :: rest)) := by
  obtain ⟨h1, rfl⟩ := wr_e hv
  exact zbast E hw hk (he _) h1 (he _) hdg kk
theorem zlastr (E : ZE p s m args c cc nL own D cy NP ad A) (hw : ZS D NP ce ad A s σ H locs) {k : Nat} (hk : k < NP) {n : Nat} (he : ∀ row : Nat → Int32, ce k row = .inl (cy 2, n, .inr (.inl (fun j => (row j).toInt64)))) {i x : Int32} {σ2 : Sg} (hv : wr σ k n i x = some σ2) (hdg : decode cc pc = .ok (.lastore, 1))
    (kk : ∀ (H1 : Heap) (locs1 : List Loc), ZS D NP ce ad A s σ2 H1 locs1 → W p l e R s m args below meth c H1 locs1 cells slots Q (F0 m (pc + 1) ls rest)) : W p l e R s m args below meth c H locs cells slots Q (F0 m pc ls (.long x.toInt64 :: .int i :: .ref (ad k) :: rest)) := by
  obtain ⟨h1, rfl⟩ := wr_e hv
  exact zlast (x := x) E hw hk (he _) h1 (by rw [he, upd64]) hdg kk
theorem zastk (E : ZE p s m args c cc nL own D cy NP ad A) (hw : ZS D NP ce ad A s σ H locs) {k : Nat} (hk : k < NP) {n : Nat} (he : ∀ row, ce k row = .inl (cy 1, n, .inl row)) {i x : Int32} (j : Nat) (hj : i.toNatClampNeg = j) (hlt : j < n) (h0 : ¬ i < 0) (hdg : decode cc pc = .ok (.iastore, 1))
    (kk : ∀ (σ2 : Sg), σ2 = upS σ k j x → ∀ (H1 : Heap) (locs1 : List Loc), ZS D NP ce ad A s σ2 H1 locs1 → W p l e R s m args below meth c H1 locs1 cells slots Q (F0 m (pc + 1) ls rest)) : W p l e R s m args below meth c H locs cells slots Q (F0 m pc ls (.int x :: .int i :: .ref (ad k) :: rest)) := by
  subst hj
  exact zast E hw hk (he _) (clp rfl hlt h0) (he _) hdg (kk _ rfl)
theorem zcpy_e {f g : Nat → Int32} {n : Nat} : va_cpy f g 0 0 n = fun k => if k < n then f k else g k := by
  funext k
  unfold va_cpy
  simp
theorem zcopy (E : ZE p s m args c cc nL own D cy NP ad A) (hw : ZS D NP ce ad A s σ H locs) (hsz : ls.size = nL) {index : Nat} (hlink : (Cond.methodLink own index arraycopyName).before args s = true) (hnat : (Cond.native arraycopyName).before args s = true) (hstat : (Cond.static arraycopyName).before args s = true) (hini : (Cond.initialized "java/lang/System").before args s = true)
    {a b : Nat} (ha : a < NP) {na : Nat} (hea : ∀ row, ce a row = .inl (cy 1, na, .inl row)) (hb9 : b < NP) {nb : Nat} (heb : ∀ row, ce b row = .inl (cy 1, nb, .inl row)) {z : Int32} (n : Nat) (hz : z.toNatClampNeg = n ∧ ¬ z < 0) (h4 : n ≤ na) (h5 : n ≤ nb)
    (hframes : 1 ≤ R.frames) (hlocals : (rest.map fun v => v.category).sum + (nativeFrameWords "java/lang/System" "arraycopy" 5 + 11) ≤ R.locals) (hdg : decode cc pc = .ok (.invokestatic index, 3))
    (kk : ∀ (σ2 : Sg), σ2 = cpy σ a b n → ∀ (H1 : Heap) (locs1 : List Loc), ZS D NP ce ad A s σ2 H1 locs1 → W p l e R s m args below meth c H1 locs1 cells slots Q (F0 m (pc + 3) ls rest)) : W p l e R s m args below meth c H locs cells slots Q (F0 m pc ls (.int z :: .int 0 :: .ref (ad b) :: .int 0 :: .ref (ad a) :: rest)) := by
  refine va_copyi E.hx E.hb (E.hml.trans hsz.symm) E.hown hlink hnat hstat hini E.hK hw.1 (E.hA.D ce σ) hw.2 a b 1 1 (by rw [wG_get ha, hea]) (by rw [wG_get hb9, heb]) rfl rfl rfl (by decide) (by decide) hz.2 (by rw [hz.1]; show 0 + n ≤ na; omega) (by rw [hz.1]; show 0 + n ≤ nb; omega) (fun _ _ => rfl) hframes hlocals hdg (fun H1 locs1 hP _ hS => ?_)
  refine kk _ rfl H1 locs1 ⟨?_, hS⟩
  have h2 := wG_set (ce := ce) (ad := ad) (σ := σ) (r := fun k => if k < n then σ a k else σ b k) hb9
  rw [heb] at h2
  rw [hz.1, show va_cpy (σ a) (σ b) (0 : Int32).toNatClampNeg (0 : Int32).toNatClampNeg n = _ from zcpy_e, h2] at hP
  exact hP
theorem zmmin (E : ZE p s m args c cc nL own D cy NP ad A) (hsz : ls.size = nL) {index : Nat} (hlink : (Cond.methodLink own index Lib.Math.min.name).before args s = true) (hstat : (Cond.static Lib.Math.min.name).before args s = true) (hini : (Cond.initialized "java/lang/Math").before args s = true) (hcode : (Cond.code Lib.Math.min.name Lib.Math.min.code 2 (some .int)).before args s = true)
    (hframes : 1 ≤ R.frames) (hlocals : (rest.map fun v => v.category).sum + 13 ≤ R.locals) {x y : Int32} (hdg : decode cc pc = .ok (.invokestatic index, 3))
    (kk : W p l e R s m args below meth c H locs 0 0 Q (F0 m (pc + 3) ls (.int (min32 x y) :: rest))) : W p l e R s m args below meth c H locs 0 0 Q (F0 m pc ls (.int y :: .int x :: rest)) :=
  va_mmin E.hx E.hb (E.hml.trans hsz.symm) E.hown hlink hstat hini hcode hframes hlocals (Nat.zero_le _) (Nat.zero_le _) hdg kk
theorem zmmax (E : ZE p s m args c cc nL own D cy NP ad A) (hsz : ls.size = nL) {index : Nat} (hlink : (Cond.methodLink own index Lib.Math.max.name).before args s = true) (hstat : (Cond.static Lib.Math.max.name).before args s = true) (hini : (Cond.initialized "java/lang/Math").before args s = true) (hcode : (Cond.code Lib.Math.max.name Lib.Math.max.code 2 (some .int)).before args s = true)
    (hframes : 1 ≤ R.frames) (hlocals : (rest.map fun v => v.category).sum + 13 ≤ R.locals) {x y : Int32} (hdg : decode cc pc = .ok (.invokestatic index, 3))
    (kk : W p l e R s m args below meth c H locs 0 0 Q (F0 m (pc + 3) ls (.int (max32 x y) :: rest))) : W p l e R s m args below meth c H locs 0 0 Q (F0 m pc ls (.int y :: .int x :: rest)) :=
  va_mmax E.hx E.hb (E.hml.trans hsz.symm) E.hown hlink hstat hini hcode hframes hlocals (Nat.zero_le _) (Nat.zero_le _) hdg kk
theorem zmabs (E : ZE p s m args c cc nL own D cy NP ad A) (hsz : ls.size = nL) {index : Nat} (hlink : (Cond.methodLink own index Lib.Math.abs.name).before args s = true) (hstat : (Cond.static Lib.Math.abs.name).before args s = true) (hini : (Cond.initialized "java/lang/Math").before args s = true) (hcode : (Cond.code Lib.Math.abs.name Lib.Math.abs.code 1 (some .int)).before args s = true)
    (hframes : 1 ≤ R.frames) (hlocals : (rest.map fun v => v.category).sum + 13 ≤ R.locals) {x : Int32} (hdg : decode cc pc = .ok (.invokestatic index, 3))
    (kk : W p l e R s m args below meth c H locs 0 0 Q (F0 m (pc + 3) ls (.int (abs32 x) :: rest))) : W p l e R s m args below meth c H locs 0 0 Q (F0 m pc ls (.int x :: rest)) :=
  va_mabs E.hx E.hb (E.hml.trans hsz.symm) E.hown hlink hstat hini hcode hframes hlocals (Nat.zero_le _) (Nat.zero_le _) hdg kk
/-! a super's method that the super has from its own super -/
def va_CS2 (R : Room) (s : State) (args : Array Value) (own : String) (x : String) (index : Nat) (y : MethodName) (bytes : ByteArray) (maxL : Nat) (ret : Option FieldType) (ws : List Cond) (rm : Room) (mc ms n : Nat) : Prop :=
  (rm.cells = mc ∧ rm.slots = ms ∧ rm.frames + 1 ≤ R.frames ∧ 8 + (maxL + 11) + rm.locals ≤ R.locals ∧ (∀ w ∈ ws, ∀ (a' : Array Value) (U : State), s.WarmedH U.vm → w.before a' U = true) ∧ Cond.code y bytes maxL ret ∈ ws) ∧
  (Cond.methodLink own index ⟨x, y.name, y.desc⟩).before args s = true ∧ (Cond.sameMethod x y.cls y.name y.desc).before args s = true ∧ (Cond.superclass own x).before args s = true ∧ (Cond.superclass x y.cls).before args s = true ∧ (Cond.instanceMethod y).before args s = true ∧ (Cond.initialized y.cls).before args s = true ∧ (Cond.code y bytes maxL ret).before args s = true ∧ y.name ≠ "<init>" ∧ (∀ sig, parseMethodDescriptor y.desc = some sig → n = sig.parameters.length)
theorem zcSU2 {x : String} {y : MethodName} {bytes : ByteArray} {maxL n idx : Nat} {ret : Option FieldType} {rm : Room} (E : ZE p s m args c cc nL own D cy NP ad A) (hcode : Cond.code y bytes maxL ret ∈ TT) (hini : Cond.initialized y.cls ∈ TT) (hl : Cond.methodLink own idx ⟨x, y.name, y.desc⟩ ∈ TT) (hi : Cond.instanceMethod y ∈ TT) (hsm : Cond.sameMethod x y.cls y.name y.desc ∈ TT) (hsup : Cond.superclass own x ∈ TT) (hsup2 : Cond.superclass x y.cls ∈ TT)
    (hd : y.name ≠ "<init>" ∧ (parseMethodDescriptor y.desc).map (fun d => d.parameters.length) = some n) (hrc : rm.cells = 0) (hrs : rm.slots = 0) (hR : rm.frames + 1 ≤ R.frames ∧ 8 + (maxL + 11) + rm.locals ≤ R.locals) : va_CS2 R s args own x idx y bytes maxL ret (.code y bytes maxL ret :: TT) rm 0 0 n := by
  refine ⟨⟨hrc, hrs, hR.1, hR.2, pay_in E.ht (gTc hcode), List.mem_cons_self⟩, E.ht _ hl, E.ht _ hsm, E.ht _ hsup, E.ht _ hsup2, E.ht _ hi, E.ht _ hini, E.ht _ hcode, hd.1, fun sig h => ?_⟩
  have h2 := hd.2
  rw [h] at h2
  exact (Option.some.inj h2).symm
theorem va_callSU2 {T : State} {locs : List Loc} {cells slots : Nat} (X : Stand p l e R s m args below meth c T locs cells slots) (hexec : p.tables.exec = Jvm.exec) {own x : String} {index : Nat} {y : MethodName} {bytes : ByteArray} {maxL : Nat} {ret : Option FieldType}
    (hown : s.vm.findClass own = some m.cls) (hlink : (Cond.methodLink own index ⟨x, y.name, y.desc⟩).before args s = true) (hsame : (Cond.sameMethod x y.cls y.name y.desc).before args s = true) (hsup : (Cond.superclass own x).before args s = true) (hsup2 : (Cond.superclass x y.cls).before args s = true)
    (hinst : (Cond.instanceMethod y).before args s = true) (hcode : (Cond.code y bytes maxL ret).before args s = true) (hno : y.name ≠ "<init>")
    {W : Nat} {Pre : Pt → Array Value → Prop} {Post : Pt → Array Value → Option Value → Pt → Prop} (hK : Back l R p e below s args y 3 W Pre Post)
    {b : Addr} {cellB : Cell} {kB : Class} (hcell : T.heap[b]? = some cellB) (hobj : cellB.vm.isStatics = false) (hkB : s.vm.classes[cellB.cls]? = some kB)
    {g : JFrame} (hg : g.method = m) (hsize : g.locals.size = c.maxLocals) {argsL rest : List Value} (hlen : ∀ sig, parseMethodDescriptor y.desc = some sig → argsL.length = sig.parameters.length)
    (hstack : g.stack = argsL.reverse ++ .ref b :: rest) (hW : 2 * g.monitorRoom + (rest.map fun v => v.category).sum ≤ W) (hdg : decode c.code g.pc = .ok (.invokespecial index, 3))
    (hpre : ∀ vm₁, s.WarmedH vm₁ → Pre ⟨T.setVm vm₁, locs, cells, slots⟩ (Value.ref b :: argsL).toArray) :
    ∃ (v : Option Value) (vm₁ : Vm) (B : Pt), s.WarmedH vm₁ ∧ Stand p l e R s m args below meth c B.U B.locs B.cells B.slots ∧ Post ⟨T.setVm vm₁, locs, cells, slots⟩ (Value.ref b :: argsL).toArray v B ∧
      ∀ target, Steps p.tables e below (B.U.setTop { g with pc := g.pc + 3, stack := v.toList ++ rest }) target → Steps p.tables e below (T.setTop g) target := by
  obtain ⟨mk, methM, hnamed, hmethM, hstM, habM⟩ := Cond.instanceMethod_spec hinst
  obtain ⟨methM', cM, hmethM', -, -, -, -, -, -, hsigM⟩ := Cond.code_spec hnamed hcode
  cases hmethM.symm.trans hmethM'
  obtain ⟨ps, dk, kp, hps, hdk, hkp, hsuper, -, -, hnid⟩ := Cond.superclass_spec hown hsup
  obtain ⟨ps2, dk2, kp2, hps2, hdk2, hkp2, hsuper2, -, -, -⟩ := Cond.superclass_spec hps hsup2
  have hn : s.methodNamed? ⟨y.cls, y.name, y.desc⟩ = some mk := hnamed
  have hpm : ps2 = mk.cls := Option.some.inj (hps2.symm.trans (findClass_of_methodNamed hnamed))
  have hsz : 0 < s.vm.classes.size := Nat.lt_of_le_of_lt (Nat.zero_le _) (Array.getElem?_eq_some_iff.mp hdk2).1
  have hsub : s.vm.isSubclass ps mk.cls = true := by
    rw [← hpm]
    obtain ⟨n, hn9⟩ : ∃ n, s.vm.classes.size = n + 1 := ⟨s.vm.classes.size - 1, by omega⟩
    unfold Vm.isSubclass
    rw [hn9]
    simp [Vm.isSubclassAux, hdk2, hsuper2]
  obtain ⟨vm₁, X₁, hstep₁⟩ := X.invokespecialUp (x := ⟨x, y.name, y.desc⟩) (owner := y.cls) hexec hown hlink hsame hn hmethM hstM habM hno hdk hnid hps hsuper hsub (a := b) (cell := cellB) hcell
    (fun z h => by rw [h] at hobj; cases hobj) hkB (g := g) hg (argsL := argsL) (rest := rest) (hlen _ hsigM) hstack hdg
  obtain ⟨v, B, X', hpost, hsteps⟩ := hK m meth c ⟨T.setVm vm₁, locs, cells, slots⟩ { g with stack := rest } (.invokespecial index) mk (Value.ref b :: argsL).toArray X₁ hg hsize hdg hW (X₁.named hnamed) (hpre vm₁ X₁.warmed)
  exact ⟨v, vm₁, B, X₁.warmed, X', hpost, fun target h => hstep₁ _ (by rw [doInvoke_state]; exact hsteps.trans h)⟩
theorem va_runSU2 {y : MethodName} {bytes cc : ByteArray} {maxL nL mc ms n index : Nat} {ret : Option FieldType} {ws : List Cond} {rm : Room} {Pc : Array Value → State → Prop} {Qc : Array Value → State → Outcome → State → Prop} {free : Addr → Prop} {Ts : List Cond} {own x C : String} {cC : ClassId} {b : Addr} {As rest : List Value} {g : JFrame}
    (hat : ClassAt s C cC) (S : CallFix p m c cc nL s args Ts own) (hM : Met l y ws rm Pc Qc mc ms free) (cw : va_CS2 R s args own x index y bytes maxL ret ws rm mc ms n) (hp : PreV s H C b Pc As)
    (hg : g.method = m) (hn : As.length = n) (hsize : g.locals.size = nL) (hstack : g.stack = As.reverse ++ .ref b :: rest) (hW : 2 * g.monitorRoom + (rest.map fun v => v.category).sum ≤ 8) (hdg : decode cc g.pc = .ok (.invokespecial index, 3)) (hf : cells + mc ≤ R.cells ∧ slots + ms ≤ R.slots) :
    va_Run p l e R s m args below meth c H locs cells slots mc ms g rest (Qc (Value.ref b :: As).toArray) (free) := by
  obtain ⟨⟨hrc, hrs, hfr, hlo, hws, hcw⟩, hl1, hl2, hl3, hl3b, hl4, hini, hcode, hno, hlen⟩ := cw
  have hK : Back l R p e below s args y 3 8 (PreOf R mc ms Pc) (PostOf Qc mc ms free) := back_of (bytes := bytes) (maxL := maxL) (ret := ret) hM hp.1 hrc hrs hfr hlo hws hcw (fun a' U hW => word_at hW (Or.inl (by first | rfl | simp [Cond.onTables, Cond.keeps, Cond.steady])) hini)
  obtain ⟨hx, hb, hml, ho, -⟩ := S
  obtain ⟨-, ⟨cellB, hcB, hoB, hclB⟩, hPc⟩ := hp
  obtain ⟨hfc, kB, hkB, -⟩ := hat
  cases hfc.symm.trans hclB
  intro T hT X
  obtain ⟨v, vm₁, ⟨U', l2, c2, s2⟩, hW₁, X', ⟨g', mk, t, L, e1, e2, hq, h1, hL, h2, h3⟩, st⟩ := va_callSU2 X hx (bytes := bytes) (maxL := maxL) (ret := ret) ho hl1 hl2 hl3 hl3b hl4 hcode hno hK (by rw [hT]; exact hcB) hoB hkB hg (hsize.trans hml.symm) (argsL := As) (rest := rest) (fun sig h => hn.trans (hlen sig h)) hstack hW (by rw [hb]; exact hdg)
    (fun vm₁ hW₁ => ⟨hf.1, hf.2, hPc (T.setVm vm₁) hT hW₁⟩)
  dsimp only [Pt.U, Pt.locs, Pt.cells, Pt.slots] at X' e1 e2 h1 h2 h3 st
  subst h1; subst h2; subst h3
  exact ⟨v, (T.setVm vm₁).calling g' mk (Value.ref b :: As).toArray, t, U', L, hT, X', hL, e1, e2, hq, st⟩
end ZR
