/-! Arrays.fill of ints -/
theorem fill_up {n j : Nat} {v : Int32} {f : Nat → Int32} : upd (fun k => if k < j then v else f k) j v = (fun k => if k < j + 1 then v else f k) := by
  funext k
  unfold upd
  by_cases e : k = j
  · subst e
    rw [if_pos rfl, if_pos (Nat.lt_succ_self _)]
  · rw [if_neg e]
    show (if k < j then v else f k) = _
    by_cases h : k < j
    · rw [if_pos h, if_pos (by omega)]
    · rw [if_neg h, if_neg (by omega)]
set_option maxRecDepth 100000 in
set_option maxHeartbeats 8000000 in
theorem c_fillI {l : Launch} {D : va_G} {cy : Cy} (b sz n : Nat) (f : Nat → Int32) (v : Int32) (hn : n < 2 ^ 31) : Met l yJ7_fill_53178 (.code yJ7_fill_53178 cJ7_fill_53178 4 none :: TT) ({ frames := 0, cells := 0, slots := 0, locals := 0 } : Room) (zPn D cy sz [(b, .inl (cy 1, n, .inl f))] [.ref b, .int v]) (zQn D (fun _ => [(b, .inl (cy 1, n, .inl (fun k => if k < n then v else f k)))]) (va_A [(b, .inl (cy 1, n, .inl f))] sz)) 0 0 (va_A [(b, .inl (cy 1, n, .inl f))] sz) := by
  refine nofW (by decide) (Nat.le_of_ble_eq_true rfl) ?_
  intro p e s m args below meth c ls E hsz hP hr hlk hin hl
  have E : ZI p s m args c cJ7_fill_53178 4 "java/util/Arrays" D cy := E
  have hx := E.hx
  have hb := E.hb
  subst hsz
  have hl : lv_has ls 4 [(0, .ref b), (1, .int v)] := hl
  have hAb : va_A [(b, .inl (cy 1, n, .inl f))] s.heap.size b := va_A.in (k := 0) (q := (b, .inl (cy 1, n, .inl f))) rfl
  generalize hAe : va_A [(b, .inl (cy 1, n, .inl f))] s.heap.size = A at hAb ⊢
  have hD1 : ∀ g : Nat → Int32, va_D A [(b, .inl (cy 1, n, .inl g))] := fun g => ⟨fun i j p q hp hq _ => (by
    have h1 := (List.getElem?_eq_some_iff.mp hp).1
    have h2 := (List.getElem?_eq_some_iff.mp hq).1
    simp at h1 h2
    omega), fun k q hk => (by
    have h1 := (List.getElem?_eq_some_iff.mp hk).1
    simp at h1
    subst h1
    cases hk
    exact hAb)⟩
  have hS : va_S A s.heap s.heap [] := va_S.rf
  refine lv_iconst (v := 0) hx hb dJ7_fill_53178_0 (by decide) ?_
  refine lv_istore_n (lv' := [(2, .int 0), (0, .ref b), (1, .int v)]) hx hb dJ7_fill_53178_1 rfl hl (by decide) rfl (fun ls hl => ?_)
  refine lv_aload_n hx hb dJ7_fill_53178_2 rfl (lv_at hl 1 rfl) ?_
  refine va_alen (v := nI n) hx hb E.hK hP 0 1 rfl rfl rfl dJ7_fill_53178_3 ?_
  refine lv_istore_n (lv' := [(3, .int (nI n)), (2, .int 0), (0, .ref b), (1, .int v)]) hx hb dJ7_fill_53178_4 rfl hl (by decide) rfl (fun ls hl => ?_)
  have loop : ∀ (d j : Nat), j + d = n → ∀ (H : Heap) (locs : List Loc) (ls : Array Slot), va_P D vwCl [(b, .inl (cy 1, n, .inl (fun k => if k < j then v else f k)))] H → va_S A s.heap H locs → lv_has ls 4 [(3, .int (nI n)), (2, .int (nI j)), (0, .ref b), (1, .int v)] → W p l e ({ frames := 0, cells := 0, slots := 0, locals := 0 } : Room) s m args below meth c H locs 0 0 (MQ below (zQn D (fun _ => [(b, .inl (cy 1, n, .inl (fun k => if k < n then v else f k)))]) A) args s 0 0 A) (F0 m 5 ls []) := by
    intro d
    induction d with
    | zero =>
      intro j hj H locs ls hP hS hl
      have hj : j = n := by omega
      subst hj
      refine lv_iload_n hx hb dJ7_fill_53178_5 rfl (lv_at hl 1 rfl) ?_
      refine lv_iload_n hx hb dJ7_fill_53178_6 rfl (lv_at hl 0 rfl) ?_
      refine lv_icmp_ge (tgt := 20) hx hb dJ7_fill_53178_7 (by decide) (fun _ => ?_) (fun h => absurd (nI_le (Nat.le_refl _) hn) h)
      exact W.vret hx hb hr (fun t ht _ => ⟨⟨fun _ => 0, rfl, trivial, by rw [ht]; exact hP, hD1 _⟩, hS.F ht⟩) hS.2.2 dJ7_fill_53178_20 hlk
    | succ d ih =>
      intro j hj H locs ls hP hS hl
      have hjn : j < n := by omega
      refine lv_iload_n hx hb dJ7_fill_53178_5 rfl (lv_at hl 1 rfl) ?_
      refine lv_iload_n hx hb dJ7_fill_53178_6 rfl (lv_at hl 0 rfl) ?_
      refine lv_icmp_ge (tgt := 20) hx hb dJ7_fill_53178_7 (by decide) (fun h => absurd h (nI_ge hjn hn)) (fun _ => ?_)
      refine lv_aload_n hx hb dJ7_fill_53178_10 rfl (lv_at hl 2 rfl) ?_
      refine lv_iload_n hx hb dJ7_fill_53178_11 rfl (lv_at hl 1 rfl) ?_
      refine lv_iload_n hx hb dJ7_fill_53178_12 rfl (lv_at hl 3 rfl) ?_
      refine va_iast hx hb E.hK hP (hD1 _) hS 0 1 rfl rfl (vp_in_nI hjn hn) dJ7_fill_53178_13 (fun H locs hP _ hS => ?_)
      rw [nI_clamp (by omega)] at hP
      have hP : va_P D vwCl [(b, .inl (cy 1, n, .inl (upd (fun k => if k < j then v else f k) j v)))] H := hP
      rw [fill_up (n := n)] at hP
      refine lv_iinc (v := nI (j + 1)) (lv' := [(2, .int (nI (j + 1))), (3, .int (nI n)), (0, .ref b), (1, .int v)]) hx hb dJ7_fill_53178_14 hl (k := 1) rfl (nI_1 j) (by decide) rfl (fun ls hl => ?_)
      refine lv_goto (tgt := 5) hx hb dJ7_fill_53178_17 (by decide) ?_
      exact ih (j + 1) (by omega) H locs ls hP hS (lv_sub hl [1, 0, 2, 3] rfl)
  refine loop n 0 (by omega) s.heap [] ls (by
    have e : (fun k => if k < 0 then v else f k) = f := by
      funext k
      rw [if_neg (Nat.not_lt_zero k)]
    rw [e]
    exact hP) hS hl
