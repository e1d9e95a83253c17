/-! ROWS over the raw world -/
section HROWS
variable {p : Program} {l : Launch} {e : Env} {R : Room} {s : State} {m : MethodId} {args : Array Value} {below : List Frame} {meth : Method} {c : Code} {k n : Nat} {Q : State → Prop}
variable {D : va_G} {tys : List (ClassId × FieldType)} {A : Nat → Prop} {cc : ByteArray} {nL : Nat} {own : String} {Ts : List Cond} {H : Heap} {locs : List Loc} {ls : Array Slot} {pc : Nat} {rest : List Value}
variable {cx : Nat → Nat × Nat} {vF : hV} {X : va_W} {S : hS}
theorem lv_ifnullV (hexec : p.tables.exec = Jvm.exec) (hb : c.code = cc) {r : Option Nat} {off : Int} {tgt : Nat} (hdg : decode cc pc = .ok (.ifnull off, 3)) (ht : (pc : Int) + off = (tgt : Int))
    (kt : r = none → W p l e R s m args below meth c H locs k n Q (F0 m tgt ls rest)) (kf : ∀ a, r = some a → W p l e R s m args below meth c H locs k n Q (F0 m (pc + 3) ls rest)) : W p l e R s m args below meth c H locs k n Q (F0 m pc ls (va_rf r :: rest)) := by
  cases r with
  | none => exact lv_ifnullN hexec hb hdg ht (kt rfl)
  | some a => exact lv_ifnull hexec hb hdg (kf a rfl)
theorem lv_ifnonnullV (hexec : p.tables.exec = Jvm.exec) (hb : c.code = cc) {r : Option Nat} {off : Int} {tgt : Nat} (hdg : decode cc pc = .ok (.ifnonnull off, 3)) (ht : (pc : Int) + off = (tgt : Int))
    (kt : ∀ a, r = some a → W p l e R s m args below meth c H locs k n Q (F0 m tgt ls rest)) (kf : r = none → W p l e R s m args below meth c H locs k n Q (F0 m (pc + 3) ls rest)) : W p l e R s m args below meth c H locs k n Q (F0 m pc ls (va_rf r :: rest)) := by
  cases r with
  | none => exact lv_ifnonnullN hexec hb hdg (kf rfl)
  | some a => exact lv_ifnonnull hexec hb hdg ht (kt a rfl)
theorem lv_astoreV_n (hexec : p.tables.exec = Jvm.exec) (hb : c.code = cc) {k0 : Fin 4} {i nL : Nat} {r : Option Nat} {lv lv' : List (Nat × Value)} (hdg : decode cc pc = .ok (.astore_n k0, 1)) (hi : (k0 : Nat) = i) (h : lv_has ls nL lv) (hn : i < nL) (hl : (i, va_rf r) :: lv.filter (fun q => !(q.1 == i) && !(q.1 + 1 == i && q.2.category == 2)) = lv')
    (kk : ∀ ls' : Array Slot, lv_has ls' nL lv' → W p l e R s m args below meth c H locs k n Q (F0 m (pc + 1) ls' rest)) : W p l e R s m args below meth c H locs k n Q (F0 m pc ls (va_rf r :: rest)) := by
  cases r with
  | none => exact lv_astore_nN hexec hb hdg hi h hn hl kk
  | some a => exact lv_astore_n hexec hb hdg hi h hn hl kk
theorem lv_astoreV (hexec : p.tables.exec = Jvm.exec) (hb : c.code = cc) {i nL : Nat} {r : Option Nat} {lv lv' : List (Nat × Value)} (hdg : decode cc pc = .ok (.astore i, 2)) (h : lv_has ls nL lv) (hn : i < nL) (hl : (i, va_rf r) :: lv.filter (fun q => !(q.1 == i) && !(q.1 + 1 == i && q.2.category == 2)) = lv')
    (kk : ∀ ls' : Array Slot, lv_has ls' nL lv' → W p l e R s m args below meth c H locs k n Q (F0 m (pc + 2) ls' rest)) : W p l e R s m args below meth c H locs k n Q (F0 m pc ls (va_rf r :: rest)) := by
  cases r with
  | none => exact lv_astoreN hexec hb hdg h hn hl kk
  | some a => exact lv_astore hexec hb hdg h hn hl kk
theorem va_c_ref (a : Nat) : (Value.ref a).category = 1 := rfl
theorem va_c_int (x : Int32) : (Value.int x).category = 1 := rfl
theorem va_c_null : Value.null.category = 1 := rfl
theorem va_rf_cat (r : Option Nat) : (va_rf r).category = 1 := by cases r <;> rfl
theorem h_at {a : Nat} {e0 : va_E} (hW : gW D A s.heap (hC X S) H locs) (ha : a ∈ S.1) (hf : S.2 a = e0) : ∃ q0 : Nat, (hC X S)[q0]? = some (a, e0) ∧ (hC X S)[q0]? = some (a, S.2 a) := by
  obtain ⟨q0, hq⟩ := va_pl_get (X := X) (f := S.2) ha
  exact ⟨q0, by rw [← hf]; exact hq, hq⟩
theorem h_getI (C0 : hX p s m args c cc nL own Ts D tys A cx vF) (hW : gW D A s.heap (hC X S) H locs) {a ci kf N index : Nat} {C ref : String} {T : u_T} {x : Int32} (hin : ∀ w ∈ u_ws C T N, w ∈ Ts) (hr : rI S a ci kf x) (hc : vwCl[ci]? = some (C, T, N)) (hk : kf < N)
    (hlink : (Cond.fieldLink own index ref (T kf).2.1 (T kf).2.2.1) ∈ Ts) (hsame : (T kf).1 = ref) (hdg : decode cc pc = .ok (.getfield index, 3))
    (kk : W p l e R s m args below meth c H locs k n Q (F0 m (pc + 3) ls (.int x :: rest))) : W p l e R s m args below meth c H locs k n Q (F0 m pc ls (.ref a :: rest)) := by
  obtain ⟨⟨hx, hb, hml, ho, hts, hK, hA⟩, hR⟩ := C0
  obtain ⟨ha, fs, hf, hv⟩ := hr
  obtain ⟨q0, hq, -⟩ := h_at hW ha hf
  exact va_get (D := D) (C := C) (T := T) (N := N) (ref := ref) hx hb hts hin ho hK hW.1 q0 hq hc kf hk (hts _ hlink) (fun _ h9 => by rw [hsame] at h9; exact h9) hv hdg kk
theorem h_getR (C0 : hX p s m args c cc nL own Ts D tys A cx vF) (hW : gW D A s.heap (hC X S) H locs) {a ci kf N index : Nat} {C ref : String} {T : u_T} {o : Option Nat} (hin : ∀ w ∈ u_ws C T N, w ∈ Ts) (hr : rR S a ci kf o) (hc : vwCl[ci]? = some (C, T, N)) (hk : kf < N)
    (hlink : (Cond.fieldLink own index ref (T kf).2.1 (T kf).2.2.1) ∈ Ts) (hsame : (T kf).1 = ref) (hdg : decode cc pc = .ok (.getfield index, 3))
    (kk : W p l e R s m args below meth c H locs k n Q (F0 m (pc + 3) ls (va_rf o :: rest))) : W p l e R s m args below meth c H locs k n Q (F0 m pc ls (.ref a :: rest)) := by
  obtain ⟨⟨hx, hb, hml, ho, hts, hK, hA⟩, hR⟩ := C0
  obtain ⟨ha, fs, hf, hv⟩ := hr
  obtain ⟨q0, hq, -⟩ := h_at hW ha hf
  exact va_get (D := D) (C := C) (T := T) (N := N) (ref := ref) hx hb hts hin ho hK hW.1 q0 hq hc kf hk (hts _ hlink) (fun _ h9 => by rw [hsame] at h9; exact h9) hv hdg kk
theorem h_getIN (C0 : hX p s m args c cc nL own Ts D tys A cx vF) (hW : gW D A s.heap (hC X S) H locs) {a ci kf N index : Nat} {C ref host : String} {T : u_T} {x : Int32} (hin : ∀ w ∈ u_ws C T N, w ∈ Ts) (hr : rI S a ci kf x) (hc : vwCl[ci]? = some (C, T, N)) (hk : kf < N)
    (hlink : (Cond.fieldLinkNest own index ref (T kf).2.1 (T kf).2.2.1 host) ∈ nW) (hsame : (T kf).1 = ref) (hdg : decode cc pc = .ok (.getfield index, 3))
    (kk : W p l e R s m args below meth c H locs k n Q (F0 m (pc + 3) ls (.int x :: rest))) : W p l e R s m args below meth c H locs k n Q (F0 m pc ls (.ref a :: rest)) := by
  obtain ⟨⟨hx, hb, hml, ho, hts, hK, hA⟩, hR⟩ := C0
  obtain ⟨ha, fs, hf, hv⟩ := hr
  obtain ⟨q0, hq, -⟩ := h_at hW ha hf
  exact va_getN (D := D) (C := C) (T := T) (N := N) (ref := ref) hx hb hts hin ho hK hW.1 q0 hq hc kf hk (va_Nw.use rfl (hR.2.2.2 _ hlink)) (fun _ h9 => by rw [hsame] at h9; exact h9) hv hdg kk
theorem h_getRN (C0 : hX p s m args c cc nL own Ts D tys A cx vF) (hW : gW D A s.heap (hC X S) H locs) {a ci kf N index : Nat} {C ref host : String} {T : u_T} {o : Option Nat} (hin : ∀ w ∈ u_ws C T N, w ∈ Ts) (hr : rR S a ci kf o) (hc : vwCl[ci]? = some (C, T, N)) (hk : kf < N)
    (hlink : (Cond.fieldLinkNest own index ref (T kf).2.1 (T kf).2.2.1 host) ∈ nW) (hsame : (T kf).1 = ref) (hdg : decode cc pc = .ok (.getfield index, 3))
    (kk : W p l e R s m args below meth c H locs k n Q (F0 m (pc + 3) ls (va_rf o :: rest))) : W p l e R s m args below meth c H locs k n Q (F0 m pc ls (.ref a :: rest)) := by
  obtain ⟨⟨hx, hb, hml, ho, hts, hK, hA⟩, hR⟩ := C0
  obtain ⟨ha, fs, hf, hv⟩ := hr
  obtain ⟨q0, hq, -⟩ := h_at hW ha hf
  exact va_getN (D := D) (C := C) (T := T) (N := N) (ref := ref) hx hb hts hin ho hK hW.1 q0 hq hc kf hk (va_Nw.use rfl (hR.2.2.2 _ hlink)) (fun _ h9 => by rw [hsame] at h9; exact h9) hv hdg kk
/-- the world after a write of the pool -/
theorem h_set {a q0 : Nat} {e0 : va_E} {H1 : Heap} {locs1 : List Loc} (hW : gW D A s.heap (hC X S) H locs) (ha : a ∈ S.1) (hq : (hC X S)[q0]? = some (a, S.2 a)) (hP : va_P D vwCl ((hC X S).set q0 (a, e0)) H1) (hD : va_D A ((hC X S).set q0 (a, e0))) (hSS : va_S A s.heap H1 locs1) : gW D A s.heap (hC X (upS S a e0)) H1 locs1 := by
  have e1 : (hC X S).set q0 (a, e0) = hC X (upS S a e0) := va_pl_set hW.2.1 ha hq
  rw [e1] at hP hD
  exact ⟨hP, hD, hSS⟩
theorem h_put (C0 : hX p s m args c cc nL own Ts D tys A cx vF) (hW : gW D A s.heap (hC X S) H locs) {a ci kf N index : Nat} {C ref : String} {T : u_T} {fs : List Value} {v : Value} (hin : ∀ w ∈ u_ws C T N, w ∈ Ts) (hr : rO S a ci fs) (hc : vwCl[ci]? = some (C, T, N)) (hk : kf < N) (hlen : kf < fs.length)
    (ty0 : Nat → FieldType) (hty : ∀ k, k < N → parseFieldDescriptor (T k).2.2.1 = some (ty0 k)) (hnm : ∀ a, a < N → ∀ b, b < N → a ≠ b → (T a).2.1 ≠ (T b).2.1)
    (hlink : (Cond.fieldLink own index ref (T kf).2.1 (T kf).2.2.1) ∈ Ts) (hsame : (T kf).1 = ref) (hfin : (T kf).2.2.2 = false ∨ ((T kf).2.2.2 = true ∧ meth.name = "<init>" ∧ (T kf).1 = own)) {ty : FieldType} (hd : parseFieldDescriptor (T kf).2.2.1 = some ty) (hn : narrow ty v = v) (hfit : fits ty v = true) (hdg : decode cc pc = .ok (.putfield index, 3)) (hcat : v.category = 1)
    (kk : ∀ (H1 : Heap) (locs1 : List Loc), gW D A s.heap (hC X (upS S a (.inr (ci, fs.set kf v)))) H1 locs1 → W p l e R s m args below meth c H1 locs1 k n Q (F0 m (pc + 3) ls rest)) : W p l e R s m args below meth c H locs k n Q (F0 m pc ls (v :: .ref a :: rest)) := by
  obtain ⟨⟨hx, hb, hml, ho, hts, hK, hA⟩, hR⟩ := C0
  obtain ⟨ha, hf⟩ := hr
  obtain ⟨q0, hq, hq2⟩ := h_at hW ha hf
  rcases hfin with hfin | ⟨hfin, hin2, hdecl⟩
  · exact va_put (D := D) (C := C) (T := T) (N := N) (ref := ref) hx hb hts hin ty0 hty hnm ho hK hW.1 hW.2.1 hW.2.2 q0 hq hc kf hk (hts _ hlink) (fun _ h9 => by rw [hsame] at h9; exact h9) hfin hd hn hfit hlen hdg (fun H1 locs1 hP hD hSS => kk H1 locs1 (h_set hW ha hq2 hP hD hSS))
  · exact va_putF (D := D) (C := C) (T := T) (N := N) (ref := ref) hx hb hts hin ty0 hty hnm ho hK hW.1 hW.2.1 hW.2.2 q0 hq hc kf hk (hts _ hlink) (fun _ h9 => by rw [hsame] at h9; exact h9) hfin hin2 hdecl hd hn hfit hlen hdg (fun H1 locs1 hP hD hSS => kk H1 locs1 (h_set hW ha hq2 hP hD hSS))
theorem h_putN (C0 : hX p s m args c cc nL own Ts D tys A cx vF) (hW : gW D A s.heap (hC X S) H locs) {a ci kf N index : Nat} {C ref host : String} {T : u_T} {fs : List Value} {v : Value} (hin : ∀ w ∈ u_ws C T N, w ∈ Ts) (hr : rO S a ci fs) (hc : vwCl[ci]? = some (C, T, N)) (hk : kf < N) (hlen : kf < fs.length)
    (ty0 : Nat → FieldType) (hty : ∀ k, k < N → parseFieldDescriptor (T k).2.2.1 = some (ty0 k)) (hnm : ∀ a, a < N → ∀ b, b < N → a ≠ b → (T a).2.1 ≠ (T b).2.1)
    (hlink : (Cond.fieldLinkNest own index ref (T kf).2.1 (T kf).2.2.1 host) ∈ nW) (hsame : (T kf).1 = ref) (hfin : (T kf).2.2.2 = false) {ty : FieldType} (hd : parseFieldDescriptor (T kf).2.2.1 = some ty) (hn : narrow ty v = v) (hfit : fits ty v = true) (hdg : decode cc pc = .ok (.putfield index, 3))
    (kk : ∀ (H1 : Heap) (locs1 : List Loc), gW D A s.heap (hC X (upS S a (.inr (ci, fs.set kf v)))) H1 locs1 → W p l e R s m args below meth c H1 locs1 k n Q (F0 m (pc + 3) ls rest)) : W p l e R s m args below meth c H locs k n Q (F0 m pc ls (v :: .ref a :: rest)) := by
  obtain ⟨⟨hx, hb, hml, ho, hts, hK, hA⟩, hR⟩ := C0
  obtain ⟨ha, hf⟩ := hr
  obtain ⟨q0, hq, hq2⟩ := h_at hW ha hf
  exact va_putN (D := D) (C := C) (T := T) (N := N) (ref := ref) hx hb hts hin ty0 hty hnm ho hK hW.1 hW.2.1 hW.2.2 q0 hq hc kf hk (va_Nw.use rfl (hR.2.2.2 _ hlink)) (fun _ h9 => by rw [hsame] at h9; exact h9) hfin hd hn hfit hlen hdg (fun H1 locs1 hP hD hSS => kk H1 locs1 (h_set hW ha hq2 hP hD hSS))
/-- a text's own fields -/
theorem h_getSV (C0 : hX p s m args c cc nL own Ts D tys A cx vF) (hW : gW D A s.heap (hC X S) H locs) {a b index : Nat} (hin : ∀ w ∈ wsJ00, w ∈ Ts) (hr : rSV cx S a b)
    (hlink : (Cond.fieldLink own index RJ0 "value" "[B") ∈ Ts) (hdg : decode cc pc = .ok (.getfield index, 3))
    (kk : W p l e R s m args below meth c H locs k n Q (F0 m (pc + 3) ls (.ref b :: rest))) : W p l e R s m args below meth c H locs k n Q (F0 m pc ls (.ref a :: rest)) := by
  rcases hr with hr | ⟨i, hi, rfl, rfl⟩
  · exact h_getR (o := some b) C0 hW (T := TJ0) (kf := 0) (N := 4) hin hr rfl (by decide) hlink rfl hdg kk
  · obtain ⟨⟨hx, hb, hml, ho, hts, hK, hA⟩, hR⟩ := C0
    exact vk_getf hx hb (hR.2.1 i hi).2.2.1 hW.2.2 ho (hts _ hlink) (fun _ h9 => h9) hdg kk
theorem h_getSC (C0 : hX p s m args c cc nL own Ts D tys A cx vF) (hW : gW D A s.heap (hC X S) H locs) {a index : Nat} {x : Int32} (hin : ∀ w ∈ wsJ00, w ∈ Ts) (hr : rSC cx S a x)
    (hlink : (Cond.fieldLink own index RJ0 "coder" "B") ∈ Ts) (hdg : decode cc pc = .ok (.getfield index, 3))
    (kk : W p l e R s m args below meth c H locs k n Q (F0 m (pc + 3) ls (.int x :: rest))) : W p l e R s m args below meth c H locs k n Q (F0 m pc ls (.ref a :: rest)) := by
  rcases hr with hr | ⟨i, hi, rfl, rfl⟩
  · exact h_getI (x := x) C0 hW (T := TJ0) (kf := 1) (N := 4) hin hr rfl (by decide) hlink rfl hdg kk
  · obtain ⟨⟨hx, hb, hml, ho, hts, hK, hA⟩, hR⟩ := C0
    exact vk_getf hx hb (hR.2.1 i hi).2.1 hW.2.2 ho (hts _ hlink) (fun _ h9 => h9) hdg kk
theorem h_recvS (C0 : hX p s m args c cc nL own Ts D tys A cx vF) (hW : gW D A s.heap (hC X S) H locs) {a : Nat} (hr : rS cx S a) : ∃ cellB : Cell, H[a]? = some cellB ∧ cellB.vm.isStatics = false ∧ s.vm.findClass RJ0 = some cellB.cls := by
  rcases hr with ⟨fs, ha, hf⟩ | ⟨i, hi, rfl⟩
  · obtain ⟨q0, hq, -⟩ := h_at hW ha hf
    exact va_recv (q := (RJ0, TJ0, 4)) C0.1.2.2.2.2.2.1 hW.1 (ci := 0) rfl hq
  · obtain ⟨cell, h1, h2, h3, -⟩ := ((C0.2.2.1 i hi).1.kept hW.2.2.2.1)
    exact ⟨cell, h1, h2, h3⟩
theorem h_recv (C0 : hX p s m args c cc nL own Ts D tys A cx vF) (hW : gW D A s.heap (hC X S) H locs) {a ci : Nat} {q : vw_C} (hc : vwCl[ci]? = some q) (hr : ∃ fs, rO S a ci fs) : ∃ cellB : Cell, H[a]? = some cellB ∧ cellB.vm.isStatics = false ∧ s.vm.findClass q.1 = some cellB.cls := by
  obtain ⟨fs, ha, hf⟩ := hr
  obtain ⟨q0, hq, -⟩ := h_at hW ha hf
  exact va_recv C0.1.2.2.2.2.2.1 hW.1 hc hq
/-- rows of bytes -/
theorem h_bald (C0 : hX p s m args c cc nL own Ts D tys A cx vF) (hW : gW D A s.heap (hC X S) H locs) {cB : ClassId} {b N : Nat} {g : Nat → Int32} (hr : rB cx cB S b N g) (ht : tys[2]? = some (cB, .byte)) {i : Int32} (hi : vp_in i N) (hdg : decode cc pc = .ok (.baload, 1))
    (kk : W p l e R s m args below meth c H locs k n Q (F0 m (pc + 1) ls (.int (g i.toNatClampNeg) :: rest))) : W p l e R s m args below meth c H locs k n Q (F0 m pc ls (.int i :: .ref b :: rest)) := by
  obtain ⟨⟨hx, hb, hml, ho, hts, hK, hA⟩, hR⟩ := C0
  rcases hr with ⟨ha, hf⟩ | ⟨j, hj, rfl, rfl, rfl⟩
  · obtain ⟨q0, hq, -⟩ := h_at hW ha hf
    exact va_bald hx hb hK hW.1 q0 2 hq ht hi hdg kk
  · exact va_tb hx hb (hR.2.1 j hj).2.2.2 hW.2.2 hi rfl hdg kk
theorem h_blen (C0 : hX p s m args c cc nL own Ts D tys A cx vF) (hW : gW D A s.heap (hC X S) H locs) {cB : ClassId} {b N : Nat} {g : Nat → Int32} (hr : rB cx cB S b N g) (ht : tys[2]? = some (cB, .byte)) (hdg : decode cc pc = .ok (.arraylength, 1))
    (kk : W p l e R s m args below meth c H locs k n Q (F0 m (pc + 1) ls (.int (nI N) :: rest))) : W p l e R s m args below meth c H locs k n Q (F0 m pc ls (.ref b :: rest)) := by
  obtain ⟨⟨hx, hb, hml, ho, hts, hK, hA⟩, hR⟩ := C0
  rcases hr with ⟨ha, hf⟩ | ⟨j, hj, rfl, rfl, rfl⟩
  · obtain ⟨q0, hq, -⟩ := h_at hW ha hf
    exact va_alen hx hb hK hW.1 q0 2 hq ht rfl hdg kk
  · exact va_tlen hx hb (hR.2.1 j hj).2.2.2 hW.2.2 rfl hdg kk
theorem h_bast (C0 : hX p s m args c cc nL own Ts D tys A cx vF) (hW : gW D A s.heap (hC X S) H locs) {cB : ClassId} {b N : Nat} {g : Nat → Int32} (hr : rA S cB b N g) (ht : tys[2]? = some (cB, .byte)) {i x : Int32} (hi : vp_in i N) (hdg : decode cc pc = .ok (.bastore, 1))
    (kk : ∀ (H1 : Heap) (locs1 : List Loc), gW D A s.heap (hC X (upS S b (.inl (cB, N, .inl (upd g i.toNatClampNeg (vp_nar .byte x)))))) H1 locs1 → W p l e R s m args below meth c H1 locs1 k n Q (F0 m (pc + 1) ls rest)) : W p l e R s m args below meth c H locs k n Q (F0 m pc ls (.int x :: .int i :: .ref b :: rest)) := by
  obtain ⟨⟨hx, hb, hml, ho, hts, hK, hA⟩, hR⟩ := C0
  obtain ⟨q0, hq, hq2⟩ := h_at hW hr.1 hr.2
  exact va_bast hx hb hK hW.1 hW.2.1 hW.2.2 q0 2 hq ht hi hdg (fun H1 locs1 hP hD hSS => kk H1 locs1 (h_set hW hr.1 hq2 hP hD hSS))
theorem h_iald (C0 : hX p s m args c cc nL own Ts D tys A cx vF) (hW : gW D A s.heap (hC X S) H locs) {cI : ClassId} {b N : Nat} {g : Nat → Int32} (hr : rA S cI b N g) (ht : tys[0]? = some (cI, .int)) {i : Int32} (hi : vp_in i N) (hdg : decode cc pc = .ok (.iaload, 1))
    (kk : W p l e R s m args below meth c H locs k n Q (F0 m (pc + 1) ls (.int (g i.toNatClampNeg) :: rest))) : W p l e R s m args below meth c H locs k n Q (F0 m pc ls (.int i :: .ref b :: rest)) := by
  obtain ⟨⟨hx, hb, hml, ho, hts, hK, hA⟩, hR⟩ := C0
  obtain ⟨q0, hq, -⟩ := h_at hW hr.1 hr.2
  exact va_iald hx hb hK hW.1 q0 0 hq ht hi hdg kk
theorem h_iast (C0 : hX p s m args c cc nL own Ts D tys A cx vF) (hW : gW D A s.heap (hC X S) H locs) {cI : ClassId} {b N : Nat} {g : Nat → Int32} (hr : rA S cI b N g) (ht : tys[0]? = some (cI, .int)) {i x : Int32} (hi : vp_in i N) (hdg : decode cc pc = .ok (.iastore, 1))
    (kk : ∀ (H1 : Heap) (locs1 : List Loc), gW D A s.heap (hC X (upS S b (.inl (cI, N, .inl (upd g i.toNatClampNeg x))))) H1 locs1 → W p l e R s m args below meth c H1 locs1 k n Q (F0 m (pc + 1) ls rest)) : W p l e R s m args below meth c H locs k n Q (F0 m pc ls (.int x :: .int i :: .ref b :: rest)) := by
  obtain ⟨⟨hx, hb, hml, ho, hts, hK, hA⟩, hR⟩ := C0
  obtain ⟨q0, hq, hq2⟩ := h_at hW hr.1 hr.2
  exact va_iast hx hb hK hW.1 hW.2.1 hW.2.2 q0 0 hq ht hi hdg (fun H1 locs1 hP hD hSS => kk H1 locs1 (h_set hW hr.1 hq2 hP hD hSS))
theorem h_qald (C0 : hX p s m args c cc nL own Ts D tys A cx vF) (hW : gW D A s.heap (hC X S) H locs) (t0 : Nat) {cQ : ClassId} {C : String} {b N : Nat} {g : Nat → Option Nat} (hr : rQ S cQ b N g) (ht : tys[t0]? = some (cQ, .object C)) {i : Int32} (hi : vp_in i N) (hdg : decode cc pc = .ok (.aaload, 1))
    (kk : ∀ o : Option Nat, o = g i.toNatClampNeg → W p l e R s m args below meth c H locs k n Q (F0 m (pc + 1) ls (va_rf o :: rest))) : W p l e R s m args below meth c H locs k n Q (F0 m pc ls (.int i :: .ref b :: rest)) := by
  obtain ⟨⟨hx, hb, hml, ho, hts, hK, hA⟩, hR⟩ := C0
  obtain ⟨q0, hq, -⟩ := h_at hW hr.1 hr.2
  exact va_aldq hx hb hK hW.1 q0 t0 hq ht hi hdg (kk _ rfl)
theorem h_qlen (C0 : hX p s m args c cc nL own Ts D tys A cx vF) (hW : gW D A s.heap (hC X S) H locs) (t0 : Nat) {cQ : ClassId} {C : String} {b N : Nat} {g : Nat → Option Nat} (hr : rQ S cQ b N g) (ht : tys[t0]? = some (cQ, .object C)) (hdg : decode cc pc = .ok (.arraylength, 1))
    (kk : W p l e R s m args below meth c H locs k n Q (F0 m (pc + 1) ls (.int (nI N) :: rest))) : W p l e R s m args below meth c H locs k n Q (F0 m pc ls (.ref b :: rest)) := by
  obtain ⟨⟨hx, hb, hml, ho, hts, hK, hA⟩, hR⟩ := C0
  obtain ⟨q0, hq, -⟩ := h_at hW hr.1 hr.2
  exact va_alen hx hb hK hW.1 q0 t0 hq ht rfl hdg kk
theorem h_qast (C0 : hX p s m args c cc nL own Ts D tys A cx vF) (hW : gW D A s.heap (hC X S) H locs) (t0 ci : Nat) {cQ : ClassId} {r : vw_C} {b N v : Nat} {g : Nat → Option Nat} (hr : rQ S cQ b N g) (ht : tys[t0]? = some (cQ, .object r.1)) (hv : ∃ fs, rO S v ci fs) (hc : vwCl[ci]? = some r) {i : Int32} (hi : vp_in i N) (hdg : decode cc pc = .ok (.aastore, 1))
    (kk : ∀ (H1 : Heap) (locs1 : List Loc), gW D A s.heap (hC X (upS S b (.inl (cQ, N, .inr (.inr (.inr (.inr (va_up g i.toNatClampNeg (some v)))))))))  H1 locs1 → W p l e R s m args below meth c H1 locs1 k n Q (F0 m (pc + 1) ls rest)) : W p l e R s m args below meth c H locs k n Q (F0 m pc ls (.ref v :: .int i :: .ref b :: rest)) := by
  obtain ⟨⟨hx, hb, hml, ho, hts, hK, hA⟩, hR⟩ := C0
  obtain ⟨q0, hq, hq2⟩ := h_at hW hr.1 hr.2
  obtain ⟨fs, hv1, hv2⟩ := hv
  obtain ⟨qk, hqk, -⟩ := h_at hW hv1 hv2
  exact va_astq hx hb hK hW.1 hW.2.1 hW.2.2 q0 t0 qk ci hq ht hqk hc hi hdg (fun H1 locs1 hP hD hSS => kk H1 locs1 (h_set hW hr.1 hq2 hP hD hSS))
/-- something new -/
theorem h_add {q : Nat} {e0 : va_E} {H1 : Heap} {locs1 : List Loc} (hW : gW D A s.heap (hC X S) H locs) (hP : va_P D vwCl (hC X S ++ [(q, e0)]) H1) (hD : va_D A (hC X S ++ [(q, e0)])) (hSS : va_S A s.heap H1 locs1) : q ∉ S.1 ∧ gW D A s.heap (hC X (adS S q e0)) H1 locs1 := by
  have hq : q ∉ S.1 := by
    intro hm
    obtain ⟨k1, hk1⟩ := va_pl_get (X := X) (f := S.2) hm
    have hl : k1 < (hC X S).length := (List.getElem?_eq_some_iff.mp hk1).1
    have h1 : (hC X S ++ [(q, e0)])[k1]? = some (q, S.2 q) := by rw [List.getElem?_append_left hl]; exact hk1
    have h2 : (hC X S ++ [(q, e0)])[(hC X S).length]? = some (q, e0) := by simp
    have := hD.1 _ _ _ _ h1 h2 rfl
    omega
  have e1 : hC X S ++ [(q, e0)] = hC X (adS S q e0) := by
    show (X ++ va_pl S.1 S.2) ++ [(q, e0)] = X ++ va_pl (S.1 ++ [q]) (va_up S.2 q e0)
    rw [List.append_assoc, va_pl_push hq]
  rw [e1] at hP hD
  exact ⟨hq, hP, hD, hSS⟩
theorem h_fr {q : Nat} {e0 : va_E} (hR : cRO cx vF A s s.heap) (hq : q ∉ S.1) (hD : va_D A (hC X S ++ [(q, e0)])) : fr cx S q := by
  refine ⟨hq, fun i hi z => ?_⟩
  have h2 : (hC X S ++ [(q, e0)])[(hC X S).length]? = some (q, e0) := by simp
  have hA : A q := hD.2 _ _ h2
  obtain ⟨cell, -, -, -, hn⟩ := (hR.2.1 i hi).1
  exact hn (z ▸ hA)
theorem h_new (C0 : hX p s m args c cc nL own Ts D tys A cx vF) (hW : gW D A s.heap (hC X S) H locs) {ci N index : Nat} {C : String} {T : u_T} {fs : List Value} (hin : ∀ w ∈ u_ws C T N, w ∈ Ts) (hc : vwCl[ci]? = some (C, T, N)) (ty : Nat → FieldType) (hty : ∀ k, k < N → parseFieldDescriptor (T k).2.2.1 = some (ty k))
    (hcl : (Cond.classLink own index C) ∈ Ts) (hinst : (Cond.instantiable C N) ∈ Ts) (hini : (Cond.initialized C) ∈ Ts) (hfs : ∀ j, j < N → defaultValue (ty j) = vp_V fs j) (hcells : k + 1 ≤ R.cells) (hslots : n + N ≤ R.slots) (hdg : decode cc pc = .ok (.new index, 3))
    (kk : ∀ (q : Nat) (H1 : Heap), fr cx S q → gW D A s.heap (hC X (adS S q (.inr (ci, fs)))) H1 locs → W p l e R s m args below meth c H1 locs (k + 1) (n + N) Q (F0 m (pc + 3) ls (.ref q :: rest))) : W p l e R s m args below meth c H locs k n Q (F0 m pc ls rest) := by
  obtain ⟨⟨hx, hb, hml, ho, hts, hK, hA⟩, hR⟩ := id C0
  exact va_new hx hb hts hin ty hty ho (hts _ hcl) (hts _ hinst) (hts _ hini) hK hW.1 hW.2.1 hW.2.2 hA hc hfs hcells hslots hdg (fun q H1 hP hD hSS => kk q H1 (h_fr C0.2 (h_add hW hP hD hSS).1 hD) (h_add hW hP hD hSS).2)
theorem h_newB (C0 : hX p s m args c cc nL own Ts D tys A cx vF) (hW : gW D A s.heap (hC X S) H locs) {cB : ClassId} (ht : tys[2]? = some (cB, .byte)) (harr : (Cond.arrayClass .byte) ∈ Ts) {x : Int32} {N : Nat} (hn : ¬ x < 0) (hN : x.toNatClampNeg = N) (hbytes : N ≤ 65536) (hcells : k + 1 ≤ R.cells) (hslots : n + N ≤ R.slots) (hdg : decode cc pc = .ok (.newarray .byte, 2))
    (kk : ∀ (q : Nat) (H1 : Heap), fr cx S q → gW D A s.heap (hC X (adS S q (.inl (cB, N, .inl (fun _ => 0))))) H1 locs → W p l e R s m args below meth c H1 locs (k + 1) (n + N) Q (F0 m (pc + 2) ls (.ref q :: rest))) : W p l e R s m args below meth c H locs k n Q (F0 m pc ls (.int x :: rest)) := by
  obtain ⟨⟨hx, hb, hml, ho, hts, hK, hA⟩, hR⟩ := id C0
  refine va_newa (atype := .byte) (ty := .byte) (a0 := (N, .inl (fun _ => 0))) hx hb (hts _ harr) rfl hK hW.1 hW.2.1 hW.2.2 hA (fun cA => rfl) hn hN (by show N * 1 ≤ _; omega) hcells hslots hdg (fun q cA H1 hK' hP hD hSS => ?_)
  have e1 : cA = cB := by
    have h1 := (hK'.2 tys.length (cA, .byte) (by simp)).2
    have h2 := (hK.2 2 (cB, .byte) ht).2
    exact Option.some.inj (h1.symm.trans h2)
  subst e1
  exact kk q H1 (h_fr C0.2 (h_add hW hP hD hSS).1 hD) (h_add hW hP hD hSS).2
/-- a row of bytes is copied into another one -/
theorem h_copy (C0 : hX p s m args c cc nL own Ts D tys A cx vF) (hW : gW D A s.heap (hC X S) H locs) (hl : ls.size = nL) {cB : ClassId} (ht : tys[2]? = some (cB, .byte)) {b0 b1 N0 N1 index : Nat} {g0 g1 : Nat → Int32} (h0 : rB cx cB S b0 N0 g0) (h1 : rA S cB b1 N1 g1)
    (hlink : (Cond.methodLink own index arraycopyName) ∈ Ts) (hnat : (Cond.native arraycopyName) ∈ Ts) (hstat : (Cond.static arraycopyName) ∈ Ts) (hini : (Cond.initialized "java/lang/System") ∈ Ts)
    {sp dp x : Int32} (hs1 : ¬ sp < 0) (hs2 : ¬ dp < 0) (hs3 : ¬ x < 0) (hs4 : sp.toNatClampNeg + x.toNatClampNeg ≤ N0) (hs5 : dp.toNatClampNeg + x.toNatClampNeg ≤ N1) (hfit : ∀ i, i < x.toNatClampNeg → fits .byte (.int (g0 (sp.toNatClampNeg + i))) = true)
    (hframes : 1 ≤ R.frames) (hlocals : (rest.map fun v => v.category).sum + (nativeFrameWords "java/lang/System" "arraycopy" 5 + 11) ≤ R.locals) (hdg : decode cc pc = .ok (.invokestatic index, 3))
    (kk : ∀ (H1 : Heap) (locs1 : List Loc), gW D A s.heap (hC X (upS S b1 (.inl (cB, N1, .inl (va_cpy g0 g1 sp.toNatClampNeg dp.toNatClampNeg x.toNatClampNeg))))) H1 locs1 → W p l e R s m args below meth c H1 locs1 k n Q (F0 m (pc + 3) ls rest)) : W p l e R s m args below meth c H locs k n Q (F0 m pc ls (.int x :: .int dp :: .ref b1 :: .int sp :: .ref b0 :: rest)) := by
  obtain ⟨⟨hx, hb, hml, ho, hts, hK, hA⟩, hR⟩ := C0
  obtain ⟨q1, hq1, hq1'⟩ := h_at hW h1.1 h1.2
  rcases h0 with ⟨ha, hf⟩ | ⟨j, hj, rfl, rfl, rfl⟩
  · obtain ⟨q0, hq0, -⟩ := h_at hW ha hf
    exact va_copyi hx hb (hml.trans hl.symm) ho (hts _ hlink) (hts _ hnat) (hts _ hstat) (hts _ hini) hK hW.1 hW.2.1 hW.2.2 q0 q1 2 2 hq0 hq1 ht ht rfl hs1 hs2 hs3 hs4 hs5 hfit hframes hlocals hdg (fun H1 locs1 hP hD hSS => kk H1 locs1 (h_set hW h1.1 hq1' hP hD hSS))
  · exact vk_copyt hx hb (hml.trans hl.symm) ho (hts _ hlink) (hts _ hnat) (hts _ hstat) (hts _ hini) hK hW.1 hW.2.1 hW.2.2 (hR.2.1 j hj).2.2.2 q1 2 hq1 ht hs1 hs2 hs3 hs4 hs5 hfit hframes hlocals hdg (fun H1 locs1 hP hD hSS => kk H1 locs1 (h_set hW h1.1 hq1' hP hD hSS))
/-- what a callee asks -/
theorem h_pre (C0 : hX p s m args c cc nL own Ts D tys A cx vF) (hW : gW D A s.heap (hC X S) H locs) (av : List Value) : ∀ U : State, U.heap = H → s.WarmedH U.vm → va_Pc av (hP0 D tys cx vF H.size (hC X S)) av.toArray U := by
  intro U hU hWm
  refine ⟨rfl, by rw [hU], by rw [hU]; exact hW.1, va_K.moved hWm.alike C0.1.2.2.2.2.2.1, hW.2.1.weaken (fun _ _ _ _ => trivial), ?_⟩
  rw [hU]
  exact ((C0.2.kept (fun a h1 h2 => hW.2.2.2.1 a h1 h2)).narrow (g_free C0.1.2.2.2.2.2.2 hW)).warm hWm
theorem h_goi {a : Array Value} {post : Int32 → hS → Prop} {mc ms : Nat} {st0 : List Value} (C0 : hX p s m args c cc nL own Ts D tys A cx vF) (hW : gW D A s.heap (hC X S) H locs)
    (hrun : va_Run p l e R s m args below meth c H locs k n mc ms (F0 m pc ls st0) rest (va_Qi post (fun S' t => gB D tys H.size (hC X S) (hC X S') t) (va_A (hC X S) H.size) a) (va_A (hC X S) H.size))
    (kk : ∀ (r : Int32) (S' : hS) (H1 : Heap) (locs1 : List Loc), post r S' → gW D A s.heap (hC X S') H1 locs1 → W p l e R s m args below meth c H1 locs1 (k + mc) (n + ms) Q (F0 m (pc + 3) ls (.int r :: rest))) : W p l e R s m args below meth c H locs k n Q (F0 m pc ls st0) := by
  have hA := C0.1.2.2.2.2.2.2
  have hfr := g_free hA hW
  exact va_calli hrun hW.2.2 (fun q _ h => hfr q h) hfr (fun r u t H1 locs1 ht hvm hp hB hz1 hk1 hSS => kk r u H1 locs1 hp (g_after (tys := tys) hA hW ht hB hSS))
theorem h_gov {a : Array Value} {post : hS → Prop} {mc ms : Nat} {st0 : List Value} (C0 : hX p s m args c cc nL own Ts D tys A cx vF) (hW : gW D A s.heap (hC X S) H locs)
    (hrun : va_Run p l e R s m args below meth c H locs k n mc ms (F0 m pc ls st0) rest (va_Qv post (fun S' t => gB D tys H.size (hC X S) (hC X S') t) (va_A (hC X S) H.size) a) (va_A (hC X S) H.size))
    (kk : ∀ (S' : hS) (H1 : Heap) (locs1 : List Loc), post S' → gW D A s.heap (hC X S') H1 locs1 → W p l e R s m args below meth c H1 locs1 (k + mc) (n + ms) Q (F0 m (pc + 3) ls rest)) : W p l e R s m args below meth c H locs k n Q (F0 m pc ls st0) := by
  have hA := C0.1.2.2.2.2.2.2
  have hfr := g_free hA hW
  exact va_callv hrun hW.2.2 (fun q _ h => hfr q h) hfr (fun u t H1 locs1 ht hvm hp hB hz1 hk1 hSS => kk u H1 locs1 hp (g_after (tys := tys) hA hW ht hB hSS))
theorem h_goq {a : Array Value} {post : Option Nat → hS → Prop} {mc ms : Nat} {st0 : List Value} (C0 : hX p s m args c cc nL own Ts D tys A cx vF) (hW : gW D A s.heap (hC X S) H locs)
    (hrun : va_Run p l e R s m args below meth c H locs k n mc ms (F0 m pc ls st0) rest (va_Qq post (fun S' t => gB D tys H.size (hC X S) (hC X S') t) (va_A (hC X S) H.size) a) (va_A (hC X S) H.size))
    (kk : ∀ (r : Option Nat) (S' : hS) (H1 : Heap) (locs1 : List Loc), post r S' → gW D A s.heap (hC X S') H1 locs1 → W p l e R s m args below meth c H1 locs1 (k + mc) (n + ms) Q (F0 m (pc + 3) ls (va_rf r :: rest))) : W p l e R s m args below meth c H locs k n Q (F0 m pc ls st0) := by
  have hA := C0.1.2.2.2.2.2.2
  have hfr := g_free hA hW
  exact va_callq hrun hW.2.2 (fun q _ h => hfr q h) hfr (fun r u t H1 locs1 ht hvm hp hB hz1 hk1 hSS => kk r u H1 locs1 hp (g_after (tys := tys) hA hW ht hB hSS))
theorem h_clone (C0 : hX p s m args c cc nL own Ts D tys A cx vF) (hW : gW D A s.heap (hC X S) H locs) (hl : ls.size = nL) {cB : ClassId} (ht : tys[2]? = some (cB, .byte)) {b N index : Nat} {g : Nat → Int32} (hr : rA S cB b N g)
    (hlink : (Cond.methodLink own index ⟨"[B", "clone", "()Ljava/lang/Object;"⟩) ∈ Ts) (hsame : (Cond.sameMethod "[B" "java/lang/Object" "clone" "()Ljava/lang/Object;") ∈ Ts) (hnat : (Cond.native ⟨"java/lang/Object", "clone", "()Ljava/lang/Object;"⟩) ∈ Ts) (hinst : (Cond.instanceMethod ⟨"java/lang/Object", "clone", "()Ljava/lang/Object;"⟩) ∈ Ts)
    (hsel : (Cond.selects "[B" ⟨"[B", "clone", "()Ljava/lang/Object;"⟩ ⟨"java/lang/Object", "clone", "()Ljava/lang/Object;"⟩) ∈ Ts) (hfit : ∀ i, i < N → fits .byte (.int (g i)) = true)
    (hframes : 1 ≤ R.frames) (hlocals : (rest.map fun v => v.category).sum + 14 ≤ R.locals) (hcells : k + 1 ≤ R.cells) (hslots : n + N ≤ R.slots) (hdg : decode cc pc = .ok (.invokevirtual index, 3))
    (kk : ∀ (q : Nat) (H1 : Heap), fr cx S q → gW D A s.heap (hC X (adS S q (.inl (cB, N, .inl g)))) H1 locs → W p l e R s m args below meth c H1 locs (k + 1) (n + N) Q (F0 m (pc + 3) ls (.ref q :: rest))) : W p l e R s m args below meth c H locs k n Q (F0 m pc ls (.ref b :: rest)) := by
  obtain ⟨⟨hx, hb, hml, ho, hts, hK, hA⟩, hR⟩ := id C0
  obtain ⟨q0, hq, -⟩ := h_at hW hr.1 hr.2
  refine va_clone hx hb (hml.trans hl.symm) ho (hts _ hlink) (hts _ hsame) (hts _ hnat) (hts _ hinst) (hts _ hsel) (hR.2.2.2 _ (by decide +kernel)) hK hW.1 hW.2.1 hW.2.2 hA q0 2 hq ht ((hK.2 2 (cB, .byte) ht).2) (fun i v hv => ?_) hframes hlocals hcells hslots hdg (fun q H1 _ hP hD hSS => kk q H1 (h_fr C0.2 (h_add hW hP hD hSS).1 hD) (h_add hW hP hD hSS).2)
  have hi : i < N := by
    have := (Array.getElem?_eq_some_iff.mp hv).1
    rw [vp_cell_i, arrV_size] at this
    exact this
  rw [vp_cell_i, arrV_read _ _ hi] at hv
  cases hv
  exact hfit i hi
theorem h_gets (C0 : hX p s m args c cc nL own Ts D tys A cx vF) (hW : gW D A s.heap (hC X S) H locs) {index : Nat} (hlink : (Cond.fieldLink own index RJ0 "COMPACT_STRINGS" "Z") ∈ Ts) (hdg : decode cc pc = .ok (.getstatic index, 3))
    (kk : W p l e R s m args below meth c H locs k n Q (F0 m (pc + 3) ls (.int 1 :: rest))) : W p l e R s m args below meth c H locs k n Q (F0 m pc ls rest) :=
  va_gets C0.1.1 C0.1.2.1 C0.2.1.1 hW.2.2 C0.1.2.2.2.1 (C0.1.2.2.2.2.1 _ hlink) (fun _ h9 => h9) hdg kk
theorem h_getF (C0 : hX p s m args c cc nL own Ts D tys A cx vF) (hW : gW D A s.heap (hC X S) H locs) {index : Nat} (hlink : (Cond.fieldLink own index "jdk/internal/util/Preconditions" "SIOOBE_FORMATTER" "Ljava/util/function/BiFunction;") ∈ Ts) (hdg : decode cc pc = .ok (.getstatic index, 3))
    (kk : W p l e R s m args below meth c H locs k n Q (F0 m (pc + 3) ls (va_rf vF.1 :: rest))) : W p l e R s m args below meth c H locs k n Q (F0 m pc ls rest) :=
  va_gets C0.1.1 C0.1.2.1 C0.2.1.2.1 hW.2.2 C0.1.2.2.2.1 (C0.1.2.2.2.2.1 _ hlink) (fun _ h9 => h9) hdg kk
/-- a pure static method of a nest mate -/
theorem g_callsN {y : MethodName} {host : String} {bytes : ByteArray} {maxL index : Nat} {ret : Option FieldType} {ws0 : List Cond} {rm : Room} {As : List Value} {post : Int32 → Prop} {st0 : List Value}
    (S0 : CallFix p m c cc nL s args Ts own) (hl : ls.size = nL) (hM : gMs l y ws0 rm As post)
    (cw : va_CN R s args own index y host bytes maxL ret ws0 rm 0 0 As.length ∧ (Cond.static y).before args s = true ∧ True) (hr : (rest.map fun v => v.category).sum ≤ 8)
    (hdg : decode cc pc = .ok (.invokestatic index, 3)) (hst : st0 = As.reverse ++ rest) (hf : k + 0 ≤ R.cells ∧ n + 0 ≤ R.slots)
    (kk : ∀ r : Int32, post r → W p l e R s m args below meth c H locs k n Q (F0 m (pc + 3) ls (.int r :: rest))) :
    W p l e R s m args below meth c H locs k n Q (F0 m pc ls st0) := by
  subst hst
  have hrun := va_runSN (l := l) (H := H) (e := e) (below := below) (meth := meth) (locs := locs) (cells := k) (slots := n) (g := F0 m pc ls (As.reverse ++ rest)) S0 hM cw ⟨gS_blind, fun U _ _ => ⟨rfl, trivial⟩⟩ rfl rfl hl rfl (lv_room hr) hdg hf
  intro T hT X
  obtain ⟨v, st₀, t, T', L, h0, X', hL, e1, e2, ⟨r, hv, hp, hh⟩, st⟩ := hrun T hT X
  cases hv
  have hL0 : L = [] := List.eq_nil_iff_forall_not_mem.mpr hL
  subst hL0
  rw [List.append_nil] at X'
  obtain ⟨t2, a1, b1⟩ := kk r hp T' (by rw [e1, hh, h0]) X'
  exact ⟨t2, st t2 a1, b1⟩
theorem h_castB (C0 : hX p s m args c cc nL own Ts D tys A cx vF) (hW : gW D A s.heap (hC X S) H locs) {cB : ClassId} {b N index : Nat} {g : Nat → Int32} (hr : rA S cB b N g) (ht : tys[2]? = some (cB, .byte)) (hlink : (Cond.classLink own index "[B") ∈ Ts) (hdg : decode cc pc = .ok (.checkcast index, 3))
    (kk : W p l e R s m args below meth c H locs k n Q (F0 m (pc + 3) ls (.ref b :: rest))) : W p l e R s m args below meth c H locs k n Q (F0 m pc ls (.ref b :: rest)) := by
  obtain ⟨⟨hx, hb, hml, ho, hts, hK, hA⟩, hR⟩ := C0
  obtain ⟨q0, hq, -⟩ := h_at hW hr.1 hr.2
  exact va_castA hx hb ho (hts _ hlink) hW.1 q0 hq ((hK.2 2 (cB, .byte) ht).2) hdg kk
theorem h_newI (C0 : hX p s m args c cc nL own Ts D tys A cx vF) (hW : gW D A s.heap (hC X S) H locs) {cI : ClassId} (ht : tys[0]? = some (cI, .int)) (harr : (Cond.arrayClass .int) ∈ Ts) {x : Int32} {N : Nat} (hn : ¬ x < 0) (hN : x.toNatClampNeg = N) (hbytes : N ≤ 65536) (hcells : k + 1 ≤ R.cells) (hslots : n + N ≤ R.slots) (hdg : decode cc pc = .ok (.newarray .int, 2))
    (kk : ∀ (q : Nat) (H1 : Heap), fr cx S q → gW D A s.heap (hC X (adS S q (.inl (cI, N, .inl (fun _ => 0))))) H1 locs → W p l e R s m args below meth c H1 locs (k + 1) (n + N) Q (F0 m (pc + 2) ls (.ref q :: rest))) : W p l e R s m args below meth c H locs k n Q (F0 m pc ls (.int x :: rest)) := by
  obtain ⟨⟨hx, hb, hml, ho, hts, hK, hA⟩, hR⟩ := id C0
  refine va_newa (atype := .int) (ty := .int) (a0 := (N, .inl (fun _ => 0))) hx hb (hts _ harr) rfl hK hW.1 hW.2.1 hW.2.2 hA (fun cA => rfl) hn hN (by show N * 4 ≤ _; omega) hcells hslots hdg (fun q cA H1 hK' hP hD hSS => ?_)
  have e1 : cA = cI := by
    have h1 := (hK'.2 tys.length (cA, .int) (by simp)).2
    have h2 := (hK.2 0 (cI, .int) ht).2
    exact Option.some.inj (h1.symm.trans h2)
  subst e1
  exact kk q H1 (h_fr C0.2 (h_add hW hP hD hSS).1 hD) (h_add hW hP hD hSS).2
theorem h_newQ (C0 : hX p s m args c cc nL own Ts D tys A cx vF) (hW : gW D A s.heap (hC X S) H locs) (t0 : Nat) {cQ : ClassId} {C : String} {index : Nat} (ht : tys[t0]? = some (cQ, .object C)) (hlink : (Cond.classLink own index C) ∈ Ts) (hover : (Cond.arrayOver (.object C)) ∈ nW) {x : Int32} {N : Nat} (hn : ¬ x < 0) (hN : x.toNatClampNeg = N) (hbytes : N ≤ 65536) (hcells : k + 1 ≤ R.cells) (hslots : n + N ≤ R.slots) (hdg : decode cc pc = .ok (.anewarray index, 3))
    (kk : ∀ (q : Nat) (H1 : Heap), fr cx S q → gW D A s.heap (hC X (adS S q (.inl (cQ, N, .inr (.inr (.inr (.inr (fun _ => none)))))))) H1 locs → W p l e R s m args below meth c H1 locs (k + 1) (n + N) Q (F0 m (pc + 3) ls (.ref q :: rest))) : W p l e R s m args below meth c H locs k n Q (F0 m pc ls (.int x :: rest)) := by
  obtain ⟨⟨hx, hb, hml, ho, hts, hK, hA⟩, hR⟩ := id C0
  refine va_newq hx hb ho (hts _ hlink) (hR.2.2.2 _ hover) hK hW.1 hW.2.1 hW.2.2 hA hn hN (by omega) hcells hslots hdg (fun q cA H1 hK' hP hD hSS => ?_)
  have e1 : cA = cQ := by
    obtain ⟨kA, comp, h1, h2, h3, h4⟩ := (hK'.2 tys.length (cA, .object C) (by simp)).2
    obtain ⟨kA', comp', h1', h2', h3', h4'⟩ := (hK.2 t0 (cQ, .object C) ht).2
    exact Option.some.inj (h4.symm.trans h4')
  subst e1
  exact kk q H1 (h_fr C0.2 (h_add hW hP hD hSS).1 hD) (h_add hW hP hD hSS).2
theorem h_qastN (C0 : hX p s m args c cc nL own Ts D tys A cx vF) (hW : gW D A s.heap (hC X S) H locs) (t0 : Nat) {cQ : ClassId} {C : String} {b N : Nat} {g : Nat → Option Nat} (hr : rQ S cQ b N g) (ht : tys[t0]? = some (cQ, .object C)) {i : Int32} (hi : vp_in i N) (hdg : decode cc pc = .ok (.aastore, 1))
    (kk : ∀ (H1 : Heap) (locs1 : List Loc), gW D A s.heap (hC X (upS S b (.inl (cQ, N, .inr (.inr (.inr (.inr (va_up g i.toNatClampNeg none)))))))) H1 locs1 → W p l e R s m args below meth c H1 locs1 k n Q (F0 m (pc + 1) ls rest)) : W p l e R s m args below meth c H locs k n Q (F0 m pc ls (.null :: .int i :: .ref b :: rest)) := by
  obtain ⟨⟨hx, hb, hml, ho, hts, hK, hA⟩, hR⟩ := C0
  obtain ⟨q0, hq, hq2⟩ := h_at hW hr.1 hr.2
  exact va_astqN hx hb hK hW.1 hW.2.1 hW.2.2 q0 t0 hq ht hi hdg (fun H1 locs1 hP hD hSS => kk H1 locs1 (h_set hW hr.1 hq2 hP hD hSS))
/-- the script's row -/
theorem h_xlen (C0 : hX p s m args c cc nL own Ts D tys A cx vF) (hW : gW D A s.heap (hC X S) H locs) {b : Nat} (hb0 : b = vF.2.1) (hdg : decode cc pc = .ok (.arraylength, 1))
    (kk : W p l e R s m args below meth c H locs k n Q (F0 m (pc + 1) ls (.int (nI vF.2.2.1) :: rest))) : W p l e R s m args below meth c H locs k n Q (F0 m pc ls (.ref b :: rest)) := by
  subst hb0
  obtain ⟨⟨hx, hb, hml, ho, hts, hK, hA⟩, hR⟩ := C0
  exact va_tlen hx hb hR.1.2.2 hW.2.2 rfl hdg kk
theorem h_xald (C0 : hX p s m args c cc nL own Ts D tys A cx vF) (hW : gW D A s.heap (hC X S) H locs) {b : Nat} (hb0 : b = vF.2.1) {i : Int32} (hi : vp_in i vF.2.2.1) (hdg : decode cc pc = .ok (.iaload, 1))
    (kk : W p l e R s m args below meth c H locs k n Q (F0 m (pc + 1) ls (.int (vF.2.2.2 i.toNatClampNeg) :: rest))) : W p l e R s m args below meth c H locs k n Q (F0 m pc ls (.int i :: .ref b :: rest)) := by
  subst hb0
  obtain ⟨⟨hx, hb, hml, ho, hts, hK, hA⟩, hR⟩ := C0
  exact va_ti hx hb hR.1.2.2 hW.2.2 hi rfl hdg kk
theorem sw_ne {x v : Int32} {z : Int} (hz : v.toInt = z) (h : ¬ x = v) : ¬ (z = x.toInt) := fun q => h (Int32.toInt_inj.mp (q.symm.trans hz.symm))
end HROWS
