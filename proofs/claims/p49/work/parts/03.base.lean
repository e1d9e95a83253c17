/-! THE REFERENCE'S CELLS: M k i: k = 0: its numbers; k = 1 .. 13: its rows, in the order of its fields -/
abbrev RM : Type := Nat → Nat → Int32
def upR (M : RM) (k i : Nat) (x : Int32) : RM := fun a => if a = k then upd (M k) i x else M a
abbrev rfields (h : Nat → Nat) (M : RM) : List Value := [.ref (h 1), .ref (h 2), .ref (h 3), .ref (h 4), .int (M 0 0), .ref (h 5), .int (M 0 1), .ref (h 6), .ref (h 7), .ref (h 8), .ref (h 9), .ref (h 10), .int (M 0 2), .int (M 0 3), .int (M 0 4), .int (M 0 5), .int (M 0 6), .ref (h 11), .ref (h 12), .int (M 0 7), .ref (h 13)]
abbrev rcells (cI cZ : ClassId) (h : Nat → Nat) (M : RM) (Y : va_W) : va_W := (h 0, .inr (11, rfields h M)) :: (h 1, .inl (cI, 321140, .inl (M 1))) :: (h 2, .inl (cI, 13, .inl (M 2))) :: (h 3, .inl (cZ, 2, .inl (M 3))) :: (h 4, .inl (cI, 300, .inl (M 4))) :: (h 5, .inl (cI, 300, .inl (M 5))) :: (h 6, .inl (cZ, 2, .inl (M 6))) :: (h 7, .inl (cZ, 2, .inl (M 7))) :: (h 8, .inl (cI, 2, .inl (M 8))) :: (h 9, .inl (cZ, 3, .inl (M 9))) :: (h 10, .inl (cZ, 3, .inl (M 10))) :: (h 11, .inl (cI, 300, .inl (M 11))) :: (h 12, .inl (cI, 300, .inl (M 12))) :: (h 13, .inl (cI, 4, .inl (M 13))) :: Y
theorem upR_self (M : RM) (k i : Nat) (x : Int32) : upR M k i x k = upd (M k) i x := if_pos rfl
theorem upR_ne (M : RM) {k a : Nat} (i : Nat) (x : Int32) (h : a ≠ k) : upR M k i x a = M a := if_neg h
theorem upR_at (M : RM) (k i : Nat) (x : Int32) : upR M k i x k i = x := by rw [upR_self]; exact if_pos rfl
/-- a method's standing facts -/
def rX (p : Program) (s : State) (m : MethodId) (args : Array Value) (c : Code) (cc : ByteArray) (nL : Nat) (own : String) (Ts : List Cond) (D : va_G) (tys : List (ClassId × FieldType)) (A : Nat → Prop) : Prop :=
  p.tables.exec = Jvm.exec ∧ c.code = cc ∧ c.maxLocals = nL ∧ s.vm.findClass own = some m.cls ∧ (∀ w ∈ Ts, w.before args s = true) ∧ va_K D vwCl tys s ∧ (∀ q, s.heap.size ≤ q → A q)
/-- a world in a method -/
def gW (D : va_G) (A : Nat → Prop) (H0 : Heap) (ws : va_W) (H : Heap) (locs : List Loc) : Prop := va_P D vwCl ws H ∧ va_D A ws ∧ va_S A H0 H locs
abbrev gP0 (D : va_G) (tys : List (ClassId × FieldType)) (sz : Nat) (ws : va_W) : State → Prop := fun U => U.heap.size = sz ∧ va_P D vwCl ws U.heap ∧ va_K D vwCl tys U ∧ va_D (fun _ => True) ws
abbrev gB (D : va_G) (tys : List (ClassId × FieldType)) (sz : Nat) (ws ws' : va_W) (t : State) : Prop := va_P D vwCl ws' t.heap ∧ va_K D vwCl tys t ∧ va_D (va_A ws sz) ws'
/-- contracts: an int, nothing, or a pure int of a static method -/
def gMi {σ : Type} (l : Launch) (y : MethodName) (Ts : List Cond) (rm : Room) (D : va_G) (tys : List (ClassId × FieldType)) (sz : Nat) (cw : σ → va_W) (M : σ) (av : List Value) (post : Int32 → σ → Prop) (mc ms : Nat) : Prop :=
  Met l y Ts rm (va_Pc av (gP0 D tys sz (cw M))) (va_Qi post (fun M' t => gB D tys sz (cw M) (cw M') t) (va_A (cw M) sz)) mc ms (va_A (cw M) sz)
def gMv {σ : Type} (l : Launch) (y : MethodName) (Ts : List Cond) (rm : Room) (D : va_G) (tys : List (ClassId × FieldType)) (sz : Nat) (cw : σ → va_W) (M : σ) (av : List Value) (post : σ → Prop) (mc ms : Nat) : Prop :=
  Met l y Ts rm (va_Pc av (gP0 D tys sz (cw M))) (va_Qv post (fun M' t => gB D tys sz (cw M) (cw M') t) (va_A (cw M) sz)) mc ms (va_A (cw M) sz)
def gMs (l : Launch) (y : MethodName) (Ts : List Cond) (rm : Room) (av : List Value) (post : Int32 → Prop) : Prop :=
  Met l y Ts rm (va_Pc av (fun _ => True)) (fun _ st oc t => ∃ r : Int32, oc = .returned (some (.int r)) ∧ post r ∧ t.heap = st.heap) 0 0 (fun _ => False)
/-- from every heap that holds the world ws, with these locals, this stack, the method comes to its end -/
def gG (p : Program) (l : Launch) (e : Env) (R : Room) (s : State) (m : MethodId) (args : Array Value) (below : List Frame) (meth : Method) (c : Code) (Q : State → Prop) (D : va_G) (A : Nat → Prop) (nL k n : Nat) (ws : va_W) (pc : Nat) (lv : List (Nat × Value)) (st : List Value) : Prop :=
  ∀ (H : Heap) (locs : List Loc) (ls : Array Slot), gW D A s.heap ws H locs → lv_has ls nL lv → W p l e R s m args below meth c H locs k n Q (F0 m pc ls st)
section GROWS
variable {p : Program} {l : Launch} {e : Env} {R : Room} {s : State} {m : MethodId} {args : Array Value} {below : List Frame} {meth : Method} {c : Code} {k n : Nat} {Q : State → Prop}
variable {D : va_G} {tys : List (ClassId × FieldType)} {A : Nat → Prop} {cc : ByteArray} {nL : Nat} {own : String} {Ts : List Cond} {H : Heap} {locs : List Loc} {ls : Array Slot} {pc : Nat} {rest : List Value}
theorem lv_aloadV_n (hexec : p.tables.exec = Jvm.exec) (hb : c.code = cc) {k0 : Fin 4} {i : Nat} {r : Option Nat} (hdg : decode cc pc = .ok (.aload_n k0, 1)) (hi : (k0 : Nat) = i) (hl : ls[i]? = some (.val (va_rf r)))
    (kk : W p l e R s m args below meth c H locs k n Q (F0 m (pc + 1) ls (va_rf r :: rest))) : W p l e R s m args below meth c H locs k n Q (F0 m pc ls rest) := by
  cases r with
  | none => exact lv_aload_nN hexec hb hdg hi hl kk
  | some a => exact lv_aload_n hexec hb hdg hi hl kk
theorem lv_aloadV (hexec : p.tables.exec = Jvm.exec) (hb : c.code = cc) {i : Nat} {r : Option Nat} (hdg : decode cc pc = .ok (.aload i, 2)) (hl : ls[i]? = some (.val (va_rf r)))
    (kk : W p l e R s m args below meth c H locs k n Q (F0 m (pc + 2) ls (va_rf r :: rest))) : W p l e R s m args below meth c H locs k n Q (F0 m pc ls rest) := by
  cases r with
  | none => exact lv_aloadN hexec hb hdg hl kk
  | some a => exact lv_aload hexec hb hdg hl kk
/-- all words of a pure call -/
theorem gS_blind {av : List Value} : FrameBlind (va_Pc av (fun _ => True)) := fun _ _ _ _ h => h
theorem g_blind {D : va_G} {tys : List (ClassId × FieldType)} {sz : Nat} {ws : va_W} {av : List Value} : FrameBlind (va_Pc av (gP0 D tys sz ws)) :=
  fun a U g mk q => by obtain ⟨q0, q1, qP, qK, qD⟩ := q; exact ⟨q0, q1, qP, va_K.moved (u := U) (U := U.calling g mk a) (Vm.Alike.refl U.vm) qK, qD⟩
/-- a pure static call -/
theorem g_calls {y : MethodName} {bytes : ByteArray} {maxL index : Nat} {ret : Option FieldType} {ws0 : List Cond} {rm : Room} {As : List Value} {post : Int32 → Prop} {st0 : List Value}
    (S : CallFix p m c cc nL s args Ts own) (hl : ls.size = nL) (hM : gMs l y ws0 rm As post)
    (cw : CallB R s args own index y bytes maxL ret ws0 rm 0 0 As.length ∧ (Cond.static y).before args s = true) (hr : (rest.map fun v => v.category).sum ≤ 8)
    (hdg : decode cc pc = .ok (.invokestatic index, 3)) (hst : st0 = As.reverse ++ rest) (hf : k + 0 ≤ R.cells ∧ n + 0 ≤ R.slots)
    (kk : ∀ r : Int32, post r → W p l e R s m args below meth c H locs k n Q (F0 m (pc + 3) ls (.int r :: rest))) :
    W p l e R s m args below meth c H locs k n Q (F0 m pc ls st0) := by
  subst hst
  have hrun := va_runS (l := l) (H := H) (e := e) (below := below) (meth := meth) (locs := locs) (cells := k) (slots := n) (g := F0 m pc ls (As.reverse ++ rest)) S hM cw ⟨gS_blind, fun U _ _ => ⟨rfl, trivial⟩⟩ rfl rfl hl rfl (lv_room hr) hdg hf
  intro T hT X
  obtain ⟨v, st₀, t, T', L, h0, X', hL, e1, e2, ⟨r, hv, hp, hh⟩, st⟩ := hrun T hT X
  cases hv
  have hL0 : L = [] := List.eq_nil_iff_forall_not_mem.mpr hL
  subst hL0
  rw [List.append_nil] at X'
  obtain ⟨t2, a1, b1⟩ := kk r hp T' (by rw [e1, hh, h0]) X'
  exact ⟨t2, st t2 a1, b1⟩
theorem g_after {ws ws' : va_W} {t : State} {H1 : Heap} {locs1 : List Loc} (hA : ∀ q, s.heap.size ≤ q → A q) (hW : gW D A s.heap ws H locs) (ht : t.heap = H1) (hB : gB D tys H.size ws ws' t) (hS : va_S A s.heap H1 locs1) : gW D A s.heap ws' H1 locs1 := by
  obtain ⟨hP1, -, hD1⟩ := hB
  rw [ht] at hP1
  refine ⟨hP1, hD1.weaken (fun kq q _ h => ?_), hS⟩
  rcases h with ⟨k2, e2, h⟩ | h
  · exact hW.2.1.2 k2 (q.1, e2) h
  · exact hA _ (Nat.le_trans hW.2.2.1 h)
theorem g_free {ws : va_W} (hA : ∀ q, s.heap.size ≤ q → A q) (hW : gW D A s.heap ws H locs) : ∀ q, va_A ws H.size q → A q := by
  intro q h
  rcases h with ⟨k2, e2, h⟩ | h
  · exact hW.2.1.2 k2 (q, e2) h
  · exact hA _ (Nat.le_trans hW.2.2.1 h)
/-- a call of an instance method with the whole world, that answers an int -/
theorem g_calli {σ : Type} {cw0 : σ → va_W} {M : σ} {C : String} {y : MethodName} {bytes : ByteArray} {maxL index mc ms : Nat} {ret : Option FieldType} {ws0 : List Cond} {rm : Room} {b : Nat} {As : List Value} {post : Int32 → σ → Prop} {st0 : List Value}
    (C0 : rX p s m args c cc nL own Ts D tys A) (hW : gW D A s.heap (cw0 M) H locs) (hl : ls.size = nL) (hM : gMi l y ws0 rm D tys H.size cw0 M (.ref b :: As) post mc ms)
    (cw : CallW R s args own C index y bytes maxL ret ws0 rm mc ms As.length) (hrecv : ∃ cellB : Cell, H[b]? = some cellB ∧ cellB.vm.isStatics = false ∧ s.vm.findClass C = some cellB.cls) (hr : (rest.map fun v => v.category).sum ≤ 8)
    (hdg : decode cc pc = .ok (.invokevirtual index, 3)) (hst : st0 = As.reverse ++ .ref b :: rest) (hf : k + mc ≤ R.cells ∧ n + ms ≤ R.slots)
    (kk : ∀ (r : Int32) (M' : σ) (H1 : Heap) (locs1 : List Loc), post r M' → gW D A s.heap (cw0 M') H1 locs1 → W p l e R s m args below meth c H1 locs1 (k + mc) (n + ms) Q (F0 m (pc + 3) ls (.int r :: rest))) :
    W p l e R s m args below meth c H locs k n Q (F0 m pc ls st0) := by
  subst hst
  obtain ⟨hx, hb, hml, ho, hts, hK, hA⟩ := C0
  have hfr := g_free hA hW
  refine va_calli (va_runV (As := As) (rest := rest) ⟨hx, hb, hml, ho, hts⟩ hM cw ⟨g_blind, hrecv, fun U hU hWm => ⟨rfl, by rw [hU], by rw [hU]; exact hW.1, va_K.moved hWm.alike hK, hW.2.1.weaken (fun _ _ _ _ => trivial)⟩⟩ rfl rfl hl rfl (lv_room hr) hdg hf) hW.2.2 (fun q _ h => hfr q h) hfr (fun r u t H1 locs1 ht hvm hp hB hz1 hk1 hS => ?_)
  exact kk r u H1 locs1 hp (g_after (tys := tys) hA hW ht hB hS)
theorem g_callv {σ : Type} {cw0 : σ → va_W} {M : σ} {C : String} {y : MethodName} {bytes : ByteArray} {maxL index mc ms : Nat} {ret : Option FieldType} {ws0 : List Cond} {rm : Room} {b : Nat} {As : List Value} {post : σ → Prop} {st0 : List Value}
    (C0 : rX p s m args c cc nL own Ts D tys A) (hW : gW D A s.heap (cw0 M) H locs) (hl : ls.size = nL) (hM : gMv l y ws0 rm D tys H.size cw0 M (.ref b :: As) post mc ms)
    (cw : CallW R s args own C index y bytes maxL ret ws0 rm mc ms As.length) (hrecv : ∃ cellB : Cell, H[b]? = some cellB ∧ cellB.vm.isStatics = false ∧ s.vm.findClass C = some cellB.cls) (hr : (rest.map fun v => v.category).sum ≤ 8)
    (hdg : decode cc pc = .ok (.invokevirtual index, 3)) (hst : st0 = As.reverse ++ .ref b :: rest) (hf : k + mc ≤ R.cells ∧ n + ms ≤ R.slots)
    (kk : ∀ (M' : σ) (H1 : Heap) (locs1 : List Loc), post M' → gW D A s.heap (cw0 M') H1 locs1 → W p l e R s m args below meth c H1 locs1 (k + mc) (n + ms) Q (F0 m (pc + 3) ls rest)) :
    W p l e R s m args below meth c H locs k n Q (F0 m pc ls st0) := by
  subst hst
  obtain ⟨hx, hb, hml, ho, hts, hK, hA⟩ := C0
  have hfr := g_free hA hW
  refine va_callv (va_runV (As := As) (rest := rest) ⟨hx, hb, hml, ho, hts⟩ hM cw ⟨g_blind, hrecv, fun U hU hWm => ⟨rfl, by rw [hU], by rw [hU]; exact hW.1, va_K.moved hWm.alike hK, hW.2.1.weaken (fun _ _ _ _ => trivial)⟩⟩ rfl rfl hl rfl (lv_room hr) hdg hf) hW.2.2 (fun q _ h => hfr q h) hfr (fun u t H1 locs1 ht hvm hp hB hz1 hk1 hS => ?_)
  exact kk u H1 locs1 hp (g_after (tys := tys) hA hW ht hB hS)
end GROWS
/-! a method's body: from its entry -/
theorem gMs_of {l : Launch} {y : MethodName} {Ts Ts' : List Cond} {rm : Room} {av : List Value} {post : Int32 → Prop} {cc : ByteArray} {nL : Nat} {ty : FieldType} {own : String}
    (hy : plainName y.cls = true) (hw : Ts = Cond.code y cc nL (some ty) :: Ts') (hc : y.cls = own) (hn : (lg_sl av).length ≤ nL)
    (body : ∀ (p : Program) (e : Env) (s : State) (m : MethodId) (args : Array Value) (below : List Frame) (meth : Method) (c : Code) (Q : State → Prop),
      p.tables.exec = Jvm.exec → c.code = cc → c.maxLocals = nL → s.vm.findClass own = some m.cls → (∀ w ∈ Ts, w.before args s = true) →
      (∀ (r : Int32) (pc : Nat) (ls : Array Slot), post r → narrow ty (.int r) = .int r → decode cc pc = .ok (.ireturn, 1) → W p l e rm s m args below meth c s.heap [] 0 0 Q (F0 m pc ls [.int r])) →
      ∀ ls : Array Slot, lv_has ls nL (lv_args 0 av) → W p l e rm s m args below meth c s.heap [] 0 0 Q (F0 m 0 ls [])) : gMs l y Ts rm av post := by
  refine Met.ofW (cc := cc) (maxL := nL) (ret := some ty) hy hw ?_
  intro p e s m args below meth c s₁ B hml hv
  obtain ⟨rfl, -⟩ := hv
  have hts := atoms_spec (ws := Ts) B.pre
  have hown : s.vm.findClass own = some m.cls := by rw [← hc]; exact findClass_of_methodNamed B.named
  have hl := lv_entry av hn
  rw [lg_entry_eq]
  exact body p e s m _ below meth c (MQ below (fun _ st oc t => ∃ r : Int32, oc = .returned (some (.int r)) ∧ post r ∧ t.heap = st.heap) av.toArray s 0 0 (fun _ => False)) B.exec B.bytes hml hown hts
    (fun r pc ls hp hnar hdg => W.zret B.exec B.bytes B.returns hnar (fun t ht _ => ⟨r, rfl, hp, ht⟩) (fun q hq => by cases hq) hdg B.notSynchronized) _ hl
theorem gMi_of {σ : Type} {l : Launch} {y : MethodName} {Ts Ts' : List Cond} {rm : Room} {D : va_G} {tys : List (ClassId × FieldType)} {sz : Nat} {cw : σ → va_W} {M : σ} {av : List Value} {post : Int32 → σ → Prop} {cc : ByteArray} {nL mc ms : Nat} {ty : FieldType} {own : String}
    (hy : plainName y.cls = true) (hw : Ts = Cond.code y cc nL (some ty) :: Ts') (hc : y.cls = own) (hn : (lg_sl av).length ≤ nL)
    (body : ∀ (p : Program) (e : Env) (s : State) (m : MethodId) (args : Array Value) (below : List Frame) (meth : Method) (c : Code) (A : Nat → Prop) (Q : State → Prop),
      rX p s m args c cc nL own Ts D tys A →
      (∀ (r : Int32) (M' : σ) (pc : Nat) (lv : List (Nat × Value)) (k n : Nat), k ≤ mc → n ≤ ms → post r M' → narrow ty (.int r) = .int r → decode cc pc = .ok (.ireturn, 1) → gG p l e rm s m args below meth c Q D A nL k n (cw M') pc lv [.int r]) →
      gG p l e rm s m args below meth c Q D A nL 0 0 (cw M) 0 (lv_args 0 av) []) : gMi l y Ts rm D tys sz cw M av post mc ms := by
  refine Met.ofW (cc := cc) (maxL := nL) (ret := some ty) hy hw ?_
  intro p e s m args below meth c s₁ B hml hv
  obtain ⟨rfl, hsz, hP, hK, hD0⟩ := hv
  have hts := atoms_spec (ws := Ts) B.pre
  have hown : s.vm.findClass own = some m.cls := by rw [← hc]; exact findClass_of_methodNamed B.named
  subst hsz
  have hD := hD0.self (sz := s.heap.size)
  have hl := lv_entry av hn
  rw [lg_entry_eq]
  exact body p e s m _ below meth c (va_A (cw M) s.heap.size) (MQ below (va_Qi post (fun M' t => gB D tys s.heap.size (cw M) (cw M') t) (va_A (cw M) s.heap.size)) av.toArray s mc ms (va_A (cw M) s.heap.size)) ⟨B.exec, B.bytes, hml, hown, hts, hK, fun q h => Or.inr h⟩
    (fun r M' pc lv k n hk1 hn1 hp hnar hdg H locs ls hW hl2 => W.widen hk1 hn1 (W.zret B.exec B.bytes B.returns hnar (fun t ht hWm => ⟨⟨r, M', rfl, hp, by rw [ht]; exact hW.1, va_K.moved hWm.alike hK, hW.2.1⟩, hW.2.2.F ht⟩) hW.2.2.2.2 hdg B.notSynchronized)) s.heap [] _ ⟨hP, hD, va_S.rf⟩ hl
theorem gMv_of {σ : Type} {l : Launch} {y : MethodName} {Ts Ts' : List Cond} {rm : Room} {D : va_G} {tys : List (ClassId × FieldType)} {sz : Nat} {cw : σ → va_W} {M : σ} {av : List Value} {post : σ → Prop} {cc : ByteArray} {nL mc ms : Nat} {own : String}
    (hy : plainName y.cls = true) (hw : Ts = Cond.code y cc nL none :: Ts') (hc : y.cls = own) (hn : (lg_sl av).length ≤ nL)
    (body : ∀ (p : Program) (e : Env) (s : State) (m : MethodId) (args : Array Value) (below : List Frame) (meth : Method) (c : Code) (A : Nat → Prop) (Q : State → Prop),
      rX p s m args c cc nL own Ts D tys A →
      (∀ (M' : σ) (pc : Nat) (lv : List (Nat × Value)) (k n : Nat), k ≤ mc → n ≤ ms → post M' → decode cc pc = .ok (.return_, 1) → gG p l e rm s m args below meth c Q D A nL k n (cw M') pc lv []) →
      gG p l e rm s m args below meth c Q D A nL 0 0 (cw M) 0 (lv_args 0 av) []) : gMv l y Ts rm D tys sz cw M av post mc ms := by
  refine Met.ofW (cc := cc) (maxL := nL) (ret := none) hy hw ?_
  intro p e s m args below meth c s₁ B hml hv
  obtain ⟨rfl, hsz, hP, hK, hD0⟩ := hv
  have hts := atoms_spec (ws := Ts) B.pre
  have hown : s.vm.findClass own = some m.cls := by rw [← hc]; exact findClass_of_methodNamed B.named
  subst hsz
  have hD := hD0.self (sz := s.heap.size)
  have hl := lv_entry av hn
  rw [lg_entry_eq]
  exact body p e s m _ below meth c (va_A (cw M) s.heap.size) (MQ below (va_Qv post (fun M' t => gB D tys s.heap.size (cw M) (cw M') t) (va_A (cw M) s.heap.size)) av.toArray s mc ms (va_A (cw M) s.heap.size)) ⟨B.exec, B.bytes, hml, hown, hts, hK, fun q h => Or.inr h⟩
    (fun M' pc lv k n hk1 hn1 hp hdg H locs ls hW hl2 => W.widen hk1 hn1 (W.vret B.exec B.bytes B.returns (fun t ht hWm => ⟨⟨M', rfl, hp, by rw [ht]; exact hW.1, va_K.moved hWm.alike hK, hW.2.1⟩, hW.2.2.F ht⟩) hW.2.2.2.2 hdg B.notSynchronized)) s.heap [] _ ⟨hP, hD, va_S.rf⟩ hl
/-! rows of the reference's object -/
