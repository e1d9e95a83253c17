/-! THE RAW WORLD of the class and of the library's texts: a pool L of addresses, f says what stands at each; cx: the four text constants (the object, its row of bytes) -/
/-- what is read and never written: the formatter, and the script (its row, its length, its ints) -/
abbrev hV : Type := Option Nat × Nat × Nat × (Nat → Int32)
abbrev hS : Type := List Nat × (Nat → va_E)
abbrev hC (X : va_W) (S : hS) : va_W := X ++ va_pl S.1 S.2
def kT (i : Nat) : List Nat := match i with
  | 0 => []
  | 1 => [48, 49, 50, 51, 52, 53, 54, 55, 56, 57, 97, 98, 99, 100, 101, 102]
  | _ => [110, 117, 108, 108]
/-- the nest mates' links, and a row of bytes can be cloned -/
def nW : List Cond := [.fieldLinkNest RX9 64 RX6 "text" "Ljava/lang/String;" RX9, .fieldLinkNest RX9 110 RX7 "signs" "Ljava/lang/StringBuilder;" RX9, .fieldLinkNest RX3 29 RX0 "key" "Ljava/lang/String;" RX9, .fieldLinkNest RX3 47 RX0 "value" "Ljava/lang/String;" RX9,
  .methodLinkNest RX9 15 yX6_init RX9, .methodLinkNest RX9 18 yX7_init RX9, .methodLinkNest RX4 17 yX3_init RX9, .methodLinkNest RX9 32 yX3_init RX9, .methodLinkNest RX4 18 yX9_isWithin RX9, .methodLinkNest RX3 21 yX9_isWithin RX9, .methodLinkNest RX3 33 yX9_compareTexts RX9, .methodLinkNest RX1 25 yX9_isPrinted RX9, .methodLinkNest RX7 73 yX9_isBlank RX9, .methodLinkNest RX5 33 yX9_compareTexts RX9, .methodLinkNest RX8 47 yX9_isWithin RX9,
  .arrayOver (.object RX6), .arrayOver (.object RX3), .arrayOver (.object RX0), .arrayOver (.object RX4), .arrayOver (.object RX8), .arrayOver (.object RX2), .castable "[B" "java/lang/Cloneable"]
def cNW (U : State) : Prop := ∀ w ∈ nW, va_Nw w U
theorem cNW.warm {s U : State} (hW : s.WarmedH U.vm) (h : cNW s) : cNW U := by
  intro w hw
  have h1 := h w hw
  simp only [nW, List.mem_cons, List.not_mem_nil, or_false] at hw
  rcases hw with rfl | rfl | rfl | rfl | rfl | rfl | rfl | rfl | rfl | rfl | rfl | rfl | rfl | rfl | rfl | rfl | rfl | rfl | rfl | rfl | rfl | rfl <;> first | exact va_Nw.warmF hW h1 | exact va_Nw.warmM hW h1 | exact va_Nw.warmC hW h1 | exact va_AO.moved hW.alike h1
theorem cNW.same {u U : State} (hv : u.vm = U.vm) (h : cNW u) : cNW U := by
  intro w hw
  have h1 := h w hw
  simp only [nW, List.mem_cons, List.not_mem_nil, or_false] at hw
  rcases hw with rfl | rfl | rfl | rfl | rfl | rfl | rfl | rfl | rfl | rfl | rfl | rfl | rfl | rfl | rfl | rfl | rfl | rfl | rfl | rfl | rfl | rfl <;> first | exact va_Nw.same rfl hv h1 | exact va_AO.moved (by rw [hv]; exact Vm.Alike.refl _) h1
def cRO (cx : Nat → Nat × Nat) (vF : hV) (A : Nat → Prop) (U : State) (H : Heap) : Prop :=
  (va_Z "java/lang/String" "COMPACT_STRINGS" "Z" (.int 1) A U H ∧ va_Z "jdk/internal/util/Preconditions" "SIOOBE_FORMATTER" "Ljava/util/function/BiFunction;" (va_rf vF.1) A U H ∧ va_T .int vF.2.1 vF.2.2.1 (fun j => .int (vF.2.2.2 j)) A U H) ∧
  (∀ i : Nat, i < 3 → va_O "java/lang/String" (cx i).1 A U H ∧ va_OF "java/lang/String" "coder" "B" (.int 0) (cx i).1 A U H ∧ va_OF "java/lang/String" "value" "[B" (.ref (cx i).2) (cx i).1 A U H ∧ va_T .byte (cx i).2 (kT i).length (fun j => .int (sb_b ((kT i).getD j 0))) A U H) ∧
  (vk_R RX9 72 "" (cx 0).1 U ∧ vk_R RX8 41 "" (cx 0).1 U ∧ vk_R RX2 35 "" (cx 0).1 U ∧ vk_R RX1 35 "0123456789abcdef" (cx 1).1 U ∧ vk_R RX9 238 "null" (cx 2).1 U) ∧ cNW U
theorem cRO.kept {cx : Nat → Nat × Nat} {vF : hV} {A : Nat → Prop} {U : State} {H H1 : Heap} (h : cRO cx vF A U H) (hq : ∀ a : Nat, a < H.size → ¬ A a → H1[a]? = H[a]?) : cRO cx vF A U H1 :=
  ⟨⟨h.1.1.kept hq, h.1.2.1.kept hq, h.1.2.2.kept hq⟩, fun i hi => ⟨(h.2.1 i hi).1.kept hq, (h.2.1 i hi).2.1.kept hq, (h.2.1 i hi).2.2.1.kept hq, (h.2.1 i hi).2.2.2.kept hq⟩, h.2.2⟩
theorem cRO.narrow {cx : Nat → Nat × Nat} {vF : hV} {A B : Nat → Prop} {U : State} {H : Heap} (h : cRO cx vF A U H) (hAB : ∀ q, B q → A q) : cRO cx vF B U H :=
  ⟨⟨h.1.1.narrow hAB, h.1.2.1.narrow hAB, h.1.2.2.narrow hAB⟩, fun i hi => ⟨(h.2.1 i hi).1.narrow hAB, (h.2.1 i hi).2.1.narrow hAB, (h.2.1 i hi).2.2.1.narrow hAB, (h.2.1 i hi).2.2.2.narrow hAB⟩, h.2.2⟩
theorem cRO.warm {cx : Nat → Nat × Nat} {vF : hV} {A : Nat → Prop} {s U : State} {H : Heap} (hW : s.WarmedH U.vm) (h : cRO cx vF A s H) : cRO cx vF A U H :=
  ⟨⟨h.1.1.moved hW.alike, h.1.2.1.moved hW.alike, h.1.2.2.moved hW.alike⟩, fun i hi => ⟨(h.2.1 i hi).1.moved hW.alike, (h.2.1 i hi).2.1.moved hW.alike, (h.2.1 i hi).2.2.1.moved hW.alike, (h.2.1 i hi).2.2.2.moved hW.alike⟩,
    ⟨h.2.2.1.1.warm hW, h.2.2.1.2.1.warm hW, h.2.2.1.2.2.1.warm hW, h.2.2.1.2.2.2.1.warm hW, h.2.2.1.2.2.2.2.warm hW⟩, h.2.2.2.warm hW⟩
theorem cRO.calling {cx : Nat → Nat × Nat} {vF : hV} {A : Nat → Prop} {U : State} {H : Heap} (g : JFrame) (mk : MethodId) (a : Array Value) (h : cRO cx vF A U H) : cRO cx vF A (U.calling g mk a) H :=
  ⟨⟨h.1.1.moved (u := U) (U := U.calling g mk a) (Vm.Alike.refl U.vm), h.1.2.1.moved (u := U) (U := U.calling g mk a) (Vm.Alike.refl U.vm), h.1.2.2.moved (u := U) (U := U.calling g mk a) (Vm.Alike.refl U.vm)⟩, fun i hi => ⟨(h.2.1 i hi).1.moved (u := U) (U := U.calling g mk a) (Vm.Alike.refl U.vm), (h.2.1 i hi).2.1.moved (u := U) (U := U.calling g mk a) (Vm.Alike.refl U.vm), (h.2.1 i hi).2.2.1.moved (u := U) (U := U.calling g mk a) (Vm.Alike.refl U.vm), (h.2.1 i hi).2.2.2.moved (u := U) (U := U.calling g mk a) (Vm.Alike.refl U.vm)⟩,
    ⟨vk_R.same (u := U) rfl h.2.2.1.1, vk_R.same (u := U) rfl h.2.2.1.2.1, vk_R.same (u := U) rfl h.2.2.1.2.2.1, vk_R.same (u := U) rfl h.2.2.1.2.2.2.1, vk_R.same (u := U) rfl h.2.2.1.2.2.2.2⟩, cNW.same (u := U) (U := U.calling g mk a) rfl h.2.2.2⟩
abbrev hU : Type := (Nat → Nat × Nat) × (Nat → ClassId) × hV
abbrev gt (ck : Nat → ClassId) : List (ClassId × FieldType) := [(ck 0, .int), (ck 1, .int), (ck 2, .byte), (ck 3, .object RX0), (ck 4, .object RX3), (ck 5, .object RX4), (ck 6, .object RX8), (ck 7, .object RX2), (ck 8, .object RX6)]
/-! what stands at an address of the pool, or of a constant -/
def rI (S : hS) (a ci k : Nat) (x : Int32) : Prop := a ∈ S.1 ∧ ∃ fs : List Value, S.2 a = .inr (ci, fs) ∧ fs[k]? = some (.int x)
def rR (S : hS) (a ci k : Nat) (o : Option Nat) : Prop := a ∈ S.1 ∧ ∃ fs : List Value, S.2 a = .inr (ci, fs) ∧ fs[k]? = some (va_rf o)
def rO (S : hS) (a ci : Nat) (fs : List Value) : Prop := a ∈ S.1 ∧ S.2 a = .inr (ci, fs)
def rSV (cx : Nat → Nat × Nat) (S : hS) (a b : Nat) : Prop := rR S a 0 0 (some b) ∨ ∃ i : Nat, i < 3 ∧ a = (cx i).1 ∧ b = (cx i).2
def rSC (cx : Nat → Nat × Nat) (S : hS) (a : Nat) (x : Int32) : Prop := rI S a 0 1 x ∨ ∃ i : Nat, i < 3 ∧ a = (cx i).1 ∧ x = 0
def rS (cx : Nat → Nat × Nat) (S : hS) (a : Nat) : Prop := (∃ fs, rO S a 0 fs) ∨ ∃ i : Nat, i < 3 ∧ a = (cx i).1
def rA (S : hS) (cA : ClassId) (b n : Nat) (g : Nat → Int32) : Prop := b ∈ S.1 ∧ S.2 b = .inl (cA, n, .inl g)
def rQ (S : hS) (cA : ClassId) (b n : Nat) (g : Nat → Option Nat) : Prop := b ∈ S.1 ∧ S.2 b = .inl (cA, n, .inr (.inr (.inr (.inr g))))
def rB (cx : Nat → Nat × Nat) (cB : ClassId) (S : hS) (b n : Nat) (g : Nat → Int32) : Prop := rA S cB b n g ∨ ∃ i : Nat, i < 3 ∧ b = (cx i).2 ∧ n = (kT i).length ∧ g = fun j => sb_b ((kT i).getD j 0)
def upS (S : hS) (a : Nat) (e : va_E) : hS := (S.1, va_up S.2 a e)
def adS (S : hS) (a : Nat) (e : va_E) : hS := (S.1 ++ [a], va_up S.2 a e)
/-- a new address: not in the pool, and no text constant's -/
def fr (cx : Nat → Nat × Nat) (S : hS) (q : Nat) : Prop := q ∉ S.1 ∧ ∀ i : Nat, i < 3 → q ≠ (cx i).1
/-! contracts -/
abbrev hP0 (D : va_G) (tys : List (ClassId × FieldType)) (cx : Nat → Nat × Nat) (vF : hV) (sz : Nat) (ws : va_W) : State → Prop := fun U => U.heap.size = sz ∧ va_P D vwCl ws U.heap ∧ va_K D vwCl tys U ∧ va_D (fun _ => True) ws ∧ cRO cx vF (va_A ws sz) U U.heap
def hMi (l : Launch) (y : MethodName) (Ts : List Cond) (rm : Room) (D : va_G) (tys : List (ClassId × FieldType)) (cx : Nat → Nat × Nat) (vF : hV) (sz : Nat) (X : va_W) (S : hS) (av : List Value) (post : Int32 → hS → Prop) (mc ms : Nat) : Prop :=
  Met l y Ts rm (va_Pc av (hP0 D tys cx vF sz (hC X S))) (va_Qi post (fun S' t => gB D tys sz (hC X S) (hC X S') t) (va_A (hC X S) sz)) mc ms (va_A (hC X S) sz)
def hMv (l : Launch) (y : MethodName) (Ts : List Cond) (rm : Room) (D : va_G) (tys : List (ClassId × FieldType)) (cx : Nat → Nat × Nat) (vF : hV) (sz : Nat) (X : va_W) (S : hS) (av : List Value) (post : hS → Prop) (mc ms : Nat) : Prop :=
  Met l y Ts rm (va_Pc av (hP0 D tys cx vF sz (hC X S))) (va_Qv post (fun S' t => gB D tys sz (hC X S) (hC X S') t) (va_A (hC X S) sz)) mc ms (va_A (hC X S) sz)
def hMq (l : Launch) (y : MethodName) (Ts : List Cond) (rm : Room) (D : va_G) (tys : List (ClassId × FieldType)) (cx : Nat → Nat × Nat) (vF : hV) (sz : Nat) (X : va_W) (S : hS) (av : List Value) (post : Option Nat → hS → Prop) (mc ms : Nat) : Prop :=
  Met l y Ts rm (va_Pc av (hP0 D tys cx vF sz (hC X S))) (va_Qq post (fun S' t => gB D tys sz (hC X S) (hC X S') t) (va_A (hC X S) sz)) mc ms (va_A (hC X S) sz)
/-- a method's standing facts -/
def hX (p : Program) (s : State) (m : MethodId) (args : Array Value) (c : Code) (cc : ByteArray) (nL : Nat) (own : String) (Ts : List Cond) (D : va_G) (tys : List (ClassId × FieldType)) (A : Nat → Prop) (cx : Nat → Nat × Nat) (vF : hV) : Prop :=
  rX p s m args c cc nL own Ts D tys A ∧ cRO cx vF A s s.heap
theorem h_blind {D : va_G} {tys : List (ClassId × FieldType)} {cx : Nat → Nat × Nat} {vF : hV} {sz : Nat} {ws : va_W} {av : List Value} : FrameBlind (va_Pc av (hP0 D tys cx vF sz ws)) :=
  fun a U g mk q => by obtain ⟨q0, q1, qP, qK, qD, qR⟩ := q; exact ⟨q0, q1, qP, va_K.moved (u := U) (U := U.calling g mk a) (Vm.Alike.refl U.vm) qK, qD, qR.calling g mk a⟩
theorem hMi_of {l : Launch} {y : MethodName} {Ts Ts' : List Cond} {rm : Room} {D : va_G} {tys : List (ClassId × FieldType)} {cx : Nat → Nat × Nat} {vF : hV} {sz : Nat} {X : va_W} {S : hS} {av : List Value} {post : Int32 → hS → Prop} {cc : ByteArray} {nL mc ms : Nat} {ty : FieldType} {own : String}
    (hy : plainName y.cls = true) (hw : Ts = Cond.code y cc nL (some ty) :: Ts') (hc : y.cls = own) (hn : (lg_sl av).length ≤ nL)
    (body : ∀ (p : Program) (e : Env) (s : State) (m : MethodId) (args : Array Value) (below : List Frame) (meth : Method) (c : Code) (A : Nat → Prop) (Q : State → Prop),
      hX p s m args c cc nL own Ts D tys A cx vF → (y.name = "<init>" → meth.name = "<init>") →
      (∀ (r : Int32) (S' : hS) (pc : Nat) (lv : List (Nat × Value)) (k n : Nat), k ≤ mc → n ≤ ms → post r S' → narrow ty (.int r) = .int r → decode cc pc = .ok (.ireturn, 1) → gG p l e rm s m args below meth c Q D A nL k n (hC X S') pc lv [.int r]) →
      gG p l e rm s m args below meth c Q D A nL 0 0 (hC X S) 0 (lv_args 0 av) []) : hMi l y Ts rm D tys cx vF sz X S av post mc ms := by
  refine Met.ofW (cc := cc) (maxL := nL) (ret := some ty) hy hw ?_
  intro p e s m args below meth c s₁ B hml hv
  obtain ⟨rfl, hsz, hP, hK, hD0, hR⟩ := hv
  have hts := atoms_spec (ws := Ts) B.pre
  have hown : s.vm.findClass own = some m.cls := by rw [← hc]; exact findClass_of_methodNamed B.named
  have hin : y.name = "<init>" → meth.name = "<init>" := fun z => by rw [(name_of_methodNamed B.named B.method).1]; exact z
  subst hsz
  have hD := hD0.self (sz := s.heap.size)
  have hl := lv_entry av hn
  rw [lg_entry_eq]
  exact body p e s m _ below meth c (va_A (hC X S) s.heap.size) (MQ below (va_Qi post (fun S' t => gB D tys s.heap.size (hC X S) (hC X S') t) (va_A (hC X S) s.heap.size)) av.toArray s mc ms (va_A (hC X S) s.heap.size)) ⟨⟨B.exec, B.bytes, hml, hown, hts, hK, fun q h => Or.inr h⟩, hR⟩ hin
    (fun r M' pc lv k n hk1 hn1 hp hnar hdg H locs ls hW hl2 => W.widen hk1 hn1 (W.zret B.exec B.bytes B.returns hnar (fun t ht hWm => ⟨⟨r, M', rfl, hp, by rw [ht]; exact hW.1, va_K.moved hWm.alike hK, hW.2.1⟩, hW.2.2.F ht⟩) hW.2.2.2.2 hdg B.notSynchronized)) s.heap [] _ ⟨hP, hD, va_S.rf⟩ hl
theorem hMv_of {l : Launch} {y : MethodName} {Ts Ts' : List Cond} {rm : Room} {D : va_G} {tys : List (ClassId × FieldType)} {cx : Nat → Nat × Nat} {vF : hV} {sz : Nat} {X : va_W} {S : hS} {av : List Value} {post : hS → Prop} {cc : ByteArray} {nL mc ms : Nat} {own : String}
    (hy : plainName y.cls = true) (hw : Ts = Cond.code y cc nL none :: Ts') (hc : y.cls = own) (hn : (lg_sl av).length ≤ nL)
    (body : ∀ (p : Program) (e : Env) (s : State) (m : MethodId) (args : Array Value) (below : List Frame) (meth : Method) (c : Code) (A : Nat → Prop) (Q : State → Prop),
      hX p s m args c cc nL own Ts D tys A cx vF → (y.name = "<init>" → meth.name = "<init>") →
      (∀ (S' : hS) (pc : Nat) (lv : List (Nat × Value)) (k n : Nat), k ≤ mc → n ≤ ms → post S' → decode cc pc = .ok (.return_, 1) → gG p l e rm s m args below meth c Q D A nL k n (hC X S') pc lv []) →
      gG p l e rm s m args below meth c Q D A nL 0 0 (hC X S) 0 (lv_args 0 av) []) : hMv l y Ts rm D tys cx vF sz X S av post mc ms := by
  refine Met.ofW (cc := cc) (maxL := nL) (ret := none) hy hw ?_
  intro p e s m args below meth c s₁ B hml hv
  obtain ⟨rfl, hsz, hP, hK, hD0, hR⟩ := hv
  have hts := atoms_spec (ws := Ts) B.pre
  have hown : s.vm.findClass own = some m.cls := by rw [← hc]; exact findClass_of_methodNamed B.named
  have hin : y.name = "<init>" → meth.name = "<init>" := fun z => by rw [(name_of_methodNamed B.named B.method).1]; exact z
  subst hsz
  have hD := hD0.self (sz := s.heap.size)
  have hl := lv_entry av hn
  rw [lg_entry_eq]
  exact body p e s m _ below meth c (va_A (hC X S) s.heap.size) (MQ below (va_Qv post (fun S' t => gB D tys s.heap.size (hC X S) (hC X S') t) (va_A (hC X S) s.heap.size)) av.toArray s mc ms (va_A (hC X S) s.heap.size)) ⟨⟨B.exec, B.bytes, hml, hown, hts, hK, fun q h => Or.inr h⟩, hR⟩ hin
    (fun M' pc lv k n hk1 hn1 hp hdg H locs ls hW hl2 => W.widen hk1 hn1 (W.vret B.exec B.bytes B.returns (fun t ht hWm => ⟨⟨M', rfl, hp, by rw [ht]; exact hW.1, va_K.moved hWm.alike hK, hW.2.1⟩, hW.2.2.F ht⟩) hW.2.2.2.2 hdg B.notSynchronized)) s.heap [] _ ⟨hP, hD, va_S.rf⟩ hl
theorem hMq_of {l : Launch} {y : MethodName} {Ts Ts' : List Cond} {rm : Room} {D : va_G} {tys : List (ClassId × FieldType)} {cx : Nat → Nat × Nat} {vF : hV} {sz : Nat} {X : va_W} {S : hS} {av : List Value} {post : Option Nat → hS → Prop} {cc : ByteArray} {nL mc ms : Nat} {ty : FieldType} {own : String}
    (hy : plainName y.cls = true) (hw : Ts = Cond.code y cc nL (some ty) :: Ts') (hc : y.cls = own) (hn : (lg_sl av).length ≤ nL) (hrt : (∃ n, ty = .object n) ∨ ∃ t, ty = .array t)
    (body : ∀ (p : Program) (e : Env) (s : State) (m : MethodId) (args : Array Value) (below : List Frame) (meth : Method) (c : Code) (A : Nat → Prop) (Q : State → Prop),
      hX p s m args c cc nL own Ts D tys A cx vF → (y.name = "<init>" → meth.name = "<init>") →
      (∀ (r : Option Nat) (S' : hS) (pc : Nat) (lv : List (Nat × Value)) (k n : Nat), k ≤ mc → n ≤ ms → post r S' → decode cc pc = .ok (.areturn, 1) → gG p l e rm s m args below meth c Q D A nL k n (hC X S') pc lv [va_rf r]) →
      gG p l e rm s m args below meth c Q D A nL 0 0 (hC X S) 0 (lv_args 0 av) []) : hMq l y Ts rm D tys cx vF sz X S av post mc ms := by
  refine Met.ofW (cc := cc) (maxL := nL) (ret := some ty) hy hw ?_
  intro p e s m args below meth c s₁ B hml hv
  obtain ⟨rfl, hsz, hP, hK, hD0, hR⟩ := hv
  have hts := atoms_spec (ws := Ts) B.pre
  have hown : s.vm.findClass own = some m.cls := by rw [← hc]; exact findClass_of_methodNamed B.named
  have hin : y.name = "<init>" → meth.name = "<init>" := fun z => by rw [(name_of_methodNamed B.named B.method).1]; exact z
  subst hsz
  have hD := hD0.self (sz := s.heap.size)
  have hl := lv_entry av hn
  rw [lg_entry_eq]
  exact body p e s m _ below meth c (va_A (hC X S) s.heap.size) (MQ below (va_Qq post (fun S' t => gB D tys s.heap.size (hC X S) (hC X S') t) (va_A (hC X S) s.heap.size)) av.toArray s mc ms (va_A (hC X S) s.heap.size)) ⟨⟨B.exec, B.bytes, hml, hown, hts, hK, fun q h => Or.inr h⟩, hR⟩ hin
    (fun r M' pc lv k n hk1 hn1 hp hdg H locs ls hW hl2 => W.widen hk1 hn1 (W.aret B.exec B.bytes B.returns hrt (va_rf_or r) (fun t ht hWm => ⟨⟨r, M', rfl, hp, by rw [ht]; exact hW.1, va_K.moved hWm.alike hK, hW.2.1⟩, hW.2.2.F ht⟩) hW.2.2.2.2 hdg B.notSynchronized)) s.heap [] _ ⟨hP, hD, va_S.rf⟩ hl
