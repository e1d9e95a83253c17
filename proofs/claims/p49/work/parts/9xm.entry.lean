/-! THE LAW'S ENTRY: what the worlds of class and reference stand on -/
def lwFl : List Cond := flatC (Jvm.Cond.and given_1 narrow_1)
def sTm (i : Nat) : Term := match i with
  | 0 => .string RX9 72
  | 1 => .string RX1 35
  | _ => .string RX9 238
def sLen : List Nat := [0, 16, 4]
def sByt : List (List Int32) := [(kT 0).map sb_b, (kT 1).map sb_b, (kT 2).map sb_b]
theorem e_ex : ∀ i, i < 3 → Cond.exactly (sTm i) "java/lang/String" ∈ lwFl := by decide +kernel
theorem e_co : ∀ i, i < 3 → Cond.eq (.field (sTm i) "java/lang/String" "coder" "B") (.int 0) ∈ lwFl := by decide +kernel
theorem e_ar : ∀ i, i < 3 → Cond.arrayOf (.field (sTm i) "java/lang/String" "value" "[B") .byte ∈ lwFl := by decide +kernel
theorem e_le : ∀ i, i < 3 → Cond.eq (.length (.field (sTm i) "java/lang/String" "value" "[B")) (.int (Int32.ofNat (sLen.getD i 0))) ∈ lwFl := by decide +kernel
theorem e_el : ∀ i, i < 3 → ∀ j, j < sLen.getD i 0 → Cond.eq (.elem (.field (sTm i) "java/lang/String" "value" "[B") (.int (Int32.ofNat j))) (.int ((sByt.getD i []).getD j 0)) ∈ lwFl := by decide +kernel
theorem e_ne : ∀ i, i < 3 → ∀ j, j < 3 → i ≠ j → Cond.not (Cond.eq (sTm i) (sTm j)) ∈ lwFl ∨ Cond.not (Cond.eq (sTm j) (sTm i)) ∈ lwFl := by decide +kernel
theorem getD_sb (l : List Nat) (j : Nat) : (l.map sb_b).getD j 0 = sb_b (l.getD j 0) := by
  induction l generalizing j with
  | nil => exact (by decide : (0 : Int32) = sb_b 0)
  | cons a l ih =>
    cases j with
    | zero => rfl
    | succ j => exact ih j
theorem e_byt {i : Nat} (hi : i < 3) : (fun j => Value.int ((sByt.getD i []).getD j 0)) = (fun j => Value.int (sb_b ((kT i).getD j 0))) := by
  have : i = 0 ∨ i = 1 ∨ i = 2 := by omega
  rcases this with rfl | rfl | rfl <;> exact funext fun j => congrArg Value.int (getD_sb _ j)
theorem e_len {i : Nat} (hi : i < 3) : sLen.getD i 0 = (kT i).length := by
  have : i = 0 ∨ i = 1 ∨ i = 2 := by omega
  rcases this with rfl | rfl | rfl <;> rfl
theorem e_str {s : State} {args : Array Value} {A : Nat → Prop} (hs : ∀ w ∈ lwFl, w.before args s = true) (hA : ∀ a : Nat, a < s.heap.size → ¬ A a) :
    ∃ adK adV : Nat → Nat, vk_S 3 sLen sByt adK adV A s s.heap ∧ ∀ i : Nat, i < 3 → (sTm i).eval args s none [] s = some (.ref (adK i)) :=
  vk_Sof (by decide) (fun i hi => hs _ (e_ex i hi)) (fun i hi => hs _ (e_co i hi)) (fun i hi => hs _ (e_ar i hi)) (fun i hi => hs _ (e_le i hi)) (fun i hi j hj => hs _ (e_el i hi j hj))
    (fun i j hi hj hn => (e_ne i hi j hj hn).elim (fun h => Or.inl (hs _ h)) (fun h => Or.inr (hs _ h))) hA
theorem e_eqR {s : State} {args : Array Value} {t u : Term} {a c : Nat} (h : (Cond.eq t u).before args s = true) (ht : t.eval args s none [] s = some (.ref a)) (hu : u.eval args s none [] s = some (.ref c)) : c = a := by
  simp [Cond.before, Cond.holds, Cond.value, ht, hu] at h
  exact h.symm
/-- another constant of the same text -/
theorem e_same {s : State} {args : Array Value} {own : String} {k a : Nat} {t : Term} (hex : (Cond.exactly (.string own k) "java/lang/String").before args s = true) (heq : (Cond.eq t (.string own k)).before args s = true) (ht : t.eval args s none [] s = some (.ref a)) : (Term.string own k).eval args s none [] s = some (.ref a) := by
  obtain ⟨c, _, _, _, q1, _⟩ := Cond.exactly_spec (args := args) (first := s) (o := none) (s := s) (idx := []) hex
  rw [q1, e_eqR heq ht q1]
theorem e_ref {s : State} {args : Array Value} {C n d : String} (h : (Cond.isRef (.static C n d)).before args s = true) : ∃ o : Option Nat, (Term.static C n d).eval args s none [] s = some (va_rf o) := by
  cases hv : (Term.static C n d).eval args s none [] s with
  | none => simp [Cond.before, Cond.holds, Cond.value, hv] at h
  | some w =>
    simp only [Cond.before, Cond.holds, Cond.value, hv] at h
    cases w with
    | null => exact ⟨none, rfl⟩
    | ref t => exact ⟨some t, rfl⟩
    | _ => simp at h
theorem e_arrO {s : State} {args : Array Value} {C : String} (h : (Cond.arrayOver (.object C)).before args s = true) : ∃ cA, ArrOfT s cA (.object C) ∧ va_RA s cA (.object C) := by
  obtain ⟨comp, c, k, f1, _, f2, f3, f4⟩ := Cond.arrayOver_spec (args := args) (first := s) (o := none) (s := s) (idx := []) h
  exact ⟨c, fun N z => ⟨(fun k h => by cases h), k, f2, comp, f3⟩, k, comp, f2, f3, f1, f4⟩

theorem e_arrI {s : State} {args : Array Value} (h : (Cond.arrayClass .int).before args s = true) : ∃ cA, ArrOfT s cA .int ∧ va_RA s cA .int := by
  obtain ⟨c, k, comp, f1, f2, f3⟩ := Cond.arrayClass_spec (args := args) (first := s) (o := none) (s := s) (idx := []) h
  exact ⟨c, fun N z => ⟨(fun k h => by cases h), k, f2, comp, f3⟩, f1⟩
theorem e_arrZ {s : State} {args : Array Value} (h : (Cond.arrayClass .boolean).before args s = true) : ∃ cA, ArrOfT s cA .boolean ∧ va_RA s cA .boolean := by
  obtain ⟨c, k, comp, f1, f2, f3⟩ := Cond.arrayClass_spec (args := args) (first := s) (o := none) (s := s) (idx := []) h
  exact ⟨c, fun N z => ⟨(fun k h => by cases h), k, f2, comp, f3⟩, f1⟩
theorem e_arrB {s : State} {args : Array Value} (h : (Cond.arrayClass .byte).before args s = true) : ∃ cA, ArrOfT s cA .byte ∧ va_RA s cA .byte := by
  obtain ⟨c, k, comp, f1, f2, f3⟩ := Cond.arrayClass_spec (args := args) (first := s) (o := none) (s := s) (idx := []) h
  exact ⟨c, fun N z => ⟨(fun k h => by cases h), k, f2, comp, f3⟩, f1⟩
set_option maxRecDepth 20000 in
theorem nW_in : ∀ w ∈ nW, w ∈ lw_tbl := List.forall_mem_cons.mpr ⟨mem_idx 60 (by rfl), List.forall_mem_cons.mpr ⟨mem_idx 104 (by rfl), List.forall_mem_cons.mpr ⟨mem_idx 499 (by rfl), List.forall_mem_cons.mpr ⟨mem_idx 501 (by rfl), List.forall_mem_cons.mpr ⟨mem_idx 56 (by rfl), List.forall_mem_cons.mpr ⟨mem_idx 66 (by rfl), List.forall_mem_cons.mpr ⟨mem_idx 136 (by rfl), List.forall_mem_cons.mpr ⟨mem_idx 154 (by rfl), List.forall_mem_cons.mpr ⟨mem_idx 444 (by rfl), List.forall_mem_cons.mpr ⟨mem_idx 461 (by rfl), List.forall_mem_cons.mpr ⟨mem_idx 462 (by rfl), List.forall_mem_cons.mpr ⟨mem_idx 527 (by rfl), List.forall_mem_cons.mpr ⟨mem_idx 608 (by rfl), List.forall_mem_cons.mpr ⟨mem_idx 746 (by rfl), List.forall_mem_cons.mpr ⟨mem_idx 852 (by rfl), List.forall_mem_cons.mpr ⟨mem_idx 54 (by rfl), List.forall_mem_cons.mpr ⟨mem_idx 134 (by rfl), List.forall_mem_cons.mpr ⟨mem_idx 141 (by rfl), List.forall_mem_cons.mpr ⟨mem_idx 155 (by rfl), List.forall_mem_cons.mpr ⟨mem_idx 157 (by rfl), List.forall_mem_cons.mpr ⟨mem_idx 159 (by rfl), List.forall_mem_cons.mpr ⟨mem_idx 277 (by rfl), fun _ h => absurd h List.not_mem_nil⟩⟩⟩⟩⟩⟩⟩⟩⟩⟩⟩⟩⟩⟩⟩⟩⟩⟩⟩⟩⟩⟩
theorem e_nw {s : State} {args : Array Value} (hts : ∀ w ∈ lw_tbl, w.before args s = true) : cNW s := by
  intro w hw
  have h := hts w (nW_in w hw)
  simp only [nW, List.mem_cons, List.not_mem_nil, or_false] at hw
  rcases hw with rfl | rfl | rfl | rfl | rfl | rfl | rfl | rfl | rfl | rfl | rfl | rfl | rfl | rfl | rfl | rfl | rfl | rfl | rfl | rfl | rfl | rfl <;> first | exact va_Nw.of rfl h | exact va_AO.of h
theorem e_cls {s : State} {args : Array Value} (hts : ∀ w ∈ lw_tbl, w.before args s = true) : ∃ D : va_G, ∀ (k : Nat) (q : vw_C), vwCl[k]? = some q → u_Kn s q.1 q.2.1 q.2.2 (D.1 k) (D.2 k) := by
  have ht2 : ∀ w ∈ lw_tbl ++ sel6, w.before args s = true := fun w hw => (List.mem_append.mp hw).elim (fun h => hts w h) (fun h => sel6_ok hts w h)
  obtain ⟨c0, i0, h0⟩ := u_known (C := RJ0) (T := TJ0) (N := 4) (n := 4) ht2 wm_wsJ00 (hts (.instantiable RJ0 4) (by decide +kernel))
  obtain ⟨c1, i1, h1⟩ := u_known (C := RJ4) (T := TJ4) (N := 4) (n := 4) ht2 wm_wsJ40 (hts (.instantiable RJ4 4) (by decide +kernel))
  obtain ⟨c2, i2, h2⟩ := u_known (C := RX0) (T := TX0) (N := 2) (n := 2) ht2 wm_wsX00 (hts (.instantiable RX0 2) (by decide +kernel))
  obtain ⟨c3, i3, h3⟩ := u_known (C := RX2) (T := TX2) (N := 5) (n := 5) ht2 wm_wsX20 (hts (.instantiable RX2 5) (by decide +kernel))
  obtain ⟨c4, i4, h4⟩ := u_known (C := RX3) (T := TX3) (N := 2) (n := 2) ht2 wm_wsX30 (hts (.instantiable RX3 2) (by decide +kernel))
  obtain ⟨c5, i5, h5⟩ := u_known (C := RX4) (T := TX4) (N := 1) (n := 1) ht2 wm_wsX40 (hts (.instantiable RX4 1) (by decide +kernel))
  obtain ⟨c6, i6, h6⟩ := u_known (C := RX5) (T := TX5) (N := 3) (n := 3) ht2 wm_wsX50 (hts (.instantiable RX5 3) (by decide +kernel))
  obtain ⟨c7, i7, h7⟩ := u_known (C := RX6) (T := TX6) (N := 1) (n := 1) ht2 wm_wsX60 (hts (.instantiable RX6 1) (by decide +kernel))
  obtain ⟨c8, i8, h8⟩ := u_known (C := RX7) (T := TX7) (N := 7) (n := 7) ht2 wm_wsX70 (hts (.instantiable RX7 7) (by decide +kernel))
  obtain ⟨c9, i9, h9⟩ := u_known (C := RX8) (T := TX8) (N := 4) (n := 4) ht2 wm_wsX80 (hts (.instantiable RX8 4) (by decide +kernel))
  obtain ⟨c10, i10, h10⟩ := u_known (C := RX9) (T := TX9) (N := 9) (n := 9) ht2 wm_wsX90 (hts (.instantiable RX9 9) (by decide +kernel))
  refine ⟨(fun k => match k with | 0 => c0 | 1 => c1 | 2 => c2 | 3 => c3 | 4 => c4 | 5 => c5 | 6 => c6 | 7 => c7 | 8 => c8 | 9 => c9 | _ => c10, fun k => match k with | 0 => i0 | 1 => i1 | 2 => i2 | 3 => i3 | 4 => i4 | 5 => i5 | 6 => i6 | 7 => i7 | 8 => i8 | 9 => i9 | _ => i10), ?_⟩
  intro k q hq
  match k, hq with
  | 0, hq => cases hq; exact h0
  | 1, hq => cases hq; exact h1
  | 2, hq => cases hq; exact h2
  | 3, hq => cases hq; exact h3
  | 4, hq => cases hq; exact h4
  | 5, hq => cases hq; exact h5
  | 6, hq => cases hq; exact h6
  | 7, hq => cases hq; exact h7
  | 8, hq => cases hq; exact h8
  | 9, hq => cases hq; exact h9
  | 10, hq => cases hq; exact h10
  | k + 11, hq => simp [vwCl] at hq
theorem e_rows {s : State} {args : Array Value} (hts : ∀ w ∈ lw_tbl, w.before args s = true) : ∃ ck : Nat → ClassId, ∀ (k : Nat) (q : ClassId × FieldType), (gt ck)[k]? = some q → ArrOfT s q.1 q.2 ∧ va_RA s q.1 q.2 := by
  obtain ⟨a0, r0⟩ := e_arrI (hts (.arrayClass .int) (by decide +kernel))
  obtain ⟨a1, r1⟩ := e_arrI (hts (.arrayClass .int) (by decide +kernel))
  obtain ⟨a2, r2⟩ := e_arrB (hts (.arrayClass .byte) (by decide +kernel))
  obtain ⟨a3, r3⟩ := e_arrO (C := RX0) (hts (.arrayOver (.object RX0)) (by decide +kernel))
  obtain ⟨a4, r4⟩ := e_arrO (C := RX3) (hts (.arrayOver (.object RX3)) (by decide +kernel))
  obtain ⟨a5, r5⟩ := e_arrO (C := RX4) (hts (.arrayOver (.object RX4)) (by decide +kernel))
  obtain ⟨a6, r6⟩ := e_arrO (C := RX8) (hts (.arrayOver (.object RX8)) (by decide +kernel))
  obtain ⟨a7, r7⟩ := e_arrO (C := RX2) (hts (.arrayOver (.object RX2)) (by decide +kernel))
  obtain ⟨a8, r8⟩ := e_arrO (C := RX6) (hts (.arrayOver (.object RX6)) (by decide +kernel))
  refine ⟨fun k => match k with | 0 => a0 | 1 => a1 | 2 => a2 | 3 => a3 | 4 => a4 | 5 => a5 | 6 => a6 | 7 => a7 | _ => a8, ?_⟩
  intro k q hq
  match k, hq with
  | 0, hq => cases hq; exact r0
  | 1, hq => cases hq; exact r1
  | 2, hq => cases hq; exact r2
  | 3, hq => cases hq; exact r3
  | 4, hq => cases hq; exact r4
  | 5, hq => cases hq; exact r5
  | 6, hq => cases hq; exact r6
  | 7, hq => cases hq; exact r7
  | 8, hq => cases hq; exact r8
  | k + 9, hq => simp [gt] at hq
theorem e_all {s : State} {b : Nat} (hts : ∀ w ∈ lw_tbl, w.before #[Value.ref b] s = true) (hgv : (Jvm.Cond.and given_1 narrow_1).before #[Value.ref b] s = true) {L : Nat} {xs : Nat → Int32} (hXs : va_X b L xs s s.heap) (hbl : b < s.heap.size) :
    ∃ (D : va_G) (u : hU), va_K D vwCl (gt u.2.1) s ∧ cRO u.1 u.2.2 (fun q : Nat => s.heap.size ≤ q) s s.heap ∧ uOk u ∧ u.2.2.2 = (b, L, xs) := by
  obtain ⟨scr, g1, g2, g3, g4, g5⟩ := id hXs
  have hs : ∀ w ∈ lwFl, w.before #[Value.ref b] s = true := flat_of_before _ hgv
  have hA : ∀ a : Nat, a < s.heap.size → ¬ (fun q : Nat => s.heap.size ≤ q) a := fun a ha => Nat.not_le.mpr ha
  obtain ⟨D, hD⟩ := e_cls hts
  obtain ⟨ck, hck⟩ := e_rows hts
  obtain ⟨adK, adV, ⟨hS, hinj⟩, hev⟩ := e_str hs hA
  obtain ⟨vF, hF⟩ := e_ref (hs (.isRef (.static "jdk/internal/util/Preconditions" "SIOOBE_FORMATTER" "Ljava/util/function/BiFunction;")) (by decide +kernel))
  have h0 := hev 0 (by omega)
  have e8 : (Term.string RX8 41).eval #[Value.ref b] s none [] s = some (.ref (adK 0)) := e_same (t := sTm 0) (hs _ (by decide +kernel)) (hs _ (by decide +kernel)) h0
  have e2 : (Term.string RX2 35).eval #[Value.ref b] s none [] s = some (.ref (adK 0)) := e_same (t := sTm 0) (hs _ (by decide +kernel)) (hs _ (by decide +kernel)) h0
  refine ⟨D, (fun i => (adK i, adV i), ck, vF, b, L, xs), ⟨hD, hck⟩, ⟨⟨?_, ?_, scr, g1, g2, g3, Nat.le_of_eq g4.symm, congrArg Nat.toInt32 g4, g5, hA b hbl⟩, fun i hi => ⟨(hS i hi).1, (hS i hi).2.1, (hS i hi).2.2.1, ?_⟩, ⟨?_, ?_, ?_, ?_, ?_⟩, e_nw hts⟩, fun i j hi hj h => hinj i j hi hj h, rfl⟩
  · exact va_Zof (hts _ (by decide +kernel)) (hts _ (by decide +kernel)) (va_eqi (hs _ (by decide +kernel))) hA
  · exact va_Zof (hts _ (by decide +kernel)) (hts _ (by decide +kernel)) hF hA
  · have := (hS i hi).2.2.2
    rw [e_byt hi, e_len hi] at this
    exact this
  · exact vk_R.of (hts _ (by decide +kernel)) h0
  · exact vk_R.of (hts _ (by decide +kernel)) e8
  · exact vk_R.of (hts _ (by decide +kernel)) e2
  · exact vk_R.of (hts _ (by decide +kernel)) (hev 1 (by omega))
  · exact vk_R.of (hts _ (by decide +kernel)) (hev 2 (by omega))
