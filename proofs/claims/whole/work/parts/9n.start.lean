/-! THE CLAIM OUT OF ONE WALK OF THE LAW'S BODY. Your part is whole_start (and what it stands on); all else here is the same for every law, but numbers. -/
def R_law : String := "SettingsDrawerLaw"
def lw_P (b : Addr) (xs : List Int32) (args : Array Value) (s : State) : Prop := args = #[.ref b] ∧ s.IntsAt b xs ∧ xs.length ≤ 2560 ∧ (Jvm.Cond.and given_1 narrow_1).before args s = true
def lw_Q (_ : Array Value) (s : State) (o : Outcome) (t : State) : Prop := o = .returned (some (.int 1)) ∧ Framed s o t [] 600000 7302249
def lw_Z (below : List Frame) (a : Array Value) (s : State) : State → Prop := fun t => ∃ o, t.status = .running ∧ Ended t below o ∧ lw_Q a s o t
/-- the law's own end, with 1 on the stack, nothing written that was there before, its room as the claim has it -/
theorem lw_ret {p : Program} {l : Launch} {e : Env} {s : State} {m : MethodId} {below : List Frame} {meth : Method} {c : Code} {b : Nat} (hx : p.tables.exec = Jvm.exec) (hb : c.code = code) (hr : meth.sig.returnType = ret) (hlocks : meth.locks = false) {pc : Nat} {H : Heap} {ls : Array Slot} (hdg : decode code pc = .ok (.ireturn, 1)) : W p l e room_1 s m #[Value.ref b] below meth c H [] 600000 7302249 (lw_Z below #[Value.ref b] s) (F0 m pc ls [.int 1]) := by
  intro T hT X
  obtain ⟨fs, hret, hrun, hended, hW, hframe⟩ := X.leave (v := some (.int 1)) (hlocks := hlocks) (fun h => by rw [hr] at h; cases h)
  have hmeth' : T.vm.method? m = some meth := X.method'
  refine ⟨T.setFrames fs, ?_, .returned (some (.int 1)), hrun, hended, rfl, ⟨_, rfl⟩, hW, hframe⟩
  jvm_step X.here [X.here.top, hx, hb, hdg, hmeth', hr, ret, narrow_b1]
  (try refine ⟨rfl, ?_⟩); (try refine ⟨rfl, ?_⟩)
  first | (intro acts; rw [hret _ acts rfl rfl rfl]) | rw [hret _ _ rfl rfl rfl]
  exact Steps.refl _
/-- what holds at the law's entry: the machine, the code, the tables' words (any of lw_tbl by 'hts w (by decide +kernel)'), the script of L ints xs at the cell b, what the Statement gives of the start (any of its parts by flat_of_before) -/
def lw_At (p : Program) (s : State) (m : MethodId) (meth : Method) (c : Code) (b L : Nat) (xs : Nat → Int32) : Prop :=
  p.tables.exec = Jvm.exec ∧ c.code = code ∧ meth.sig.returnType = ret ∧ c.maxLocals = 4 ∧ s.vm.findClass R_law = some m.cls ∧ (∀ w ∈ lw_tbl, w.before #[Value.ref b] s = true) ∧ va_X b L xs s s.heap ∧ b < s.heap.size ∧ meth.locks = false ∧ (Jvm.Cond.and given_1 narrow_1).before #[Value.ref b] s = true
/-! THE LAW from its entry -/
theorem inL_X90 : ∀ w ∈ wsX90, w ∈ wsL_law := fun w h => List.mem_append_left _ (List.mem_append_left _ (List.mem_append_left _ (List.mem_append_left _ (List.mem_append_left _ (List.mem_append_left _ (List.mem_append_left _ (List.mem_append_left _ (List.mem_append_left _ (List.mem_append_left _ (List.mem_append_left _ (List.mem_append_left _ (List.mem_append_right _ h))))))))))))
theorem inL_X100 : ∀ w ∈ wsX100, w ∈ wsL_law := fun w h => List.mem_append_left _ (List.mem_append_left _ (List.mem_append_left _ (List.mem_append_left _ (List.mem_append_left _ (List.mem_append_left _ (List.mem_append_left _ (List.mem_append_left _ (List.mem_append_left _ (List.mem_append_left _ (List.mem_append_left _ (List.mem_append_right _ h)))))))))))
set_option maxHeartbeats 4000000 in
set_option maxRecDepth 100000 in
theorem whole_start {p : Program} {e : Env} {s : State} {m : MethodId} {below : List Frame} {meth : Method} {c : Code} (l : Launch) (hflags : l.flags = flags0) {b L : Nat} {xs : Nat → Int32} (hL : L ≤ 2560) (C0 : lw_At p s m meth c b L xs) : W p l e room_1 s m #[Value.ref b] below meth c s.heap [] 0 0 (lw_Z below #[Value.ref b] s) (entryFrame m ([Value.ref b] : List Value).toArray 4) := by
  obtain ⟨hx, hb, hr, hml, hown, hts0, hXs, hbl, hlocks, hgv⟩ := id C0
  obtain ⟨D, u, hK, hRO, hu⟩ := e_all hts0 hgv
  have hts := wsL_hts hts0
  have hA : ∀ q : Nat, s.heap.size ≤ q → (fun q : Nat => s.heap.size ≤ q) q := fun _ h => h
  have C1 : hX p s m #[Value.ref b] c cL_law 4 RL wsL_law D (gt u.2.1) (fun q => s.heap.size ≤ q) u.1 u.2.2 := ⟨⟨hx, hb, hml, hown, hts, hK, hA⟩, hRO⟩
  have hW : gW D (fun q => s.heap.size ≤ q) s.heap (hC [] (([] : List Nat), fun _ => .inr (0, []))) s.heap [] := ⟨fun k q h => by simp [va_pl] at h, ⟨fun i j p q h => by simp [va_pl] at h, fun k q h => by simp [va_pl] at h⟩, va_S.rf⟩
  have hl := lv_entry ([.ref b]) (n := 4) (Nat.le_of_ble_eq_true rfl)
  rw [lg_entry_eq]
  generalize (lg_sl ([.ref b]) ++ List.replicate (4 - (lg_sl ([.ref b])).length) Slot.unset).toArray = ls at hl ⊢
  have hl : lv_has ls 4 [(0, .ref b)] := hl
  refine h_new C1 hW (ci := 10) (fs := [.null, .null, .null, .null, .null, .null, .null, .int 0, .int 0]) inL_X90 rfl tyX9 tyX9_ok (by decide +kernel) (by decide +kernel) (by decide +kernel) (fun j hj => by rcases (show j = 0 ∨ j = 1 ∨ j = 2 ∨ j = 3 ∨ j = 4 ∨ j = 5 ∨ j = 6 ∨ j = 7 ∨ j = 8 by omega) with rfl | rfl | rfl | rfl | rfl | rfl | rfl | rfl | rfl <;> rfl) (by show _ ≤ 600000; omega) (by show _ ≤ 7302249; omega) dL_law_0 (fun q1 H hq1 hW => ?_)
  obtain ⟨S1, eS1⟩ : ∃ z : hS, z = adS (([] : List Nat), fun _ => .inr (0, [])) q1 (.inr (10, [.null, .null, .null, .null, .null, .null, .null, .int 0, .int 0])) := ⟨_, rfl⟩
  rw [← eS1] at hW
  have hw1 : w_X9_init u (fun S' => cRep u q1 aE S') q1 S1 40 700 := c_init hu (by rw [eS1]; exact adS_mem) (by rw [eS1]; exact va_adS_self) (by omega) (by omega) (fun S' h => h)
  refine lv_dup hx hb dL_law_3 rfl ?_
  refine h_gov C1 hW (va_runI (As := []) (rest := [.ref q1]) ⟨hx, hb, hml, hown, hts⟩ (k_X9_init (l := l) (u := u) (X := []) (sz := H.size) _ q1 S1 40 700 hw1) (cwI 0 hts gL_law_X9_init rfl rfl rfl (hts (.initialized RX9) (by decide +kernel)) (hts (.methodLink RL 9 yX9_init) (by decide +kernel)) (hts (.instanceMethod yX9_init) (by decide +kernel)) rfl (by decide +kernel) ⟨Nat.le_of_ble_eq_true rfl, Nat.le_of_ble_eq_true rfl⟩) ⟨h_blind, h_pre C1 hW [.ref q1]⟩ rfl rfl hl.1 rfl (lv_room (Nat.le_of_ble_eq_true rfl)) dL_law_4 ⟨by show _ ≤ 600000; omega, by show _ ≤ 7302249; omega⟩) (fun S2 H locs hc2 hW => ?_)
  refine lv_astore_n (lv' := [(1, .ref q1), (0, .ref b)]) hx hb dL_law_7 rfl hl (by decide) rfl (fun ls hl => ?_)
  have hW : gW D (fun q => s.heap.size ≤ q) s.heap (hC (va_pl S2.1 S2.2) (([] : List Nat), fun _ => .inr (0, []))) H locs := by
    have e : hC (va_pl S2.1 S2.2) (([] : List Nat), fun _ => .inr (0, [])) = hC [] S2 := List.append_nil _
    rw [e]; exact hW
  refine h_new C1 hW (ci := 11) (fs := [.null, .null, .null, .null, .int 0, .null, .int 0, .null, .null, .null, .null, .null, .int 0, .int 0, .int 0, .int 0, .int 0, .null, .null, .int 0, .null]) inL_X100 rfl tyX10 tyX10_ok (by decide +kernel) (by decide +kernel) (by decide +kernel) (fun j hj => by rcases (show j = 0 ∨ j = 1 ∨ j = 2 ∨ j = 3 ∨ j = 4 ∨ j = 5 ∨ j = 6 ∨ j = 7 ∨ j = 8 ∨ j = 9 ∨ j = 10 ∨ j = 11 ∨ j = 12 ∨ j = 13 ∨ j = 14 ∨ j = 15 ∨ j = 16 ∨ j = 17 ∨ j = 18 ∨ j = 19 ∨ j = 20 by omega) with rfl | rfl | rfl | rfl | rfl | rfl | rfl | rfl | rfl | rfl | rfl | rfl | rfl | rfl | rfl | rfl | rfl | rfl | rfl | rfl | rfl <;> rfl) (by show _ ≤ 600000; omega) (by show _ ≤ 7302249; omega) dL_law_8 (fun q2 H hq2 hW => ?_)
  obtain ⟨f2, ef2⟩ : ∃ z : Nat → va_E, z = va_up (fun _ => .inr (0, [])) q2 (.inr (11, [.null, .null, .null, .null, .int 0, .null, .int 0, .null, .null, .null, .null, .null, .int 0, .int 0, .int 0, .int 0, .int 0, .null, .null, .int 0, .null])) := ⟨_, rfl⟩
  have hW : gW D (fun q => s.heap.size ≤ q) s.heap (hC (va_pl S2.1 S2.2) ([q2], f2)) H locs := by rw [ef2]; exact hW
  have hw2 : w_X10_init u (fun S' => ∃ (h : Nat → Nat) (M : RM), va_pl S'.1 S'.2 = rcells (u.2.1 0) (u.2.1 1) h M [] ∧ h 0 = q2 ∧ rRep aE M) q2 ([q2], f2) 13 322371 := c_rinit (by rw [ef2]; exact va_up_self _ _ _) (by omega) (by omega) (fun S' h M h1 h2 h3 => ⟨h, M, h1, h2, h3⟩)
  refine lv_dup hx hb dL_law_11 rfl ?_
  refine h_gov C1 hW (va_runI (As := []) (rest := [.ref q2]) ⟨hx, hb, hml, hown, hts⟩ (k_X10_init (l := l) (u := u) (X := va_pl S2.1 S2.2) (sz := H.size) _ q2 ([q2], f2) 13 322371 hw2) (cwI 0 hts gL_law_X10_init rfl rfl rfl (hts (.initialized RX10) (by decide +kernel)) (hts (.methodLink RL 12 yX10_init) (by decide +kernel)) (hts (.instanceMethod yX10_init) (by decide +kernel)) rfl (by decide +kernel) ⟨Nat.le_of_ble_eq_true rfl, Nat.le_of_ble_eq_true rfl⟩) ⟨h_blind, h_pre C1 hW [.ref q2]⟩ rfl rfl hl.1 rfl (lv_room (Nat.le_of_ble_eq_true rfl)) dL_law_12 ⟨by show _ ≤ 600000; omega, by show _ ≤ 7302249; omega⟩) (fun S3 H locs hr3 hW => ?_)
  obtain ⟨ad, M, e3, e0, hM⟩ := hr3
  refine lv_astore_n (lv' := [(2, .ref q2), (1, .ref q1), (0, .ref b)]) hx hb dL_law_15 rfl hl (by decide) rfl (fun ls hl => ?_)
  refine lv_iconst (v := 0) hx hb dL_law_16 (by decide) ?_
  refine lv_istore_n (lv' := [(3, .int 0), (2, .ref q2), (1, .ref q1), (0, .ref b)]) hx hb dL_law_17 rfl hl (by decide) rfl (fun ls hl => ?_)
  rw [← e0] at hl
  have hW : gW D (fun q => s.heap.size ≤ q) s.heap (rcells (u.2.1 0) (u.2.1 1) ad M (va_pl S2.1 S2.2)) H locs := by
    have hW : gW D (fun q => s.heap.size ≤ q) s.heap (([] ++ va_pl S2.1 S2.2) ++ va_pl S3.1 S3.2) H locs := hW
    rw [e3] at hW
    have h1 := va_P.swap hW.1
    have h2 := va_D.swap hW.2.1
    exact ⟨h1, h2, hW.2.2⟩
  have h18 := l_18 (u := u) (d := q1) (L := L) (xs := xs) (by omega) 513 0 aE S2 M 599945 6979147 (by omega) (by omega) hc2 hM (by omega) (by omega)
  rw [nI_0] at h18
  refine t_law_18 (d0 := q1) (L := L) (xs := xs) C1 hXs hbl (by omega) (fun S M mc ms k n pc lv hkn hdg => ?_) 513 0 S2 M 599945 6979147 _ _ ⟨by omega, by omega⟩ h18 _ _ _ hW (lv_sub hl [3, 2, 1, 0] rfl)
  intro H locs ls hW hl
  refine va_forget (fun q hq => hW.2.2.2.2 q hq) ?_
  refine W.widen (k := 600000) (n := 7302249) (by omega) (by omega) ?_
  exact lw_ret hx hb hr hlocks hdg
