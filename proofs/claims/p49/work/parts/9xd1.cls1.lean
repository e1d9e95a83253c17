section RAWM
variable {p : Program} {l : Launch} {e : Env} {s : State} {m : MethodId} {args : Array Value} {below : List Frame} {meth : Method} {c : Code} {Q : State → Prop}
variable {D : va_G} {A : Nat → Prop} {u : hU} {X : va_W} {MC MS : Nat}
abbrev rm_X0_init : Room := { frames := 1, cells := 0, slots := 0, locals := 12 }
theorem in_X0_init_RX0 : ∀ w ∈ wsX00, w ∈ wsX0_init := fun w hw9 => List.mem_cons_of_mem _ (List.mem_append_right _ hw9)
set_option maxHeartbeats 4000000 in
set_option maxRecDepth 100000 in
theorem t_X0_init_0 (C0 : hX p s m args c cX0_init 3 RX0 wsX0_init D (gt u.2.1) A u.1 u.2.2) (hin : yX0_init.name = "<init>" → meth.name = "<init>") (t0 : Nat) (post : hS → Prop) (hret : ∀ (S' : hS) (pc : Nat) (lv : List (Nat × Value)) (k n : Nat), k ≤ 0 → n ≤ 0 → post S' → decode cX0_init pc = .ok (.return_, 1) → gG p l e (rm_X0_init) s m args below meth c Q D A 3 k n (hC X S') pc lv [])  : ∀ (p1 : Option Nat) (p2 : Option Nat) (S : hS), w_X0_init u post t0  p1 p2 S → gG p l e (rm_X0_init) s m args below meth c Q D A 3 0 0 (hC X S) 0 [(0, .ref t0), (1, va_rf p1), (2, va_rf p2)] [] := by
  obtain ⟨⟨hx, hb, hml, ho, hts, hK, hA⟩, hR⟩ := id C0
  intro p1 p2 S hw H locs ls hW hl
  rw [w_X0_init] at hw
  refine lv_aload_n hx hb dX0_init_0 rfl (lv_at hl 0 rfl) ?_
  refine W.objInit hx hb ho (hts (.methodLink RX0 1 objectInit) (List.mem_of_getElem? (i := 1) rfl)) (hts (.instanceMethod objectInit) (List.mem_of_getElem? (i := 2) rfl)) (hts (.code objectInit ⟨#[0xb1]⟩ 1 none) (List.mem_of_getElem? (i := 3) rfl)) rfl (by rw [hml]; exact hl.1) rfl dX0_init_1 (Nat.le_of_ble_eq_true rfl) (Nat.le_of_ble_eq_true rfl) ?_
  refine W.eq (g2 := F0 m 4 ls []) rfl ?_
  refine lv_aload_n hx hb dX0_init_4 rfl (lv_at hl 0 rfl) ?_
  refine lv_aloadV_n hx hb dX0_init_5 rfl (lv_at hl 1 rfl) ?_
  obtain ⟨fs1, h2, h3, hw⟩ := hw
  refine h_put C0 hW (T := TX0) (kf := 0) (ty := .object "java/lang/String") in_X0_init_RX0 h2 rfl (by decide) h3 tyX0 tyX0_ok nmX0 (List.mem_of_getElem? (i := 4) rfl) rfl (Or.inr ⟨rfl, hin rfl, rfl⟩) (by decide +kernel) (by cases p1 <;> rfl) (by cases p1 <;> rfl) dX0_init_6 (va_rf_cat _) (fun H locs hW => ?_)
  obtain ⟨S4, eS4⟩ : ∃ z : hS, z = upS S t0 (.inr (2, fs1.set 0 (va_rf p1))) := ⟨_, rfl⟩
  rw [← eS4] at hW
  replace hw := hw S4 eS4
  refine lv_aload_n hx hb dX0_init_9 rfl (lv_at hl 0 rfl) ?_
  refine lv_aloadV_n hx hb dX0_init_10 rfl (lv_at hl 2 rfl) ?_
  obtain ⟨fs5, h6, h7, hw⟩ := hw
  refine h_put C0 hW (T := TX0) (kf := 1) (ty := .object "java/lang/String") in_X0_init_RX0 h6 rfl (by decide) h7 tyX0 tyX0_ok nmX0 (List.mem_of_getElem? (i := 5) rfl) rfl (Or.inr ⟨rfl, hin rfl, rfl⟩) (by decide +kernel) (by cases p2 <;> rfl) (by cases p2 <;> rfl) dX0_init_11 (va_rf_cat _) (fun H locs hW => ?_)
  obtain ⟨S8, eS8⟩ : ∃ z : hS, z = upS S4 t0 (.inr (2, fs5.set 1 (va_rf p2))) := ⟨_, rfl⟩
  rw [← eS8] at hW
  replace hw := hw S8 eS8
  exact hret S8 _ _ 0 0 (Nat.le_refl _) (Nat.le_refl _) hw dX0_init_14 _ _ _ hW hl
set_option maxHeartbeats 4000000 in
set_option maxRecDepth 100000 in
theorem k_X0_init {l : Launch} {D : va_G} {u : hU} {X : va_W} {sz : Nat} (post : hS → Prop) (t0 : Nat) (p1 : Option Nat) (p2 : Option Nat) (S : hS) (hw : w_X0_init u post t0 p1 p2 S) : hMv l yX0_init wsX0_init rm_X0_init D (gt u.2.1) u.1 u.2.2 sz X S [.ref t0, va_rf p1, va_rf p2] post 0 0 := by
  refine hMv_of (cc := cX0_init) (nL := 3) (own := RX0) (by decide) rfl rfl (by cases p1 <;> cases p2 <;> exact Nat.le_of_ble_eq_true rfl) ?_
  intro p e s m args below meth c A Q C0 hin hret
  have hfin := t_X0_init_0 C0 hin t0 post hret p1 p2 S hw
  intro H locs ls hW hl
  refine hfin H locs ls hW ?_
  cases p1 <;> cases p2 <;> exact hl
abbrev rm_X1_letterFor : Room := { frames := 0, cells := 0, slots := 0, locals := 0 }
set_option maxHeartbeats 4000000 in
set_option maxRecDepth 100000 in
theorem k_X1_letterFor {l : Launch} (post : Int32 → Prop) (z1 : Int32) (hw : q_X1_letterFor post z1) : gMs l yX1_letterFor wsX1_letterFor rm_X1_letterFor [.int z1] post := by
  refine gMs_of (cc := cX1_letterFor) (nL := 1) (ty := .int) (own := RX1) (by decide) rfl rfl (Nat.le_of_ble_eq_true rfl) ?_
  intro p e s m args below meth c Q hx hb hml ho hts hret ls hl
  rw [q_X1_letterFor] at hw
  refine lv_iload_n hx hb dX1_letterFor_0 rfl (lv_at hl 0 rfl) ?_
  by_cases c1 : z1 = 9
  · replace hw := hw.1 c1
    refine lv_lookup (tgt := 84) (off := 83) hx hb dX1_letterFor_1 (by decide) (by rw [c1]; decide) (by decide) ?_
    refine lv_bipush (v := 116) hx hb dX1_letterFor_84 (by decide) ?_
    exact hret 116 _ _ hw rfl dX1_letterFor_86
  by_cases c2 : z1 = 10
  · replace hw := hw.2.1 c2
    refine lv_lookup (tgt := 87) (off := 86) hx hb dX1_letterFor_1 (by decide) (by rw [c2]; decide) (by decide) ?_
    refine lv_bipush (v := 110) hx hb dX1_letterFor_87 (by decide) ?_
    exact hret 110 _ _ hw rfl dX1_letterFor_89
  by_cases c3 : z1 = 13
  · replace hw := hw.2.2.1 c3
    refine lv_lookup (tgt := 90) (off := 89) hx hb dX1_letterFor_1 (by decide) (by rw [c3]; decide) (by decide) ?_
    refine lv_bipush (v := 114) hx hb dX1_letterFor_90 (by decide) ?_
    exact hret 114 _ _ hw rfl dX1_letterFor_92
  by_cases c4 : z1 = 32
  · replace hw := hw.2.2.2.1 c4
    refine lv_lookup (tgt := 93) (off := 92) hx hb dX1_letterFor_1 (by decide) (by rw [c4]; decide) (by decide) ?_
    refine lv_iload_n hx hb dX1_letterFor_93 rfl (lv_at hl 0 rfl) ?_
    exact hret z1 _ _ hw rfl dX1_letterFor_94
  by_cases c5 : z1 = 33
  · replace hw := hw.2.2.2.2.1 c5
    refine lv_lookup (tgt := 93) (off := 92) hx hb dX1_letterFor_1 (by decide) (by rw [c5]; decide) (by decide) ?_
    refine lv_iload_n hx hb dX1_letterFor_93 rfl (lv_at hl 0 rfl) ?_
    exact hret z1 _ _ hw rfl dX1_letterFor_94
  by_cases c6 : z1 = 35
  · replace hw := hw.2.2.2.2.2.1 c6
    refine lv_lookup (tgt := 93) (off := 92) hx hb dX1_letterFor_1 (by decide) (by rw [c6]; decide) (by decide) ?_
    refine lv_iload_n hx hb dX1_letterFor_93 rfl (lv_at hl 0 rfl) ?_
    exact hret z1 _ _ hw rfl dX1_letterFor_94
  by_cases c7 : z1 = 58
  · replace hw := hw.2.2.2.2.2.2.1 c7
    refine lv_lookup (tgt := 93) (off := 92) hx hb dX1_letterFor_1 (by decide) (by rw [c7]; decide) (by decide) ?_
    refine lv_iload_n hx hb dX1_letterFor_93 rfl (lv_at hl 0 rfl) ?_
    exact hret z1 _ _ hw rfl dX1_letterFor_94
  by_cases c8 : z1 = 61
  · replace hw := hw.2.2.2.2.2.2.2.1 c8
    refine lv_lookup (tgt := 93) (off := 92) hx hb dX1_letterFor_1 (by decide) (by rw [c8]; decide) (by decide) ?_
    refine lv_iload_n hx hb dX1_letterFor_93 rfl (lv_at hl 0 rfl) ?_
    exact hret z1 _ _ hw rfl dX1_letterFor_94
  by_cases c9 : z1 = 92
  · replace hw := hw.2.2.2.2.2.2.2.2.1 c9
    refine lv_lookup (tgt := 93) (off := 92) hx hb dX1_letterFor_1 (by decide) (by rw [c9]; decide) (by decide) ?_
    refine lv_iload_n hx hb dX1_letterFor_93 rfl (lv_at hl 0 rfl) ?_
    exact hret z1 _ _ hw rfl dX1_letterFor_94
  replace hw := hw.2.2.2.2.2.2.2.2.2 c1 c2 c3 c4 c5 c6 c7 c8 c9
  refine lv_lookup (tgt := 95) (off := 94) hx hb dX1_letterFor_1 (by decide) (by show Op.lookupswitch.offset [(9, 83), (10, 86), (13, 89), (32, 92), (33, 92), (35, 92), (58, 92), (61, 92), (92, 92)] 94 (z1 : Int32).toInt = 94; rw [Op.lookupswitch.offset_cons, if_neg (sw_ne (v := 9) (by decide) c1)]; rw [Op.lookupswitch.offset_cons, if_neg (sw_ne (v := 10) (by decide) c2)]; rw [Op.lookupswitch.offset_cons, if_neg (sw_ne (v := 13) (by decide) c3)]; rw [Op.lookupswitch.offset_cons, if_neg (sw_ne (v := 32) (by decide) c4)]; rw [Op.lookupswitch.offset_cons, if_neg (sw_ne (v := 33) (by decide) c5)]; rw [Op.lookupswitch.offset_cons, if_neg (sw_ne (v := 35) (by decide) c6)]; rw [Op.lookupswitch.offset_cons, if_neg (sw_ne (v := 58) (by decide) c7)]; rw [Op.lookupswitch.offset_cons, if_neg (sw_ne (v := 61) (by decide) c8)]; rw [Op.lookupswitch.offset_cons, if_neg (sw_ne (v := 92) (by decide) c9)]; rfl) (by decide) ?_
  refine lv_iconst (v := (-1)) hx hb dX1_letterFor_95 (by decide) ?_
  exact hret (-1) _ _ hw rfl dX1_letterFor_96
abbrev rm_X9_isPrinted : Room := { frames := 0, cells := 0, slots := 0, locals := 0 }
set_option maxHeartbeats 4000000 in
set_option maxRecDepth 100000 in
theorem k_X9_isPrinted {l : Launch} (post : Int32 → Prop) (z1 : Int32) (hw : q_X9_isPrinted post z1) : gMs l yX9_isPrinted wsX9_isPrinted rm_X9_isPrinted [.int z1] post := by
  refine gMs_of (cc := cX9_isPrinted) (nL := 1) (ty := .boolean) (own := RX9) (by decide) rfl rfl (Nat.le_of_ble_eq_true rfl) ?_
  intro p e s m args below meth c Q hx hb hml ho hts hret ls hl
  rw [q_X9_isPrinted] at hw
  refine lv_iload_n hx hb dX9_isPrinted_0 rfl (lv_at hl 0 rfl) ?_
  refine lv_bipush (v := 32) hx hb dX9_isPrinted_1 (by decide) ?_
  refine lv_icmp_lt (tgt := 16) hx hb dX9_isPrinted_3 (by decide) (fun c1 => ?_) (fun c1 => ?_)
  · replace hw := hw.1 c1
    refine lv_iconst (v := 0) hx hb dX9_isPrinted_16 (by decide) ?_
    exact hret 0 _ _ hw (by decide) dX9_isPrinted_17
  · replace hw := hw.2 c1
    refine lv_iload_n hx hb dX9_isPrinted_6 rfl (lv_at hl 0 rfl) ?_
    refine lv_bipush (v := 126) hx hb dX9_isPrinted_7 (by decide) ?_
    refine lv_icmp_gt (tgt := 16) hx hb dX9_isPrinted_9 (by decide) (fun c2 => ?_) (fun c2 => ?_)
    · replace hw := hw.1 c2
      refine lv_iconst (v := 0) hx hb dX9_isPrinted_16 (by decide) ?_
      exact hret 0 _ _ hw (by decide) dX9_isPrinted_17
    · replace hw := hw.2 c2
      refine lv_iconst (v := 1) hx hb dX9_isPrinted_12 (by decide) ?_
      refine lv_goto (tgt := 17) hx hb dX9_isPrinted_13 (by decide) ?_
      exact hret 1 _ _ hw (by decide) dX9_isPrinted_17
abbrev rm_X1_escapedLength : Room := { frames := 4, cells := 0, slots := 0, locals := 85 }
set_option maxHeartbeats 4000000 in
set_option maxRecDepth 100000 in
theorem t_X1_escapedLength_4 (C0 : hX p s m args c cX1_escapedLength 4 RX1 wsX1_escapedLength D (gt u.2.1) A u.1 u.2.2) {S : hS}  (post : Int32 → Prop) (hret : ∀ (r : Int32) (S' : hS) (pc : Nat) (lv : List (Nat × Value)) (k n : Nat), k ≤ 0 → n ≤ 0 → (S' = S ∧ post r) → narrow .int (.int r) = .int r → decode cX1_escapedLength pc = .ok (.ireturn, 1) → gG p l e (rm_X1_escapedLength) s m args below meth c Q D A 4 k n (hC X S') pc lv [.int r])  : ∀ (nf : Nat) (x0 : Option Nat) (x1 : Int32) (x2 : Int32), w_X1_escapedLength_4 u post   nf x0 x1 x2 S → gG p l e (rm_X1_escapedLength) s m args below meth c Q D A 4 0 0 (hC X S) 4 [(0, va_rf x0), (1, .int x1), (2, .int x2)] [] := by
  obtain ⟨⟨hx, hb, hml, ho, hts, hK, hA⟩, hR⟩ := id C0
  intro nf
  induction nf with
  | zero => intro x0 x1 x2 hw; exact hw.elim
  | succ nf ih =>
    intro x0 x1 x2 hw H locs ls hW hl
    rw [w_X1_escapedLength_4] at hw
    refine lv_iload_n hx hb dX1_escapedLength_4 rfl (lv_at hl 2 rfl) ?_
    refine lv_aloadV_n hx hb dX1_escapedLength_5 rfl (lv_at hl 0 rfl) ?_
    obtain ⟨a2, rfl, hw⟩ := hw
    obtain ⟨h4, hw⟩ := hw
    refine h_goi C0 hW (va_runV (As := []) (rest := [.int x2]) ⟨hx, hb, hml, ho, hts⟩ (k_J0_length_8a (l := l) (u := u) (X := X) (sz := H.size) _ a2  S  hw) (cwV 0 hts gX1_escapedLength_J0_length_8abf5 rfl rfl rfl (by decide +kernel) ⟨Nat.le_of_ble_eq_true rfl, Nat.le_of_ble_eq_true rfl⟩) ⟨h_blind, (h_recvS C0 hW h4), (h_pre C0 hW [.ref a2])⟩ rfl rfl hl.1 rfl (lv_room (Nat.le_of_ble_eq_true rfl)) dX1_escapedLength_6 ⟨Nat.le_refl _, Nat.le_refl _⟩) (fun r3 S5 H locs h6 hW => ?_)
    obtain ⟨h7, hp⟩ := h6
    rw [h7] at hW
    replace hw := hp
    refine lv_icmp_ge (tgt := 54) hx hb dX1_escapedLength_9 (by decide) (fun c8 => ?_) (fun c8 => ?_)
    · replace hw := hw.1 c8
      refine lv_iload_n hx hb dX1_escapedLength_54 rfl (lv_at hl 1 rfl) ?_
      exact hret x1 S _ _ 0 0 (Nat.le_refl _) (Nat.le_refl _) ⟨rfl, hw⟩ rfl dX1_escapedLength_55 _ _ _ hW hl
    · replace hw := hw.2 c8
      refine lv_aload_n hx hb dX1_escapedLength_12 rfl (lv_at hl 0 rfl) ?_
      refine lv_iload_n hx hb dX1_escapedLength_13 rfl (lv_at hl 2 rfl) ?_
      obtain ⟨h10, hw⟩ := hw
      refine h_goi C0 hW (va_runV (As := [.int x2]) (rest := []) ⟨hx, hb, hml, ho, hts⟩ (k_J0_charAt_50 (l := l) (u := u) (X := X) (sz := H.size) _ a2 x2 S  hw) (cwV 1 hts gX1_escapedLength_J0_charAt_5068e rfl rfl rfl (by decide +kernel) ⟨Nat.le_of_ble_eq_true rfl, Nat.le_of_ble_eq_true rfl⟩) ⟨h_blind, (h_recvS C0 hW h10), (h_pre C0 hW [.ref a2, .int x2])⟩ rfl rfl hl.1 rfl (lv_room (Nat.le_of_ble_eq_true rfl)) dX1_escapedLength_14 ⟨Nat.le_refl _, Nat.le_refl _⟩) (fun r9 S11 H locs h12 hW => ?_)
      obtain ⟨h13, hp⟩ := h12
      rw [h13] at hW
      replace hw := hp
      refine lv_istore_n (lv' := [(3, .int r9), (0, .ref a2), (1, .int x1), (2, .int x2)]) hx hb dX1_escapedLength_17 rfl hl (by decide) rfl (fun ls hl9 => ?_)
      replace hl := hl9
      refine lv_iload_n hx hb dX1_escapedLength_18 rfl (lv_at hl 0 rfl) ?_
      refine g_calls (As := [.int r9]) (rest := []) ⟨hx, hb, hml, ho, hts⟩ hl.1 (k_X1_letterFor (l := l) _ r9 hw) (va_cwS 1 hts gX1_escapedLength_X1_letterFor rfl rfl rfl (by decide +kernel) ⟨Nat.le_of_ble_eq_true rfl, Nat.le_of_ble_eq_true rfl⟩) (Nat.le_of_ble_eq_true rfl) dX1_escapedLength_19 rfl ⟨Nat.le_refl _, Nat.le_refl _⟩ (fun r14 hp => ?_)
      replace hw := hp
      refine lv_iconst (v := (-1)) hx hb dX1_escapedLength_22 (by decide) ?_
      refine lv_icmp_eq (tgt := 32) hx hb dX1_escapedLength_23 (by decide) (fun c15 => ?_) (fun c15 => ?_)
      · replace hw := hw.1 c15
        refine lv_iload_n hx hb dX1_escapedLength_32 rfl (lv_at hl 2 rfl) ?_
        refine lv_iload_n hx hb dX1_escapedLength_33 rfl (lv_at hl 0 rfl) ?_
        refine g_callsN (As := [.int r9]) (rest := [.int x1]) (host := RX9) ⟨hx, hb, hml, ho, hts⟩ hl.1 (k_X9_isPrinted (l := l) _ r9 hw) ⟨va_cnB 1 hts gX1_escapedLength_X9_isPrinted_n25 rfl rfl rfl (C0.2.2.2.2 _ (by decide +kernel)) (hts _ (List.mem_of_getElem? (i := 55) rfl)) (by decide +kernel) ⟨Nat.le_of_ble_eq_true rfl, Nat.le_of_ble_eq_true rfl⟩, hts _ (List.mem_of_getElem? (i := 54) rfl), trivial⟩ (Nat.le_of_ble_eq_true rfl) dX1_escapedLength_34 rfl ⟨Nat.le_refl _, Nat.le_refl _⟩ (fun r16 hp => ?_)
        replace hw := hp
        refine lv_if_eq (tgt := 44) hx hb dX1_escapedLength_37 (by decide) (fun c17 => ?_) (fun c17 => ?_)
        · replace hw := hw.1 c17
          refine lv_bipush (v := 6) hx hb dX1_escapedLength_44 (by decide) ?_
          refine lv_iadd hx hb dX1_escapedLength_46 ?_
          refine lv_topi (fun v18 ev18 => ?_)
          replace hw := hw v18 ev18
          refine lv_istore_n (lv' := [(1, .int v18), (3, .int r9), (0, .ref a2), (2, .int x2)]) hx hb dX1_escapedLength_47 rfl hl (by decide) rfl (fun ls hl9 => ?_)
          replace hl := hl9
          obtain ⟨v19, ev19⟩ : ∃ y : Int32, y = x2 + 1 := ⟨_, rfl⟩
          replace hw := hw v19 ev19
          refine lv_iinc (v := v19) (lv' := [(2, .int v19), (1, .int v18), (3, .int r9), (0, .ref a2)]) hx hb dX1_escapedLength_48 hl (k := 3) rfl (by rw [ev19]; rfl) (by decide) rfl (fun ls hl9 => ?_)
          replace hl := hl9
          refine lv_goto (tgt := 4) hx hb dX1_escapedLength_51 (by decide) ?_
          exact ih (some a2) v18 v19   hw _ _ _ hW (lv_sub hl [3, 1, 0] rfl)
        · replace hw := hw.2 c17
          refine lv_iconst (v := 1) hx hb dX1_escapedLength_40 (by decide) ?_
          refine lv_goto (tgt := 46) hx hb dX1_escapedLength_41 (by decide) ?_
          refine lv_iadd hx hb dX1_escapedLength_46 ?_
          refine lv_topi (fun v20 ev20 => ?_)
          replace hw := hw v20 ev20
          refine lv_istore_n (lv' := [(1, .int v20), (3, .int r9), (0, .ref a2), (2, .int x2)]) hx hb dX1_escapedLength_47 rfl hl (by decide) rfl (fun ls hl9 => ?_)
          replace hl := hl9
          obtain ⟨v21, ev21⟩ : ∃ y : Int32, y = x2 + 1 := ⟨_, rfl⟩
          replace hw := hw v21 ev21
          refine lv_iinc (v := v21) (lv' := [(2, .int v21), (1, .int v20), (3, .int r9), (0, .ref a2)]) hx hb dX1_escapedLength_48 hl (k := 3) rfl (by rw [ev21]; rfl) (by decide) rfl (fun ls hl9 => ?_)
          replace hl := hl9
          refine lv_goto (tgt := 4) hx hb dX1_escapedLength_51 (by decide) ?_
          exact ih (some a2) v20 v21   hw _ _ _ hW (lv_sub hl [3, 1, 0] rfl)
      · replace hw := hw.2 c15
        obtain ⟨v22, ev22⟩ : ∃ y : Int32, y = x1 + 2 := ⟨_, rfl⟩
        replace hw := hw v22 ev22
        refine lv_iinc (v := v22) (lv' := [(1, .int v22), (3, .int r9), (0, .ref a2), (2, .int x2)]) hx hb dX1_escapedLength_26 hl (k := 2) rfl (by rw [ev22]; rfl) (by decide) rfl (fun ls hl9 => ?_)
        replace hl := hl9
        refine lv_goto (tgt := 48) hx hb dX1_escapedLength_29 (by decide) ?_
        obtain ⟨v23, ev23⟩ : ∃ y : Int32, y = x2 + 1 := ⟨_, rfl⟩
        replace hw := hw v23 ev23
        refine lv_iinc (v := v23) (lv' := [(2, .int v23), (1, .int v22), (3, .int r9), (0, .ref a2)]) hx hb dX1_escapedLength_48 hl (k := 3) rfl (by rw [ev23]; rfl) (by decide) rfl (fun ls hl9 => ?_)
        replace hl := hl9
        refine lv_goto (tgt := 4) hx hb dX1_escapedLength_51 (by decide) ?_
        exact ih (some a2) v22 v23   hw _ _ _ hW (lv_sub hl [3, 1, 0] rfl)
set_option maxHeartbeats 4000000 in
set_option maxRecDepth 100000 in
theorem t_X1_escapedLength_0 (C0 : hX p s m args c cX1_escapedLength 4 RX1 wsX1_escapedLength D (gt u.2.1) A u.1 u.2.2) {S : hS}  (post : Int32 → Prop) (hret : ∀ (r : Int32) (S' : hS) (pc : Nat) (lv : List (Nat × Value)) (k n : Nat), k ≤ 0 → n ≤ 0 → (S' = S ∧ post r) → narrow .int (.int r) = .int r → decode cX1_escapedLength pc = .ok (.ireturn, 1) → gG p l e (rm_X1_escapedLength) s m args below meth c Q D A 4 k n (hC X S') pc lv [.int r])  : ∀ (p1 : Option Nat), w_X1_escapedLength u post   p1 S → gG p l e (rm_X1_escapedLength) s m args below meth c Q D A 4 0 0 (hC X S) 0 [(0, va_rf p1)] [] := by
  obtain ⟨⟨hx, hb, hml, ho, hts, hK, hA⟩, hR⟩ := id C0
  intro p1 hw H locs ls hW hl
  rw [w_X1_escapedLength] at hw
  refine lv_iconst (v := 0) hx hb dX1_escapedLength_0 (by decide) ?_
  refine lv_istore_n (lv' := [(1, .int 0), (0, va_rf p1)]) hx hb dX1_escapedLength_1 rfl hl (by decide) (by show (1, .int 0) :: List.filter (fun q : Nat × Value => !(q.1 == 1) && !(q.1 + 1 == 1 && q.2.category == 2)) [(0, va_rf p1)] = [(1, .int 0), (0, va_rf p1)]; simp [va_rf_cat, va_c_ref, va_c_int, va_c_null]) (fun ls hl9 => ?_)
  replace hl := hl9
  refine lv_iconst (v := 0) hx hb dX1_escapedLength_2 (by decide) ?_
  refine lv_istore_n (lv' := [(2, .int 0), (1, .int 0), (0, va_rf p1)]) hx hb dX1_escapedLength_3 rfl hl (by decide) rfl (fun ls hl9 => ?_)
  replace hl := hl9
  obtain ⟨n1, hw⟩ := hw
  exact t_X1_escapedLength_4 C0  post hret  n1 p1 0 0   hw _ _ _ hW (lv_sub hl [2, 1, 0] rfl)
set_option maxHeartbeats 4000000 in
set_option maxRecDepth 100000 in
theorem k_X1_escapedLength {l : Launch} {D : va_G} {u : hU} {X : va_W} {sz : Nat} (post : Int32 → Prop) (p1 : Option Nat) (S : hS) (hw : w_X1_escapedLength u post  p1 S) : hMi l yX1_escapedLength wsX1_escapedLength rm_X1_escapedLength D (gt u.2.1) u.1 u.2.2 sz X S [va_rf p1] (fun r S' => S' = S ∧ post r) 0 0 := by
  refine hMi_of (cc := cX1_escapedLength) (nL := 4) (ty := .int) (own := RX1) (by decide) rfl rfl (by cases p1 <;> exact Nat.le_of_ble_eq_true rfl) ?_
  intro p e s m args below meth c A Q C0 hin hret
  have hfin := t_X1_escapedLength_0 C0  post hret p1 hw
  intro H locs ls hW hl
  refine hfin H locs ls hW ?_
  cases p1 <;> exact hl
abbrev rm_X1_escapeOnto (MC MS : Nat) : Room := { frames := 6, cells := MC, slots := MS, locals := 126 }
set_option maxHeartbeats 4000000 in
set_option maxRecDepth 100000 in
theorem t_X1_escapeOnto_81 (C0 : hX p s m args c cX1_escapeOnto 6 RX1 wsX1_escapeOnto D (gt u.2.1) A u.1 u.2.2)  (post : hS → Prop) (hret : ∀ (S' : hS) (pc : Nat) (lv : List (Nat × Value)) (k n : Nat), k ≤ MC → n ≤ MS → post S' → decode cX1_escapeOnto pc = .ok (.return_, 1) → gG p l e (rm_X1_escapeOnto MC MS) s m args below meth c Q D A 6 k n (hC X S') pc lv []) (K2 : Option Nat → Option Nat → Int32 → hS → Nat → Nat → Prop) (hK2 : ∀ (x0 : Option Nat) (x1 : Option Nat) (x2 : Int32) (S : hS) (mc ms k n : Nat), k + mc ≤ MC ∧ n + ms ≤ MS → K2 x0 x1 x2 S mc ms → gG p l e (rm_X1_escapeOnto MC MS) s m args below meth c Q D A 6 k n (hC X S) 2 [(0, va_rf x0), (1, va_rf x1), (2, .int x2)] []) : ∀ (nf : Nat) (x0 : Nat) (x1 : Nat) (x2 : Int32) (x3 : Int32) (x5 : Int32) (S : hS) (mc ms k n : Nat), k + mc ≤ MC ∧ n + ms ≤ MS → w_X1_escapeOnto_81 u post  K2 nf x0 x1 x2 x3 x5 S mc ms → gG p l e (rm_X1_escapeOnto MC MS) s m args below meth c Q D A 6 k n (hC X S) 81 [(0, .ref x0), (1, .ref x1), (2, .int x2), (3, .int x3), (5, .int x5)] [] := by
  obtain ⟨⟨hx, hb, hml, ho, hts, hK, hA⟩, hR⟩ := id C0
  intro nf
  induction nf with
  | zero => intro x0 x1 x2 x3 x5 S mc ms k n hkn hw; exact hw.elim
  | succ nf ih =>
    intro x0 x1 x2 x3 x5 S mc ms k n hkn hw H locs ls hW hl
    rw [w_X1_escapeOnto_81] at hw
    refine lv_iload hx hb dX1_escapeOnto_81 (lv_at hl 4 rfl) ?_
    refine lv_if_lt (tgt := 109) hx hb dX1_escapeOnto_83 (by decide) (fun c64 => ?_) (fun c64 => ?_)
    · replace hw := hw.1 c64
      obtain ⟨v65, ev65⟩ : ∃ y : Int32, y = x2 + 1 := ⟨_, rfl⟩
      replace hw := hw v65 ev65
      refine lv_iinc (v := v65) (lv' := [(2, .int v65), (0, .ref x0), (1, .ref x1), (3, .int x3), (5, .int x5)]) hx hb dX1_escapeOnto_109 hl (k := 2) rfl (by rw [ev65]; rfl) (by decide) rfl (fun ls hl9 => ?_)
      replace hl := hl9
      refine lv_goto (tgt := 2) hx hb dX1_escapeOnto_112 (by decide) ?_
      exact hK2 (some x0) (some x1) v65 S mc ms _ _ hkn hw _ _ _ hW (lv_sub hl [1, 2, 0] rfl)
    · replace hw := hw.2 c64
      refine lv_aload_n hx hb dX1_escapeOnto_86 rfl (lv_at hl 0 rfl) ?_
      refine va_ldcS hx hb ho C0.2.2.2.1.2.2.2.1 dX1_escapeOnto_87 ?_
      refine lv_iload_n hx hb dX1_escapeOnto_89 rfl (lv_at hl 3 rfl) ?_
      refine lv_iload hx hb dX1_escapeOnto_90 (lv_at hl 4 rfl) ?_
      refine lv_ishr hx hb dX1_escapeOnto_92 ?_
      refine lv_bipush (v := 15) hx hb dX1_escapeOnto_93 (by decide) ?_
      refine lv_iand hx hb dX1_escapeOnto_95 ?_
      obtain ⟨h67, hw⟩ := hw
      refine h_goi C0 hW (va_runV (As := [.int ((x3 >>> (x5 &&& 31)) &&& 15)]) (rest := [.ref x0]) ⟨hx, hb, hml, ho, hts⟩ (k_J0_charAt_50 (l := l) (u := u) (X := X) (sz := H.size) _ (u.1 1).1 ((x3 >>> (x5 &&& 31)) &&& 15) S  hw) (cwV 1 hts gX1_escapeOnto_J0_charAt_5068e rfl rfl rfl (by decide +kernel) ⟨Nat.le_of_ble_eq_true rfl, Nat.le_of_ble_eq_true rfl⟩) ⟨h_blind, (h_recvS C0 hW h67), (h_pre C0 hW [.ref (u.1 1).1, .int ((x3 >>> (x5 &&& 31)) &&& 15)])⟩ rfl rfl hl.1 rfl (lv_room (Nat.le_of_ble_eq_true rfl)) dX1_escapeOnto_96 ⟨by show _ ≤ MC; omega, by show _ ≤ MS; omega⟩) (fun r66 S68 H locs h69 hW => ?_)
      obtain ⟨h70, hp⟩ := h69
      rw [h70] at hW
      replace hw := hp
      obtain ⟨h76, k72, n73, h74, h75, hw⟩ := hw
      refine h_goq C0 hW (va_runV (As := [.int r66]) (rest := []) ⟨hx, hb, hml, ho, hts⟩ (k_J4_append_cf (l := l) (u := u) (X := X) (sz := H.size) _ x0 r66 S k72 n73 hw) (cwV 1 hts gX1_escapeOnto_J4_append_cf468 rfl rfl rfl (by decide +kernel) ⟨Nat.le_of_ble_eq_true rfl, Nat.le_of_ble_eq_true rfl⟩) ⟨h_blind, (h_recv C0 hW (ci := 1) rfl h76), (h_pre C0 hW [.ref x0, .int r66])⟩ rfl rfl hl.1 rfl (lv_room (Nat.le_of_ble_eq_true rfl)) dX1_escapeOnto_99 ⟨by show _ ≤ MC; omega, by show _ ≤ MS; omega⟩) (fun r71 S77 H locs h78 hW => ?_)
      replace hw := h78
      have hkn : (k + k72) + (mc - k72) ≤ MC ∧ (n + n73) + (ms - n73) ≤ MS := by omega
      refine lv_pop hx hb dX1_escapeOnto_102 (va_rf_cat _) ?_
      obtain ⟨v79, ev79⟩ : ∃ y : Int32, y = x5 + (-4) := ⟨_, rfl⟩
      replace hw := hw v79 ev79
      refine lv_iinc (v := v79) (lv' := [(5, .int v79), (0, .ref x0), (1, .ref x1), (2, .int x2), (3, .int x3)]) hx hb dX1_escapeOnto_103 hl (k := 4) rfl (by rw [ev79]; rfl) (by decide) rfl (fun ls hl9 => ?_)
      replace hl := hl9
      refine lv_goto (tgt := 81) hx hb dX1_escapeOnto_106 (by decide) ?_
      exact ih x0 x1 x2 x3 v79 S77 (mc - k72) (ms - n73) _ _ hkn hw _ _ _ hW (lv_sub hl [1, 2, 3, 4, 0] rfl)
set_option maxHeartbeats 4000000 in
set_option maxRecDepth 100000 in
theorem t_X1_escapeOnto_2 (C0 : hX p s m args c cX1_escapeOnto 6 RX1 wsX1_escapeOnto D (gt u.2.1) A u.1 u.2.2)  (post : hS → Prop) (hret : ∀ (S' : hS) (pc : Nat) (lv : List (Nat × Value)) (k n : Nat), k ≤ MC → n ≤ MS → post S' → decode cX1_escapeOnto pc = .ok (.return_, 1) → gG p l e (rm_X1_escapeOnto MC MS) s m args below meth c Q D A 6 k n (hC X S') pc lv [])  : ∀ (nf : Nat) (x0 : Option Nat) (x1 : Option Nat) (x2 : Int32) (S : hS) (mc ms k n : Nat), k + mc ≤ MC ∧ n + ms ≤ MS → w_X1_escapeOnto_2 u post   nf x0 x1 x2 S mc ms → gG p l e (rm_X1_escapeOnto MC MS) s m args below meth c Q D A 6 k n (hC X S) 2 [(0, va_rf x0), (1, va_rf x1), (2, .int x2)] [] := by
  obtain ⟨⟨hx, hb, hml, ho, hts, hK, hA⟩, hR⟩ := id C0
  intro nf
  induction nf with
  | zero => intro x0 x1 x2 S mc ms k n hkn hw; exact hw.elim
  | succ nf ih =>
    intro x0 x1 x2 S mc ms k n hkn hw H locs ls hW hl
    rw [w_X1_escapeOnto_2] at hw
    refine lv_iload_n hx hb dX1_escapeOnto_2 rfl (lv_at hl 2 rfl) ?_
    refine lv_aloadV_n hx hb dX1_escapeOnto_3 rfl (lv_at hl 1 rfl) ?_
    obtain ⟨a2, rfl, hw⟩ := hw
    obtain ⟨h4, hw⟩ := hw
    refine h_goi C0 hW (va_runV (As := []) (rest := [.int x2]) ⟨hx, hb, hml, ho, hts⟩ (k_J0_length_8a (l := l) (u := u) (X := X) (sz := H.size) _ a2  S  hw) (cwV 0 hts gX1_escapeOnto_J0_length_8abf5 rfl rfl rfl (by decide +kernel) ⟨Nat.le_of_ble_eq_true rfl, Nat.le_of_ble_eq_true rfl⟩) ⟨h_blind, (h_recvS C0 hW h4), (h_pre C0 hW [.ref a2])⟩ rfl rfl hl.1 rfl (lv_room (Nat.le_of_ble_eq_true rfl)) dX1_escapeOnto_4 ⟨by show _ ≤ MC; omega, by show _ ≤ MS; omega⟩) (fun r3 S5 H locs h6 hW => ?_)
    obtain ⟨h7, hp⟩ := h6
    rw [h7] at hW
    replace hw := hp
    refine lv_icmp_ge (tgt := 115) hx hb dX1_escapeOnto_7 (by decide) (fun c8 => ?_) (fun c8 => ?_)
    · replace hw := hw.1 c8
      exact hret S _ _ _ _ (by omega) (by omega) hw dX1_escapeOnto_115 _ _ _ hW hl
    · replace hw := hw.2 c8
      refine lv_aload_n hx hb dX1_escapeOnto_10 rfl (lv_at hl 1 rfl) ?_
      refine lv_iload_n hx hb dX1_escapeOnto_11 rfl (lv_at hl 2 rfl) ?_
      obtain ⟨h10, hw⟩ := hw
      refine h_goi C0 hW (va_runV (As := [.int x2]) (rest := []) ⟨hx, hb, hml, ho, hts⟩ (k_J0_charAt_50 (l := l) (u := u) (X := X) (sz := H.size) _ a2 x2 S  hw) (cwV 1 hts gX1_escapeOnto_J0_charAt_5068e rfl rfl rfl (by decide +kernel) ⟨Nat.le_of_ble_eq_true rfl, Nat.le_of_ble_eq_true rfl⟩) ⟨h_blind, (h_recvS C0 hW h10), (h_pre C0 hW [.ref a2, .int x2])⟩ rfl rfl hl.1 rfl (lv_room (Nat.le_of_ble_eq_true rfl)) dX1_escapeOnto_12 ⟨by show _ ≤ MC; omega, by show _ ≤ MS; omega⟩) (fun r9 S11 H locs h12 hW => ?_)
      obtain ⟨h13, hp⟩ := h12
      rw [h13] at hW
      replace hw := hp
      refine lv_istore_n (lv' := [(3, .int r9), (0, va_rf x0), (1, .ref a2), (2, .int x2)]) hx hb dX1_escapeOnto_15 rfl hl (by decide) rfl (fun ls hl9 => ?_)
      replace hl := hl9
      refine lv_iload_n hx hb dX1_escapeOnto_16 rfl (lv_at hl 0 rfl) ?_
      refine g_calls (As := [.int r9]) (rest := []) ⟨hx, hb, hml, ho, hts⟩ hl.1 (k_X1_letterFor (l := l) _ r9 hw) (va_cwS 1 hts gX1_escapeOnto_X1_letterFor rfl rfl rfl (by decide +kernel) ⟨Nat.le_of_ble_eq_true rfl, Nat.le_of_ble_eq_true rfl⟩) (Nat.le_of_ble_eq_true rfl) dX1_escapeOnto_17 rfl ⟨by show _ ≤ MC; omega, by show _ ≤ MS; omega⟩ (fun r14 hp => ?_)
      replace hw := hp
      refine lv_istore (lv' := [(4, .int r14), (3, .int r9), (0, va_rf x0), (1, .ref a2), (2, .int x2)]) hx hb dX1_escapeOnto_20 hl (by decide) rfl (fun ls hl9 => ?_)
      replace hl := hl9
      refine lv_iload hx hb dX1_escapeOnto_22 (lv_at hl 0 rfl) ?_
      refine lv_iconst (v := (-1)) hx hb dX1_escapeOnto_24 (by decide) ?_
      refine lv_icmp_eq (tgt := 46) hx hb dX1_escapeOnto_25 (by decide) (fun c15 => ?_) (fun c15 => ?_)
      · replace hw := hw.1 c15
        refine lv_iload_n hx hb dX1_escapeOnto_46 rfl (lv_at hl 1 rfl) ?_
        refine g_callsN (As := [.int r9]) (rest := []) (host := RX9) ⟨hx, hb, hml, ho, hts⟩ hl.1 (k_X9_isPrinted (l := l) _ r9 hw) ⟨va_cnB 1 hts gX1_escapeOnto_X9_isPrinted_n25 rfl rfl rfl (C0.2.2.2.2 _ (by decide +kernel)) (hts _ (List.mem_of_getElem? (i := 152) rfl)) (by decide +kernel) ⟨Nat.le_of_ble_eq_true rfl, Nat.le_of_ble_eq_true rfl⟩, hts _ (List.mem_of_getElem? (i := 151) rfl), trivial⟩ (Nat.le_of_ble_eq_true rfl) dX1_escapeOnto_47 rfl ⟨by show _ ≤ MC; omega, by show _ ≤ MS; omega⟩ (fun r16 hp => ?_)
        replace hw := hp
        refine lv_if_eq (tgt := 63) hx hb dX1_escapeOnto_50 (by decide) (fun c17 => ?_) (fun c17 => ?_)
        · replace hw := hw.1 c17
          refine lv_aloadV_n hx hb dX1_escapeOnto_63 rfl (lv_at hl 2 rfl) ?_
          refine lv_bipush (v := 92) hx hb dX1_escapeOnto_64 (by decide) ?_
          obtain ⟨a18, rfl, hw⟩ := hw
          obtain ⟨h24, k20, n21, h22, h23, hw⟩ := hw
          refine h_goq C0 hW (va_runV (As := [.int 92]) (rest := []) ⟨hx, hb, hml, ho, hts⟩ (k_J4_append_cf (l := l) (u := u) (X := X) (sz := H.size) _ a18 92 S k20 n21 hw) (cwV 1 hts gX1_escapeOnto_J4_append_cf468 rfl rfl rfl (by decide +kernel) ⟨Nat.le_of_ble_eq_true rfl, Nat.le_of_ble_eq_true rfl⟩) ⟨h_blind, (h_recv C0 hW (ci := 1) rfl h24), (h_pre C0 hW [.ref a18, .int 92])⟩ rfl rfl hl.1 rfl (lv_room (Nat.le_of_ble_eq_true rfl)) dX1_escapeOnto_66 ⟨by show _ ≤ MC; omega, by show _ ≤ MS; omega⟩) (fun r19 S25 H locs h26 hW => ?_)
          replace hw := h26
          have hkn : (k + k20) + (mc - k20) ≤ MC ∧ (n + n21) + (ms - n21) ≤ MS := by omega
          refine lv_pop hx hb dX1_escapeOnto_69 (va_rf_cat _) ?_
          refine lv_aload_n hx hb dX1_escapeOnto_70 rfl (lv_at hl 2 rfl) ?_
          refine lv_bipush (v := 117) hx hb dX1_escapeOnto_71 (by decide) ?_
          obtain ⟨h32, k28, n29, h30, h31, hw⟩ := hw
          refine h_goq C0 hW (va_runV (As := [.int 117]) (rest := []) ⟨hx, hb, hml, ho, hts⟩ (k_J4_append_cf (l := l) (u := u) (X := X) (sz := H.size) _ a18 117 S25 k28 n29 hw) (cwV 1 hts gX1_escapeOnto_J4_append_cf468 rfl rfl rfl (by decide +kernel) ⟨Nat.le_of_ble_eq_true rfl, Nat.le_of_ble_eq_true rfl⟩) ⟨h_blind, (h_recv C0 hW (ci := 1) rfl h32), (h_pre C0 hW [.ref a18, .int 117])⟩ rfl rfl hl.1 rfl (lv_room (Nat.le_of_ble_eq_true rfl)) dX1_escapeOnto_73 ⟨by show _ ≤ MC; omega, by show _ ≤ MS; omega⟩) (fun r27 S33 H locs h34 hW => ?_)
          replace hw := h34
          have hkn : ((k + k20) + k28) + ((mc - k20) - k28) ≤ MC ∧ ((n + n21) + n29) + ((ms - n21) - n29) ≤ MS := by omega
          refine lv_pop hx hb dX1_escapeOnto_76 (va_rf_cat _) ?_
          refine lv_bipush (v := 12) hx hb dX1_escapeOnto_77 (by decide) ?_
          refine lv_istore (lv' := [(5, .int 12), (4, .int r14), (3, .int r9), (0, .ref a18), (1, .ref a2), (2, .int x2)]) hx hb dX1_escapeOnto_79 hl (by decide) rfl (fun ls hl9 => ?_)
          replace hl := hl9
          obtain ⟨n35, hw⟩ := hw
          exact t_X1_escapeOnto_81 C0  post hret (w_X1_escapeOnto_2 u post   nf) ih n35 a18 a2 x2 r9 12 S33 ((mc - k20) - k28) ((ms - n21) - n29) _ _ hkn hw _ _ _ hW (lv_sub hl [3, 4, 5, 2, 0] rfl)
        · replace hw := hw.2 c17
          refine lv_aloadV_n hx hb dX1_escapeOnto_53 rfl (lv_at hl 2 rfl) ?_
          refine lv_iload_n hx hb dX1_escapeOnto_54 rfl (lv_at hl 1 rfl) ?_
          refine lv_i2c hx hb dX1_escapeOnto_55 rfl ?_
          obtain ⟨a36, rfl, hw⟩ := hw
          obtain ⟨h42, k38, n39, h40, h41, hw⟩ := hw
          refine h_goq C0 hW (va_runV (As := [.int ((r9 : Int32).toUInt32 % 65536).toInt32]) (rest := []) ⟨hx, hb, hml, ho, hts⟩ (k_J4_append_cf (l := l) (u := u) (X := X) (sz := H.size) _ a36 ((r9 : Int32).toUInt32 % 65536).toInt32 S k38 n39 hw) (cwV 1 hts gX1_escapeOnto_J4_append_cf468 rfl rfl rfl (by decide +kernel) ⟨Nat.le_of_ble_eq_true rfl, Nat.le_of_ble_eq_true rfl⟩) ⟨h_blind, (h_recv C0 hW (ci := 1) rfl h42), (h_pre C0 hW [.ref a36, .int ((r9 : Int32).toUInt32 % 65536).toInt32])⟩ rfl rfl hl.1 rfl (lv_room (Nat.le_of_ble_eq_true rfl)) dX1_escapeOnto_56 ⟨by show _ ≤ MC; omega, by show _ ≤ MS; omega⟩) (fun r37 S43 H locs h44 hW => ?_)
          replace hw := h44
          have hkn : (k + k38) + (mc - k38) ≤ MC ∧ (n + n39) + (ms - n39) ≤ MS := by omega
          refine lv_pop hx hb dX1_escapeOnto_59 (va_rf_cat _) ?_
          refine lv_goto (tgt := 109) hx hb dX1_escapeOnto_60 (by decide) ?_
          obtain ⟨v45, ev45⟩ : ∃ y : Int32, y = x2 + 1 := ⟨_, rfl⟩
          replace hw := hw v45 ev45
          refine lv_iinc (v := v45) (lv' := [(2, .int v45), (4, .int r14), (3, .int r9), (0, .ref a36), (1, .ref a2)]) hx hb dX1_escapeOnto_109 hl (k := 4) rfl (by rw [ev45]; rfl) (by decide) rfl (fun ls hl9 => ?_)
          replace hl := hl9
          refine lv_goto (tgt := 2) hx hb dX1_escapeOnto_112 (by decide) ?_
          exact ih (some a36) (some a2) v45 S43 (mc - k38) (ms - n39) _ _ hkn hw _ _ _ hW (lv_sub hl [3, 4, 0] rfl)
      · replace hw := hw.2 c15
        refine lv_aloadV_n hx hb dX1_escapeOnto_28 rfl (lv_at hl 2 rfl) ?_
        refine lv_bipush (v := 92) hx hb dX1_escapeOnto_29 (by decide) ?_
        obtain ⟨a46, rfl, hw⟩ := hw
        obtain ⟨h52, k48, n49, h50, h51, hw⟩ := hw
        refine h_goq C0 hW (va_runV (As := [.int 92]) (rest := []) ⟨hx, hb, hml, ho, hts⟩ (k_J4_append_cf (l := l) (u := u) (X := X) (sz := H.size) _ a46 92 S k48 n49 hw) (cwV 1 hts gX1_escapeOnto_J4_append_cf468 rfl rfl rfl (by decide +kernel) ⟨Nat.le_of_ble_eq_true rfl, Nat.le_of_ble_eq_true rfl⟩) ⟨h_blind, (h_recv C0 hW (ci := 1) rfl h52), (h_pre C0 hW [.ref a46, .int 92])⟩ rfl rfl hl.1 rfl (lv_room (Nat.le_of_ble_eq_true rfl)) dX1_escapeOnto_31 ⟨by show _ ≤ MC; omega, by show _ ≤ MS; omega⟩) (fun r47 S53 H locs h54 hW => ?_)
        replace hw := h54
        have hkn : (k + k48) + (mc - k48) ≤ MC ∧ (n + n49) + (ms - n49) ≤ MS := by omega
        refine lv_pop hx hb dX1_escapeOnto_34 (va_rf_cat _) ?_
        refine lv_aload_n hx hb dX1_escapeOnto_35 rfl (lv_at hl 2 rfl) ?_
        refine lv_iload hx hb dX1_escapeOnto_36 (lv_at hl 0 rfl) ?_
        refine lv_i2c hx hb dX1_escapeOnto_38 rfl ?_
        obtain ⟨h60, k56, n57, h58, h59, hw⟩ := hw
        refine h_goq C0 hW (va_runV (As := [.int ((r14 : Int32).toUInt32 % 65536).toInt32]) (rest := []) ⟨hx, hb, hml, ho, hts⟩ (k_J4_append_cf (l := l) (u := u) (X := X) (sz := H.size) _ a46 ((r14 : Int32).toUInt32 % 65536).toInt32 S53 k56 n57 hw) (cwV 1 hts gX1_escapeOnto_J4_append_cf468 rfl rfl rfl (by decide +kernel) ⟨Nat.le_of_ble_eq_true rfl, Nat.le_of_ble_eq_true rfl⟩) ⟨h_blind, (h_recv C0 hW (ci := 1) rfl h60), (h_pre C0 hW [.ref a46, .int ((r14 : Int32).toUInt32 % 65536).toInt32])⟩ rfl rfl hl.1 rfl (lv_room (Nat.le_of_ble_eq_true rfl)) dX1_escapeOnto_39 ⟨by show _ ≤ MC; omega, by show _ ≤ MS; omega⟩) (fun r55 S61 H locs h62 hW => ?_)
        replace hw := h62
        have hkn : ((k + k48) + k56) + ((mc - k48) - k56) ≤ MC ∧ ((n + n49) + n57) + ((ms - n49) - n57) ≤ MS := by omega
        refine lv_pop hx hb dX1_escapeOnto_42 (va_rf_cat _) ?_
        refine lv_goto (tgt := 109) hx hb dX1_escapeOnto_43 (by decide) ?_
        obtain ⟨v63, ev63⟩ : ∃ y : Int32, y = x2 + 1 := ⟨_, rfl⟩
        replace hw := hw v63 ev63
        refine lv_iinc (v := v63) (lv' := [(2, .int v63), (4, .int r14), (3, .int r9), (0, .ref a46), (1, .ref a2)]) hx hb dX1_escapeOnto_109 hl (k := 4) rfl (by rw [ev63]; rfl) (by decide) rfl (fun ls hl9 => ?_)
        replace hl := hl9
        refine lv_goto (tgt := 2) hx hb dX1_escapeOnto_112 (by decide) ?_
        exact ih (some a46) (some a2) v63 S61 ((mc - k48) - k56) ((ms - n49) - n57) _ _ hkn hw _ _ _ hW (lv_sub hl [3, 4, 0] rfl)
set_option maxHeartbeats 4000000 in
set_option maxRecDepth 100000 in
theorem t_X1_escapeOnto_0 (C0 : hX p s m args c cX1_escapeOnto 6 RX1 wsX1_escapeOnto D (gt u.2.1) A u.1 u.2.2)  (post : hS → Prop) (hret : ∀ (S' : hS) (pc : Nat) (lv : List (Nat × Value)) (k n : Nat), k ≤ MC → n ≤ MS → post S' → decode cX1_escapeOnto pc = .ok (.return_, 1) → gG p l e (rm_X1_escapeOnto MC MS) s m args below meth c Q D A 6 k n (hC X S') pc lv [])  : ∀ (p1 : Option Nat) (p2 : Option Nat) (S : hS) (mc ms k n : Nat), k + mc ≤ MC ∧ n + ms ≤ MS → w_X1_escapeOnto u post   p1 p2 S mc ms → gG p l e (rm_X1_escapeOnto MC MS) s m args below meth c Q D A 6 k n (hC X S) 0 [(0, va_rf p1), (1, va_rf p2)] [] := by
  obtain ⟨⟨hx, hb, hml, ho, hts, hK, hA⟩, hR⟩ := id C0
  intro p1 p2 S mc ms k n hkn hw H locs ls hW hl
  rw [w_X1_escapeOnto] at hw
  refine lv_iconst (v := 0) hx hb dX1_escapeOnto_0 (by decide) ?_
  refine lv_istore_n (lv' := [(2, .int 0), (0, va_rf p1), (1, va_rf p2)]) hx hb dX1_escapeOnto_1 rfl hl (by decide) (by show (2, .int 0) :: List.filter (fun q : Nat × Value => !(q.1 == 2) && !(q.1 + 1 == 2 && q.2.category == 2)) [(0, va_rf p1), (1, va_rf p2)] = [(2, .int 0), (0, va_rf p1), (1, va_rf p2)]; simp [va_rf_cat, va_c_ref, va_c_int, va_c_null]) (fun ls hl9 => ?_)
  replace hl := hl9
  obtain ⟨n1, hw⟩ := hw
  exact t_X1_escapeOnto_2 C0  post hret  n1 p1 p2 0 S mc ms _ _ hkn hw _ _ _ hW (lv_sub hl [1, 2, 0] rfl)
set_option maxHeartbeats 4000000 in
set_option maxRecDepth 100000 in
theorem k_X1_escapeOnto {l : Launch} {D : va_G} {u : hU} {X : va_W} {sz : Nat} (post : hS → Prop) (p1 : Option Nat) (p2 : Option Nat) (S : hS) (mc ms : Nat) (hw : w_X1_escapeOnto u post  p1 p2 S mc ms) : hMv l yX1_escapeOnto wsX1_escapeOnto (rm_X1_escapeOnto mc ms) D (gt u.2.1) u.1 u.2.2 sz X S [va_rf p1, va_rf p2] post mc ms := by
  refine hMv_of (cc := cX1_escapeOnto) (nL := 6) (own := RX1) (by decide) rfl rfl (by cases p1 <;> cases p2 <;> exact Nat.le_of_ble_eq_true rfl) ?_
  intro p e s m args below meth c A Q C0 hin hret
  have hfin := t_X1_escapeOnto_0 C0  post hret p1 p2 S mc ms 0 0 ⟨by omega, by omega⟩ hw
  intro H locs ls hW hl
  refine hfin H locs ls hW ?_
  cases p1 <;> cases p2 <;> exact hl
abbrev rm_X1_characterFor : Room := { frames := 0, cells := 0, slots := 0, locals := 0 }
set_option maxHeartbeats 4000000 in
set_option maxRecDepth 100000 in
theorem k_X1_characterFor {l : Launch} (post : Int32 → Prop) (z1 : Int32) (hw : q_X1_characterFor post z1) : gMs l yX1_characterFor wsX1_characterFor rm_X1_characterFor [.int z1] post := by
  refine gMs_of (cc := cX1_characterFor) (nL := 1) (ty := .char) (own := RX1) (by decide) rfl rfl (Nat.le_of_ble_eq_true rfl) ?_
  intro p e s m args below meth c Q hx hb hml ho hts hret ls hl
  rw [q_X1_characterFor] at hw
  refine lv_iload_n hx hb dX1_characterFor_0 rfl (lv_at hl 0 rfl) ?_
  by_cases c1 : z1 = 110
  · replace hw := hw.1 c1
    refine lv_lookup (tgt := 39) (off := 38) hx hb dX1_characterFor_1 (by decide) (by rw [c1]; decide) (by decide) ?_
    refine lv_bipush (v := 10) hx hb dX1_characterFor_39 (by decide) ?_
    exact hret 10 _ _ hw (by decide) dX1_characterFor_41
  by_cases c2 : z1 = 114
  · replace hw := hw.2.1 c2
    refine lv_lookup (tgt := 42) (off := 41) hx hb dX1_characterFor_1 (by decide) (by rw [c2]; decide) (by decide) ?_
    refine lv_bipush (v := 13) hx hb dX1_characterFor_42 (by decide) ?_
    exact hret 13 _ _ hw (by decide) dX1_characterFor_44
  by_cases c3 : z1 = 116
  · replace hw := hw.2.2.1 c3
    refine lv_lookup (tgt := 36) (off := 35) hx hb dX1_characterFor_1 (by decide) (by rw [c3]; decide) (by decide) ?_
    refine lv_bipush (v := 9) hx hb dX1_characterFor_36 (by decide) ?_
    exact hret 9 _ _ hw (by decide) dX1_characterFor_38
  replace hw := hw.2.2.2 c1 c2 c3
  refine lv_lookup (tgt := 45) (off := 44) hx hb dX1_characterFor_1 (by decide) (by show Op.lookupswitch.offset [(110, 38), (114, 41), (116, 35)] 44 (z1 : Int32).toInt = 44; rw [Op.lookupswitch.offset_cons, if_neg (sw_ne (v := 110) (by decide) c1)]; rw [Op.lookupswitch.offset_cons, if_neg (sw_ne (v := 114) (by decide) c2)]; rw [Op.lookupswitch.offset_cons, if_neg (sw_ne (v := 116) (by decide) c3)]; rfl) (by decide) ?_
  refine lv_iload_n hx hb dX1_characterFor_45 rfl (lv_at hl 0 rfl) ?_
  refine lv_i2c hx hb dX1_characterFor_46 rfl ?_
  exact hret ((z1 : Int32).toUInt32 % 65536).toInt32 _ _ hw.2 hw.1 dX1_characterFor_47
abbrev rm_X1_digitNumber : Room := { frames := 0, cells := 0, slots := 0, locals := 0 }
set_option maxHeartbeats 4000000 in
set_option maxRecDepth 100000 in
theorem k_X1_digitNumber {l : Launch} (post : Int32 → Prop) (z1 : Int32) (hw : q_X1_digitNumber post z1) : gMs l yX1_digitNumber wsX1_digitNumber rm_X1_digitNumber [.int z1] post := by
  refine gMs_of (cc := cX1_digitNumber) (nL := 1) (ty := .int) (own := RX1) (by decide) rfl rfl (Nat.le_of_ble_eq_true rfl) ?_
  intro p e s m args below meth c Q hx hb hml ho hts hret ls hl
  rw [q_X1_digitNumber] at hw
  refine lv_iload_n hx hb dX1_digitNumber_0 rfl (lv_at hl 0 rfl) ?_
  refine lv_bipush (v := 48) hx hb dX1_digitNumber_1 (by decide) ?_
  refine lv_icmp_lt (tgt := 17) hx hb dX1_digitNumber_3 (by decide) (fun c1 => ?_) (fun c1 => ?_)
  · replace hw := hw.1 c1
    refine lv_iload_n hx hb dX1_digitNumber_17 rfl (lv_at hl 0 rfl) ?_
    refine lv_bipush (v := 97) hx hb dX1_digitNumber_18 (by decide) ?_
    refine lv_icmp_lt (tgt := 37) hx hb dX1_digitNumber_20 (by decide) (fun c2 => ?_) (fun c2 => ?_)
    · replace hw := hw.1 c2
      refine lv_iload_n hx hb dX1_digitNumber_37 rfl (lv_at hl 0 rfl) ?_
      refine lv_bipush (v := 65) hx hb dX1_digitNumber_38 (by decide) ?_
      refine lv_icmp_lt (tgt := 57) hx hb dX1_digitNumber_40 (by decide) (fun c3 => ?_) (fun c3 => ?_)
      · replace hw := hw.1 c3
        refine lv_iconst (v := (-1)) hx hb dX1_digitNumber_57 (by decide) ?_
        exact hret (-1) _ _ hw rfl dX1_digitNumber_58
      · replace hw := hw.2 c3
        refine lv_iload_n hx hb dX1_digitNumber_43 rfl (lv_at hl 0 rfl) ?_
        refine lv_bipush (v := 70) hx hb dX1_digitNumber_44 (by decide) ?_
        refine lv_icmp_gt (tgt := 57) hx hb dX1_digitNumber_46 (by decide) (fun c4 => ?_) (fun c4 => ?_)
        · replace hw := hw.1 c4
          refine lv_iconst (v := (-1)) hx hb dX1_digitNumber_57 (by decide) ?_
          exact hret (-1) _ _ hw rfl dX1_digitNumber_58
        · replace hw := hw.2 c4
          refine lv_iload_n hx hb dX1_digitNumber_49 rfl (lv_at hl 0 rfl) ?_
          refine lv_bipush (v := 65) hx hb dX1_digitNumber_50 (by decide) ?_
          refine lv_isub hx hb dX1_digitNumber_52 ?_
          refine lv_bipush (v := 10) hx hb dX1_digitNumber_53 (by decide) ?_
          refine lv_iadd hx hb dX1_digitNumber_55 ?_
          exact hret ((z1 - 65) + 10) _ _ hw rfl dX1_digitNumber_56
    · replace hw := hw.2 c2
      refine lv_iload_n hx hb dX1_digitNumber_23 rfl (lv_at hl 0 rfl) ?_
      refine lv_bipush (v := 102) hx hb dX1_digitNumber_24 (by decide) ?_
      refine lv_icmp_gt (tgt := 37) hx hb dX1_digitNumber_26 (by decide) (fun c5 => ?_) (fun c5 => ?_)
      · replace hw := hw.1 c5
        refine lv_iload_n hx hb dX1_digitNumber_37 rfl (lv_at hl 0 rfl) ?_
        refine lv_bipush (v := 65) hx hb dX1_digitNumber_38 (by decide) ?_
        refine lv_icmp_lt (tgt := 57) hx hb dX1_digitNumber_40 (by decide) (fun c6 => ?_) (fun c6 => ?_)
        · replace hw := hw.1 c6
          refine lv_iconst (v := (-1)) hx hb dX1_digitNumber_57 (by decide) ?_
          exact hret (-1) _ _ hw rfl dX1_digitNumber_58
        · replace hw := hw.2 c6
          refine lv_iload_n hx hb dX1_digitNumber_43 rfl (lv_at hl 0 rfl) ?_
          refine lv_bipush (v := 70) hx hb dX1_digitNumber_44 (by decide) ?_
          refine lv_icmp_gt (tgt := 57) hx hb dX1_digitNumber_46 (by decide) (fun c7 => ?_) (fun c7 => ?_)
          · replace hw := hw.1 c7
            refine lv_iconst (v := (-1)) hx hb dX1_digitNumber_57 (by decide) ?_
            exact hret (-1) _ _ hw rfl dX1_digitNumber_58
          · replace hw := hw.2 c7
            refine lv_iload_n hx hb dX1_digitNumber_49 rfl (lv_at hl 0 rfl) ?_
            refine lv_bipush (v := 65) hx hb dX1_digitNumber_50 (by decide) ?_
            refine lv_isub hx hb dX1_digitNumber_52 ?_
            refine lv_bipush (v := 10) hx hb dX1_digitNumber_53 (by decide) ?_
            refine lv_iadd hx hb dX1_digitNumber_55 ?_
            exact hret ((z1 - 65) + 10) _ _ hw rfl dX1_digitNumber_56
      · replace hw := hw.2 c5
        refine lv_iload_n hx hb dX1_digitNumber_29 rfl (lv_at hl 0 rfl) ?_
        refine lv_bipush (v := 97) hx hb dX1_digitNumber_30 (by decide) ?_
        refine lv_isub hx hb dX1_digitNumber_32 ?_
        refine lv_bipush (v := 10) hx hb dX1_digitNumber_33 (by decide) ?_
        refine lv_iadd hx hb dX1_digitNumber_35 ?_
        exact hret ((z1 - 97) + 10) _ _ hw rfl dX1_digitNumber_36
  · replace hw := hw.2 c1
    refine lv_iload_n hx hb dX1_digitNumber_6 rfl (lv_at hl 0 rfl) ?_
    refine lv_bipush (v := 57) hx hb dX1_digitNumber_7 (by decide) ?_
    refine lv_icmp_gt (tgt := 17) hx hb dX1_digitNumber_9 (by decide) (fun c8 => ?_) (fun c8 => ?_)
    · replace hw := hw.1 c8
      refine lv_iload_n hx hb dX1_digitNumber_17 rfl (lv_at hl 0 rfl) ?_
      refine lv_bipush (v := 97) hx hb dX1_digitNumber_18 (by decide) ?_
      refine lv_icmp_lt (tgt := 37) hx hb dX1_digitNumber_20 (by decide) (fun c9 => ?_) (fun c9 => ?_)
      · replace hw := hw.1 c9
        refine lv_iload_n hx hb dX1_digitNumber_37 rfl (lv_at hl 0 rfl) ?_
        refine lv_bipush (v := 65) hx hb dX1_digitNumber_38 (by decide) ?_
        refine lv_icmp_lt (tgt := 57) hx hb dX1_digitNumber_40 (by decide) (fun c10 => ?_) (fun c10 => ?_)
        · replace hw := hw.1 c10
          refine lv_iconst (v := (-1)) hx hb dX1_digitNumber_57 (by decide) ?_
          exact hret (-1) _ _ hw rfl dX1_digitNumber_58
        · replace hw := hw.2 c10
          refine lv_iload_n hx hb dX1_digitNumber_43 rfl (lv_at hl 0 rfl) ?_
          refine lv_bipush (v := 70) hx hb dX1_digitNumber_44 (by decide) ?_
          refine lv_icmp_gt (tgt := 57) hx hb dX1_digitNumber_46 (by decide) (fun c11 => ?_) (fun c11 => ?_)
          · replace hw := hw.1 c11
            refine lv_iconst (v := (-1)) hx hb dX1_digitNumber_57 (by decide) ?_
            exact hret (-1) _ _ hw rfl dX1_digitNumber_58
          · replace hw := hw.2 c11
            refine lv_iload_n hx hb dX1_digitNumber_49 rfl (lv_at hl 0 rfl) ?_
            refine lv_bipush (v := 65) hx hb dX1_digitNumber_50 (by decide) ?_
            refine lv_isub hx hb dX1_digitNumber_52 ?_
            refine lv_bipush (v := 10) hx hb dX1_digitNumber_53 (by decide) ?_
            refine lv_iadd hx hb dX1_digitNumber_55 ?_
            exact hret ((z1 - 65) + 10) _ _ hw rfl dX1_digitNumber_56
      · replace hw := hw.2 c9
        refine lv_iload_n hx hb dX1_digitNumber_23 rfl (lv_at hl 0 rfl) ?_
        refine lv_bipush (v := 102) hx hb dX1_digitNumber_24 (by decide) ?_
        refine lv_icmp_gt (tgt := 37) hx hb dX1_digitNumber_26 (by decide) (fun c12 => ?_) (fun c12 => ?_)
        · replace hw := hw.1 c12
          refine lv_iload_n hx hb dX1_digitNumber_37 rfl (lv_at hl 0 rfl) ?_
          refine lv_bipush (v := 65) hx hb dX1_digitNumber_38 (by decide) ?_
          refine lv_icmp_lt (tgt := 57) hx hb dX1_digitNumber_40 (by decide) (fun c13 => ?_) (fun c13 => ?_)
          · replace hw := hw.1 c13
            refine lv_iconst (v := (-1)) hx hb dX1_digitNumber_57 (by decide) ?_
            exact hret (-1) _ _ hw rfl dX1_digitNumber_58
          · replace hw := hw.2 c13
            refine lv_iload_n hx hb dX1_digitNumber_43 rfl (lv_at hl 0 rfl) ?_
            refine lv_bipush (v := 70) hx hb dX1_digitNumber_44 (by decide) ?_
            refine lv_icmp_gt (tgt := 57) hx hb dX1_digitNumber_46 (by decide) (fun c14 => ?_) (fun c14 => ?_)
            · replace hw := hw.1 c14
              refine lv_iconst (v := (-1)) hx hb dX1_digitNumber_57 (by decide) ?_
              exact hret (-1) _ _ hw rfl dX1_digitNumber_58
            · replace hw := hw.2 c14
              refine lv_iload_n hx hb dX1_digitNumber_49 rfl (lv_at hl 0 rfl) ?_
              refine lv_bipush (v := 65) hx hb dX1_digitNumber_50 (by decide) ?_
              refine lv_isub hx hb dX1_digitNumber_52 ?_
              refine lv_bipush (v := 10) hx hb dX1_digitNumber_53 (by decide) ?_
              refine lv_iadd hx hb dX1_digitNumber_55 ?_
              exact hret ((z1 - 65) + 10) _ _ hw rfl dX1_digitNumber_56
        · replace hw := hw.2 c12
          refine lv_iload_n hx hb dX1_digitNumber_29 rfl (lv_at hl 0 rfl) ?_
          refine lv_bipush (v := 97) hx hb dX1_digitNumber_30 (by decide) ?_
          refine lv_isub hx hb dX1_digitNumber_32 ?_
          refine lv_bipush (v := 10) hx hb dX1_digitNumber_33 (by decide) ?_
          refine lv_iadd hx hb dX1_digitNumber_35 ?_
          exact hret ((z1 - 97) + 10) _ _ hw rfl dX1_digitNumber_36
    · replace hw := hw.2 c8
      refine lv_iload_n hx hb dX1_digitNumber_12 rfl (lv_at hl 0 rfl) ?_
      refine lv_bipush (v := 48) hx hb dX1_digitNumber_13 (by decide) ?_
      refine lv_isub hx hb dX1_digitNumber_15 ?_
      exact hret (z1 - 48) _ _ hw rfl dX1_digitNumber_16
abbrev rm_X2_init : Room := { frames := 1, cells := 0, slots := 0, locals := 12 }
theorem in_X2_init_RX2 : ∀ w ∈ wsX20, w ∈ wsX2_init := fun w hw9 => List.mem_cons_of_mem _ (List.mem_append_right _ hw9)
set_option maxHeartbeats 4000000 in
set_option maxRecDepth 100000 in
theorem t_X2_init_0 (C0 : hX p s m args c cX2_init 4 RX2 wsX2_init D (gt u.2.1) A u.1 u.2.2) (hin : yX2_init.name = "<init>" → meth.name = "<init>") (t0 : Nat) (post : hS → Prop) (hret : ∀ (S' : hS) (pc : Nat) (lv : List (Nat × Value)) (k n : Nat), k ≤ 0 → n ≤ 0 → post S' → decode cX2_init pc = .ok (.return_, 1) → gG p l e (rm_X2_init) s m args below meth c Q D A 4 k n (hC X S') pc lv [])  : ∀ (p1 : Option Nat) (p2 : Option Nat) (p3 : Option Nat) (S : hS), w_X2_init u post t0  p1 p2 p3 S → gG p l e (rm_X2_init) s m args below meth c Q D A 4 0 0 (hC X S) 0 [(0, .ref t0), (1, va_rf p1), (2, va_rf p2), (3, va_rf p3)] [] := by
  obtain ⟨⟨hx, hb, hml, ho, hts, hK, hA⟩, hR⟩ := id C0
  intro p1 p2 p3 S hw H locs ls hW hl
  rw [w_X2_init] at hw
  refine lv_aload_n hx hb dX2_init_0 rfl (lv_at hl 0 rfl) ?_
  refine W.objInit hx hb ho (hts (.methodLink RX2 1 objectInit) (List.mem_of_getElem? (i := 1) rfl)) (hts (.instanceMethod objectInit) (List.mem_of_getElem? (i := 2) rfl)) (hts (.code objectInit ⟨#[0xb1]⟩ 1 none) (List.mem_of_getElem? (i := 3) rfl)) rfl (by rw [hml]; exact hl.1) rfl dX2_init_1 (Nat.le_of_ble_eq_true rfl) (Nat.le_of_ble_eq_true rfl) ?_
  refine W.eq (g2 := F0 m 4 ls []) rfl ?_
  refine lv_aload_n hx hb dX2_init_4 rfl (lv_at hl 0 rfl) ?_
  refine lv_aloadV_n hx hb dX2_init_5 rfl (lv_at hl 1 rfl) ?_
  obtain ⟨fs1, h2, h3, hw⟩ := hw
  refine h_put C0 hW (T := TX2) (kf := 0) (ty := .object "java/lang/String") in_X2_init_RX2 h2 rfl (by decide) h3 tyX2 tyX2_ok nmX2 (List.mem_of_getElem? (i := 4) rfl) rfl (Or.inr ⟨rfl, hin rfl, rfl⟩) (by decide +kernel) (by cases p1 <;> rfl) (by cases p1 <;> rfl) dX2_init_6 (va_rf_cat _) (fun H locs hW => ?_)
  obtain ⟨S4, eS4⟩ : ∃ z : hS, z = upS S t0 (.inr (3, fs1.set 0 (va_rf p1))) := ⟨_, rfl⟩
  rw [← eS4] at hW
  replace hw := hw S4 eS4
  refine lv_aload_n hx hb dX2_init_9 rfl (lv_at hl 0 rfl) ?_
  refine lv_aloadV_n hx hb dX2_init_10 rfl (lv_at hl 2 rfl) ?_
  obtain ⟨fs5, h6, h7, hw⟩ := hw
  refine h_put C0 hW (T := TX2) (kf := 1) (ty := .object "java/lang/String") in_X2_init_RX2 h6 rfl (by decide) h7 tyX2 tyX2_ok nmX2 (List.mem_of_getElem? (i := 5) rfl) rfl (Or.inr ⟨rfl, hin rfl, rfl⟩) (by decide +kernel) (by cases p2 <;> rfl) (by cases p2 <;> rfl) dX2_init_11 (va_rf_cat _) (fun H locs hW => ?_)
  obtain ⟨S8, eS8⟩ : ∃ z : hS, z = upS S4 t0 (.inr (3, fs5.set 1 (va_rf p2))) := ⟨_, rfl⟩
  rw [← eS8] at hW
  replace hw := hw S8 eS8
  refine lv_aload_n hx hb dX2_init_14 rfl (lv_at hl 0 rfl) ?_
  refine lv_aloadV_n hx hb dX2_init_15 rfl (lv_at hl 3 rfl) ?_
  obtain ⟨fs9, h10, h11, hw⟩ := hw
  refine h_put C0 hW (T := TX2) (kf := 2) (ty := .object "java/lang/String") in_X2_init_RX2 h10 rfl (by decide) h11 tyX2 tyX2_ok nmX2 (List.mem_of_getElem? (i := 6) rfl) rfl (Or.inr ⟨rfl, hin rfl, rfl⟩) (by decide +kernel) (by cases p3 <;> rfl) (by cases p3 <;> rfl) dX2_init_16 (va_rf_cat _) (fun H locs hW => ?_)
  obtain ⟨S12, eS12⟩ : ∃ z : hS, z = upS S8 t0 (.inr (3, fs9.set 2 (va_rf p3))) := ⟨_, rfl⟩
  rw [← eS12] at hW
  replace hw := hw S12 eS12
  exact hret S12 _ _ 0 0 (Nat.le_refl _) (Nat.le_refl _) hw dX2_init_19 _ _ _ hW hl
set_option maxHeartbeats 4000000 in
set_option maxRecDepth 100000 in
theorem k_X2_init {l : Launch} {D : va_G} {u : hU} {X : va_W} {sz : Nat} (post : hS → Prop) (t0 : Nat) (p1 : Option Nat) (p2 : Option Nat) (p3 : Option Nat) (S : hS) (hw : w_X2_init u post t0 p1 p2 p3 S) : hMv l yX2_init wsX2_init rm_X2_init D (gt u.2.1) u.1 u.2.2 sz X S [.ref t0, va_rf p1, va_rf p2, va_rf p3] post 0 0 := by
  refine hMv_of (cc := cX2_init) (nL := 4) (own := RX2) (by decide) rfl rfl (by cases p1 <;> cases p2 <;> cases p3 <;> exact Nat.le_of_ble_eq_true rfl) ?_
  intro p e s m args below meth c A Q C0 hin hret
  have hfin := t_X2_init_0 C0 hin t0 post hret p1 p2 p3 S hw
  intro H locs ls hW hl
  refine hfin H locs ls hW ?_
  cases p1 <;> cases p2 <;> cases p3 <;> exact hl
abbrev rm_X2_resultLength : Room := { frames := 2, cells := 0, slots := 0, locals := 40 }
theorem in_X2_resultLength_RX2 : ∀ w ∈ wsX20, w ∈ wsX2_resultLength := fun w hw9 => List.mem_cons_of_mem _ (List.mem_append_left _ (List.mem_append_right _ hw9))
set_option maxHeartbeats 4000000 in
set_option maxRecDepth 100000 in
theorem t_X2_resultLength_0 (C0 : hX p s m args c cX2_resultLength 1 RX2 wsX2_resultLength D (gt u.2.1) A u.1 u.2.2) {S : hS} (t0 : Nat) (post : Int32 → Prop) (hret : ∀ (r : Int32) (S' : hS) (pc : Nat) (lv : List (Nat × Value)) (k n : Nat), k ≤ 0 → n ≤ 0 → (S' = S ∧ post r) → narrow .int (.int r) = .int r → decode cX2_resultLength pc = .ok (.ireturn, 1) → gG p l e (rm_X2_resultLength) s m args below meth c Q D A 1 k n (hC X S') pc lv [.int r])  : w_X2_resultLength u post t0   S → gG p l e (rm_X2_resultLength) s m args below meth c Q D A 1 0 0 (hC X S) 0 [(0, .ref t0)] [] := by
  obtain ⟨⟨hx, hb, hml, ho, hts, hK, hA⟩, hR⟩ := id C0
  intro  hw H locs ls hW hl
  rw [w_X2_resultLength] at hw
  refine lv_aload_n hx hb dX2_resultLength_0 rfl (lv_at hl 0 rfl) ?_
  obtain ⟨o1, h2, hw⟩ := hw
  refine h_getR C0 hW (T := TX2) (kf := 3) in_X2_resultLength_RX2 h2 rfl (by decide) (List.mem_of_getElem? (i := 1) rfl) rfl dX2_resultLength_1 ?_
  refine lv_ifnullV (tgt := 31) hx hb dX2_resultLength_4 (by decide) (fun c3 => ?_) (fun a4 c3 => ?_)
  · subst c3
    replace hw := hw.1 rfl
    refine lv_aload_n hx hb dX2_resultLength_31 rfl (lv_at hl 0 rfl) ?_
    obtain ⟨o5, h6, hw⟩ := hw
    refine h_getR C0 hW (T := TX2) (kf := 4) in_X2_resultLength_RX2 h6 rfl (by decide) (List.mem_of_getElem? (i := 4) rfl) rfl dX2_resultLength_32 ?_
    refine lv_ifnullV (tgt := 48) hx hb dX2_resultLength_35 (by decide) (fun c7 => ?_) (fun a8 c7 => ?_)
    · subst c7
      replace hw := hw.1 rfl
      refine lv_aload_n hx hb dX2_resultLength_48 rfl (lv_at hl 0 rfl) ?_
      obtain ⟨o9, h10, hw⟩ := hw
      refine h_getR C0 hW (T := TX2) (kf := 1) in_X2_resultLength_RX2 h10 rfl (by decide) (List.mem_of_getElem? (i := 2) rfl) rfl dX2_resultLength_49 ?_
      obtain ⟨a11, rfl, hw⟩ := hw
      obtain ⟨h13, hw⟩ := hw
      refine h_goi C0 hW (va_runV (As := []) (rest := []) ⟨hx, hb, hml, ho, hts⟩ (k_J0_length_8a (l := l) (u := u) (X := X) (sz := H.size) _ a11  S  hw) (cwV 0 hts gX2_resultLength_J0_length_8abf5 rfl rfl rfl (by decide +kernel) ⟨Nat.le_of_ble_eq_true rfl, Nat.le_of_ble_eq_true rfl⟩) ⟨h_blind, (h_recvS C0 hW h13), (h_pre C0 hW [.ref a11])⟩ rfl rfl hl.1 rfl (lv_room (Nat.le_of_ble_eq_true rfl)) dX2_resultLength_52 ⟨Nat.le_refl _, Nat.le_refl _⟩) (fun r12 S14 H locs h15 hW => ?_)
      obtain ⟨h16, hp⟩ := h15
      rw [h16] at hW
      replace hw := hp
      refine lv_aload_n hx hb dX2_resultLength_55 rfl (lv_at hl 0 rfl) ?_
      obtain ⟨o17, h18, hw⟩ := hw
      refine h_getR C0 hW (T := TX2) (kf := 2) in_X2_resultLength_RX2 h18 rfl (by decide) (List.mem_of_getElem? (i := 3) rfl) rfl dX2_resultLength_56 ?_
      obtain ⟨a19, rfl, hw⟩ := hw
      obtain ⟨h21, hw⟩ := hw
      refine h_goi C0 hW (va_runV (As := []) (rest := [.int r12]) ⟨hx, hb, hml, ho, hts⟩ (k_J0_length_8a (l := l) (u := u) (X := X) (sz := H.size) _ a19  S  hw) (cwV 0 hts gX2_resultLength_J0_length_8abf5 rfl rfl rfl (by decide +kernel) ⟨Nat.le_of_ble_eq_true rfl, Nat.le_of_ble_eq_true rfl⟩) ⟨h_blind, (h_recvS C0 hW h21), (h_pre C0 hW [.ref a19])⟩ rfl rfl hl.1 rfl (lv_room (Nat.le_of_ble_eq_true rfl)) dX2_resultLength_59 ⟨Nat.le_refl _, Nat.le_refl _⟩) (fun r20 S22 H locs h23 hW => ?_)
      obtain ⟨h24, hp⟩ := h23
      rw [h24] at hW
      replace hw := hp
      refine lv_iadd hx hb dX2_resultLength_62 ?_
      exact hret (r12 + r20) S _ _ 0 0 (Nat.le_refl _) (Nat.le_refl _) ⟨rfl, hw⟩ rfl dX2_resultLength_63 _ _ _ hW hl
    · subst c7
      replace hw := hw.2 a8 rfl
      refine lv_aload_n hx hb dX2_resultLength_38 rfl (lv_at hl 0 rfl) ?_
      obtain ⟨o25, h26, hw⟩ := hw
      refine h_getR C0 hW (T := TX2) (kf := 4) in_X2_resultLength_RX2 h26 rfl (by decide) (List.mem_of_getElem? (i := 4) rfl) rfl dX2_resultLength_39 ?_
      obtain ⟨a27, rfl, hw⟩ := hw
      obtain ⟨h29, hw⟩ := hw
      refine h_goi C0 hW (va_runV (As := []) (rest := []) ⟨hx, hb, hml, ho, hts⟩ (k_J0_length_8a (l := l) (u := u) (X := X) (sz := H.size) _ a27  S  hw) (cwV 0 hts gX2_resultLength_J0_length_8abf5 rfl rfl rfl (by decide +kernel) ⟨Nat.le_of_ble_eq_true rfl, Nat.le_of_ble_eq_true rfl⟩) ⟨h_blind, (h_recvS C0 hW h29), (h_pre C0 hW [.ref a27])⟩ rfl rfl hl.1 rfl (lv_room (Nat.le_of_ble_eq_true rfl)) dX2_resultLength_42 ⟨Nat.le_refl _, Nat.le_refl _⟩) (fun r28 S30 H locs h31 hW => ?_)
      obtain ⟨h32, hp⟩ := h31
      rw [h32] at hW
      replace hw := hp
      refine lv_goto (tgt := 63) hx hb dX2_resultLength_45 (by decide) ?_
      exact hret r28 S _ _ 0 0 (Nat.le_refl _) (Nat.le_refl _) ⟨rfl, hw⟩ rfl dX2_resultLength_63 _ _ _ hW hl
  · subst c3
    replace hw := hw.2 a4 rfl
    refine lv_aload_n hx hb dX2_resultLength_7 rfl (lv_at hl 0 rfl) ?_
    obtain ⟨o33, h34, hw⟩ := hw
    refine h_getR C0 hW (T := TX2) (kf := 1) in_X2_resultLength_RX2 h34 rfl (by decide) (List.mem_of_getElem? (i := 2) rfl) rfl dX2_resultLength_8 ?_
    obtain ⟨a35, rfl, hw⟩ := hw
    obtain ⟨h37, hw⟩ := hw
    refine h_goi C0 hW (va_runV (As := []) (rest := []) ⟨hx, hb, hml, ho, hts⟩ (k_J0_length_8a (l := l) (u := u) (X := X) (sz := H.size) _ a35  S  hw) (cwV 0 hts gX2_resultLength_J0_length_8abf5 rfl rfl rfl (by decide +kernel) ⟨Nat.le_of_ble_eq_true rfl, Nat.le_of_ble_eq_true rfl⟩) ⟨h_blind, (h_recvS C0 hW h37), (h_pre C0 hW [.ref a35])⟩ rfl rfl hl.1 rfl (lv_room (Nat.le_of_ble_eq_true rfl)) dX2_resultLength_11 ⟨Nat.le_refl _, Nat.le_refl _⟩) (fun r36 S38 H locs h39 hW => ?_)
    obtain ⟨h40, hp⟩ := h39
    rw [h40] at hW
    replace hw := hp
    refine lv_aload_n hx hb dX2_resultLength_14 rfl (lv_at hl 0 rfl) ?_
    obtain ⟨o41, h42, hw⟩ := hw
    refine h_getR C0 hW (T := TX2) (kf := 3) in_X2_resultLength_RX2 h42 rfl (by decide) (List.mem_of_getElem? (i := 1) rfl) rfl dX2_resultLength_15 ?_
    obtain ⟨a43, rfl, hw⟩ := hw
    obtain ⟨h45, hw⟩ := hw
    refine h_goi C0 hW (va_runV (As := []) (rest := [.int r36]) ⟨hx, hb, hml, ho, hts⟩ (k_J0_length_8a (l := l) (u := u) (X := X) (sz := H.size) _ a43  S  hw) (cwV 0 hts gX2_resultLength_J0_length_8abf5 rfl rfl rfl (by decide +kernel) ⟨Nat.le_of_ble_eq_true rfl, Nat.le_of_ble_eq_true rfl⟩) ⟨h_blind, (h_recvS C0 hW h45), (h_pre C0 hW [.ref a43])⟩ rfl rfl hl.1 rfl (lv_room (Nat.le_of_ble_eq_true rfl)) dX2_resultLength_18 ⟨Nat.le_refl _, Nat.le_refl _⟩) (fun r44 S46 H locs h47 hW => ?_)
    obtain ⟨h48, hp⟩ := h47
    rw [h48] at hW
    replace hw := hp
    refine lv_iadd hx hb dX2_resultLength_21 ?_
    refine lv_aload_n hx hb dX2_resultLength_22 rfl (lv_at hl 0 rfl) ?_
    obtain ⟨o49, h50, hw⟩ := hw
    refine h_getR C0 hW (T := TX2) (kf := 2) in_X2_resultLength_RX2 h50 rfl (by decide) (List.mem_of_getElem? (i := 3) rfl) rfl dX2_resultLength_23 ?_
    obtain ⟨a51, rfl, hw⟩ := hw
    obtain ⟨h53, hw⟩ := hw
    refine h_goi C0 hW (va_runV (As := []) (rest := [.int (r36 + r44)]) ⟨hx, hb, hml, ho, hts⟩ (k_J0_length_8a (l := l) (u := u) (X := X) (sz := H.size) _ a51  S  hw) (cwV 0 hts gX2_resultLength_J0_length_8abf5 rfl rfl rfl (by decide +kernel) ⟨Nat.le_of_ble_eq_true rfl, Nat.le_of_ble_eq_true rfl⟩) ⟨h_blind, (h_recvS C0 hW h53), (h_pre C0 hW [.ref a51])⟩ rfl rfl hl.1 rfl (lv_room (Nat.le_of_ble_eq_true rfl)) dX2_resultLength_26 ⟨Nat.le_refl _, Nat.le_refl _⟩) (fun r52 S54 H locs h55 hW => ?_)
    obtain ⟨h56, hp⟩ := h55
    rw [h56] at hW
    replace hw := hp
    refine lv_iadd hx hb dX2_resultLength_29 ?_
    exact hret ((r36 + r44) + r52) S _ _ 0 0 (Nat.le_refl _) (Nat.le_refl _) ⟨rfl, hw⟩ rfl dX2_resultLength_30 _ _ _ hW hl
set_option maxHeartbeats 4000000 in
set_option maxRecDepth 100000 in
theorem k_X2_resultLength {l : Launch} {D : va_G} {u : hU} {X : va_W} {sz : Nat} (post : Int32 → Prop) (t0 : Nat) (S : hS) (hw : w_X2_resultLength u post t0  S) : hMi l yX2_resultLength wsX2_resultLength rm_X2_resultLength D (gt u.2.1) u.1 u.2.2 sz X S [.ref t0] (fun r S' => S' = S ∧ post r) 0 0 := by
  refine hMi_of (cc := cX2_resultLength) (nL := 1) (ty := .int) (own := RX2) (by decide) rfl rfl (Nat.le_of_ble_eq_true rfl) ?_
  intro p e s m args below meth c A Q C0 hin hret
  exact t_X2_resultLength_0 C0 t0 post hret  hw
abbrev rm_X2_together (MC MS : Nat) : Room := { frames := 6, cells := MC, slots := MS, locals := 132 }
theorem in_X2_together_RJ4 : ∀ w ∈ wsJ40, w ∈ wsX2_together := fun w hw9 => List.mem_cons_of_mem _ (List.mem_append_left _ (List.mem_append_right _ hw9))
set_option maxHeartbeats 4000000 in
set_option maxRecDepth 100000 in
theorem t_X2_together_0 (C0 : hX p s m args c cX2_together 4 RX2 wsX2_together D (gt u.2.1) A u.1 u.2.2)  (post : Option Nat → hS → Prop) (hret : ∀ (r : Option Nat) (S' : hS) (pc : Nat) (lv : List (Nat × Value)) (k n : Nat), k ≤ MC → n ≤ MS → post r S' → decode cX2_together pc = .ok (.areturn, 1) → gG p l e (rm_X2_together MC MS) s m args below meth c Q D A 4 k n (hC X S') pc lv [va_rf r])  : ∀ (p1 : Option Nat) (p2 : Option Nat) (p3 : Option Nat) (S : hS) (mc ms k n : Nat), k + mc ≤ MC ∧ n + ms ≤ MS → w_X2_together u post   p1 p2 p3 S mc ms → gG p l e (rm_X2_together MC MS) s m args below meth c Q D A 4 k n (hC X S) 0 [(0, va_rf p1), (1, va_rf p2), (2, va_rf p3)] [] := by
  obtain ⟨⟨hx, hb, hml, ho, hts, hK, hA⟩, hR⟩ := id C0
  intro p1 p2 p3 S mc ms k n hkn hw H locs ls hW hl
  rw [w_X2_together] at hw
  obtain ⟨h4, h5, hw⟩ := hw
  refine h_new C0 hW (ci := 1) (fs := [.null, .int 0, .int 0, .int 0]) in_X2_together_RJ4 rfl tyJ4 tyJ4_ok (List.mem_of_getElem? (i := 1) rfl) (List.mem_of_getElem? (i := 2) rfl) (List.mem_of_getElem? (i := 3) rfl) (fun j hj => by rcases (show j = 0 ∨ j = 1 ∨ j = 2 ∨ j = 3 by omega) with rfl | rfl | rfl | rfl <;> rfl) (by show _ ≤ MC; omega) (by show _ ≤ MS; omega) dX2_together_0 (fun q1 H h2 hW => ?_)
  obtain ⟨S3, eS3⟩ : ∃ z : hS, z = adS S q1 (.inr (1, [.null, .int 0, .int 0, .int 0])) := ⟨_, rfl⟩
  rw [← eS3] at hW
  replace hw := hw q1 S3 h2 eS3
  have hkn : (k + 1) + (mc - 1) ≤ MC ∧ (n + 4) + (ms - 4) ≤ MS := by omega
  refine lv_dup hx hb dX2_together_3 rfl ?_
  obtain ⟨k7, n8, h9, h10, hw⟩ := hw
  refine h_gov C0 hW (va_runI (As := []) (rest := [.ref q1]) ⟨hx, hb, hml, ho, hts⟩ (k_J4_init_da (l := l) (u := u) (X := X) (sz := H.size) _ q1  S3 k7 n8 hw) (cwI 0 hts gX2_together_J4_init_da8c8 rfl rfl rfl (hts _ (List.mem_of_getElem? (i := 3) rfl)) (hts _ (List.mem_of_getElem? (i := 4) rfl)) (hts _ (List.mem_of_getElem? (i := 5) rfl)) rfl (by decide +kernel) ⟨Nat.le_of_ble_eq_true rfl, Nat.le_of_ble_eq_true rfl⟩) ⟨h_blind, (h_pre C0 hW [.ref q1])⟩ rfl rfl hl.1 rfl (lv_room (Nat.le_of_ble_eq_true rfl)) dX2_together_4 ⟨by show _ ≤ MC; omega, by show _ ≤ MS; omega⟩) (fun S11 H locs h12 hW => ?_)
  replace hw := h12
  have hkn : ((k + 1) + k7) + ((mc - 1) - k7) ≤ MC ∧ ((n + 4) + n8) + ((ms - 4) - n8) ≤ MS := by omega
  refine lv_astore_n (i := 3) (lv' := [(3, .ref q1), (0, va_rf p1), (1, va_rf p2), (2, va_rf p3)]) hx hb dX2_together_7 rfl hl (by decide) (by show (3, .ref q1) :: List.filter (fun q : Nat × Value => !(q.1 == 3) && !(q.1 + 1 == 3 && q.2.category == 2)) [(0, va_rf p1), (1, va_rf p2), (2, va_rf p3)] = [(3, .ref q1), (0, va_rf p1), (1, va_rf p2), (2, va_rf p3)]; simp [va_rf_cat, va_c_ref, va_c_int, va_c_null]) (fun ls hl9 => ?_)
  replace hl := hl9
  refine lv_aload_n hx hb dX2_together_8 rfl (lv_at hl 0 rfl) ?_
  refine lv_aloadV_n hx hb dX2_together_9 rfl (lv_at hl 1 rfl) ?_
  obtain ⟨h18, k14, n15, h16, h17, hw⟩ := hw
  refine h_goq C0 hW (va_runV (As := [va_rf p1]) (rest := []) ⟨hx, hb, hml, ho, hts⟩ (k_J4_append_15 (l := l) (u := u) (X := X) (sz := H.size) _ q1 p1 S11 k14 n15 hw) (cwV 1 hts gX2_together_J4_append_15ec4 rfl rfl rfl (by decide +kernel) ⟨Nat.le_of_ble_eq_true rfl, Nat.le_of_ble_eq_true rfl⟩) ⟨h_blind, (h_recv C0 hW (ci := 1) rfl h18), (h_pre C0 hW [.ref q1, va_rf p1])⟩ rfl rfl hl.1 rfl (lv_room (Nat.le_of_ble_eq_true rfl)) dX2_together_10 ⟨by show _ ≤ MC; omega, by show _ ≤ MS; omega⟩) (fun r13 S19 H locs h20 hW => ?_)
  replace hw := h20
  have hkn : (((k + 1) + k7) + k14) + (((mc - 1) - k7) - k14) ≤ MC ∧ (((n + 4) + n8) + n15) + (((ms - 4) - n8) - n15) ≤ MS := by omega
  refine lv_pop hx hb dX2_together_13 (va_rf_cat _) ?_
  refine lv_aload_n hx hb dX2_together_14 rfl (lv_at hl 0 rfl) ?_
  refine lv_aloadV_n hx hb dX2_together_15 rfl (lv_at hl 2 rfl) ?_
  obtain ⟨h26, k22, n23, h24, h25, hw⟩ := hw
  refine h_goq C0 hW (va_runV (As := [va_rf p2]) (rest := []) ⟨hx, hb, hml, ho, hts⟩ (k_J4_append_15 (l := l) (u := u) (X := X) (sz := H.size) _ q1 p2 S19 k22 n23 hw) (cwV 1 hts gX2_together_J4_append_15ec4 rfl rfl rfl (by decide +kernel) ⟨Nat.le_of_ble_eq_true rfl, Nat.le_of_ble_eq_true rfl⟩) ⟨h_blind, (h_recv C0 hW (ci := 1) rfl h26), (h_pre C0 hW [.ref q1, va_rf p2])⟩ rfl rfl hl.1 rfl (lv_room (Nat.le_of_ble_eq_true rfl)) dX2_together_16 ⟨by show _ ≤ MC; omega, by show _ ≤ MS; omega⟩) (fun r21 S27 H locs h28 hW => ?_)
  replace hw := h28
  have hkn : ((((k + 1) + k7) + k14) + k22) + ((((mc - 1) - k7) - k14) - k22) ≤ MC ∧ ((((n + 4) + n8) + n15) + n23) + ((((ms - 4) - n8) - n15) - n23) ≤ MS := by omega
  refine lv_pop hx hb dX2_together_19 (va_rf_cat _) ?_
  refine lv_aload_n hx hb dX2_together_20 rfl (lv_at hl 0 rfl) ?_
  refine lv_aloadV_n hx hb dX2_together_21 rfl (lv_at hl 3 rfl) ?_
  obtain ⟨h34, k30, n31, h32, h33, hw⟩ := hw
  refine h_goq C0 hW (va_runV (As := [va_rf p3]) (rest := []) ⟨hx, hb, hml, ho, hts⟩ (k_J4_append_15 (l := l) (u := u) (X := X) (sz := H.size) _ q1 p3 S27 k30 n31 hw) (cwV 1 hts gX2_together_J4_append_15ec4 rfl rfl rfl (by decide +kernel) ⟨Nat.le_of_ble_eq_true rfl, Nat.le_of_ble_eq_true rfl⟩) ⟨h_blind, (h_recv C0 hW (ci := 1) rfl h34), (h_pre C0 hW [.ref q1, va_rf p3])⟩ rfl rfl hl.1 rfl (lv_room (Nat.le_of_ble_eq_true rfl)) dX2_together_22 ⟨by show _ ≤ MC; omega, by show _ ≤ MS; omega⟩) (fun r29 S35 H locs h36 hW => ?_)
  replace hw := h36
  have hkn : (((((k + 1) + k7) + k14) + k22) + k30) + (((((mc - 1) - k7) - k14) - k22) - k30) ≤ MC ∧ (((((n + 4) + n8) + n15) + n23) + n31) + (((((ms - 4) - n8) - n15) - n23) - n31) ≤ MS := by omega
  refine lv_pop hx hb dX2_together_25 (va_rf_cat _) ?_
  refine lv_aload_n hx hb dX2_together_26 rfl (lv_at hl 0 rfl) ?_
  obtain ⟨h42, k38, n39, h40, h41, hw⟩ := hw
  refine h_goq C0 hW (va_runV (As := []) (rest := []) ⟨hx, hb, hml, ho, hts⟩ (k_J4_toString_0e (l := l) (u := u) (X := X) (sz := H.size) _ q1  S35 k38 n39 hw) (cwV 0 hts gX2_together_J4_toString_0e30d rfl rfl rfl (by decide +kernel) ⟨Nat.le_of_ble_eq_true rfl, Nat.le_of_ble_eq_true rfl⟩) ⟨h_blind, (h_recv C0 hW (ci := 1) rfl h42), (h_pre C0 hW [.ref q1])⟩ rfl rfl hl.1 rfl (lv_room (Nat.le_of_ble_eq_true rfl)) dX2_together_27 ⟨by show _ ≤ MC; omega, by show _ ≤ MS; omega⟩) (fun r37 S43 H locs h44 hW => ?_)
  replace hw := h44
  have hkn : ((((((k + 1) + k7) + k14) + k22) + k30) + k38) + ((((((mc - 1) - k7) - k14) - k22) - k30) - k38) ≤ MC ∧ ((((((n + 4) + n8) + n15) + n23) + n31) + n39) + ((((((ms - 4) - n8) - n15) - n23) - n31) - n39) ≤ MS := by omega
  exact hret r37 S43 _ _ _ _ (by omega) (by omega) hw dX2_together_30 _ _ _ hW hl
set_option maxHeartbeats 4000000 in
set_option maxRecDepth 100000 in
theorem k_X2_together {l : Launch} {D : va_G} {u : hU} {X : va_W} {sz : Nat} (post : Option Nat → hS → Prop) (p1 : Option Nat) (p2 : Option Nat) (p3 : Option Nat) (S : hS) (mc ms : Nat) (hw : w_X2_together u post  p1 p2 p3 S mc ms) : hMq l yX2_together wsX2_together (rm_X2_together mc ms) D (gt u.2.1) u.1 u.2.2 sz X S [va_rf p1, va_rf p2, va_rf p3] post mc ms := by
  refine hMq_of (cc := cX2_together) (nL := 4) (ty := (.object "java/lang/String")) (own := RX2) (by decide) rfl rfl (by cases p1 <;> cases p2 <;> cases p3 <;> exact Nat.le_of_ble_eq_true rfl) (Or.inl ⟨_, rfl⟩) ?_
  intro p e s m args below meth c A Q C0 hin hret
  have hfin := t_X2_together_0 C0  post hret p1 p2 p3 S mc ms 0 0 ⟨by omega, by omega⟩ hw
  intro H locs ls hW hl
  refine hfin H locs ls hW ?_
  cases p1 <;> cases p2 <;> cases p3 <;> exact hl
abbrev rm_X2_result (MC MS : Nat) : Room := { frames := 7, cells := MC, slots := MS, locals := 155 }
theorem in_X2_result_RX2 : ∀ w ∈ wsX20, w ∈ wsX2_result := fun w hw9 => List.mem_cons_of_mem _ (List.mem_append_left _ (List.mem_append_left _ (List.mem_append_right _ hw9)))
set_option maxHeartbeats 4000000 in
set_option maxRecDepth 100000 in
theorem t_X2_result_0 (C0 : hX p s m args c cX2_result 1 RX2 wsX2_result D (gt u.2.1) A u.1 u.2.2) (t0 : Nat) (post : Option Nat → hS → Prop) (hret : ∀ (r : Option Nat) (S' : hS) (pc : Nat) (lv : List (Nat × Value)) (k n : Nat), k ≤ MC → n ≤ MS → post r S' → decode cX2_result pc = .ok (.areturn, 1) → gG p l e (rm_X2_result MC MS) s m args below meth c Q D A 1 k n (hC X S') pc lv [va_rf r])  : ∀ (S : hS) (mc ms k n : Nat), k + mc ≤ MC ∧ n + ms ≤ MS → w_X2_result u post t0   S mc ms → gG p l e (rm_X2_result MC MS) s m args below meth c Q D A 1 k n (hC X S) 0 [(0, .ref t0)] [] := by
  obtain ⟨⟨hx, hb, hml, ho, hts, hK, hA⟩, hR⟩ := id C0
  intro  S mc ms k n hkn hw H locs ls hW hl
  rw [w_X2_result] at hw
  refine lv_aload_n hx hb dX2_result_0 rfl (lv_at hl 0 rfl) ?_
  obtain ⟨o1, h2, hw⟩ := hw
  refine h_getR C0 hW (T := TX2) (kf := 3) in_X2_result_RX2 h2 rfl (by decide) (List.mem_of_getElem? (i := 1) rfl) rfl dX2_result_1 ?_
  refine lv_ifnullV (tgt := 23) hx hb dX2_result_4 (by decide) (fun c3 => ?_) (fun a4 c3 => ?_)
  · subst c3
    replace hw := hw.1 rfl
    refine lv_aload_n hx hb dX2_result_23 rfl (lv_at hl 0 rfl) ?_
    obtain ⟨o5, h6, hw⟩ := hw
    refine h_getR C0 hW (T := TX2) (kf := 4) in_X2_result_RX2 h6 rfl (by decide) (List.mem_of_getElem? (i := 4) rfl) rfl dX2_result_24 ?_
    refine lv_ifnullV (tgt := 37) hx hb dX2_result_27 (by decide) (fun c7 => ?_) (fun a8 c7 => ?_)
    · subst c7
      replace hw := hw.1 rfl
      refine lv_aload_n hx hb dX2_result_37 rfl (lv_at hl 0 rfl) ?_
      obtain ⟨o9, h10, hw⟩ := hw
      refine h_getR C0 hW (T := TX2) (kf := 1) in_X2_result_RX2 h10 rfl (by decide) (List.mem_of_getElem? (i := 2) rfl) rfl dX2_result_38 ?_
      refine va_ldcS hx hb ho C0.2.2.2.1.2.2.1 dX2_result_41 ?_
      refine lv_aload_n hx hb dX2_result_43 rfl (lv_at hl 0 rfl) ?_
      obtain ⟨o11, h12, hw⟩ := hw
      refine h_getR C0 hW (T := TX2) (kf := 2) in_X2_result_RX2 h12 rfl (by decide) (List.mem_of_getElem? (i := 3) rfl) rfl dX2_result_44 ?_
      obtain ⟨k14, n15, h16, h17, hw⟩ := hw
      refine h_goq C0 hW (va_runS (As := [va_rf o9, .ref (u.1 0).1, va_rf o11]) (rest := []) ⟨hx, hb, hml, ho, hts⟩ (k_X2_together (l := l) (u := u) (X := X) (sz := H.size) _ o9 (some (u.1 0).1) o11 S k14 n15 hw) (va_cwS 3 hts gX2_result_X2_together rfl rfl rfl (by decide +kernel) ⟨Nat.le_of_ble_eq_true rfl, Nat.le_of_ble_eq_true rfl⟩) ⟨h_blind, (h_pre C0 hW [va_rf o9, .ref (u.1 0).1, va_rf o11])⟩ rfl rfl hl.1 rfl (lv_room (Nat.le_of_ble_eq_true rfl)) dX2_result_47 ⟨by show _ ≤ MC; omega, by show _ ≤ MS; omega⟩) (fun r13 S18 H locs h19 hW => ?_)
      replace hw := h19
      have hkn : (k + k14) + (mc - k14) ≤ MC ∧ (n + n15) + (ms - n15) ≤ MS := by omega
      exact hret r13 S18 _ _ _ _ (by omega) (by omega) hw dX2_result_50 _ _ _ hW hl
    · subst c7
      replace hw := hw.2 a8 rfl
      refine lv_aload_n hx hb dX2_result_30 rfl (lv_at hl 0 rfl) ?_
      obtain ⟨o20, h21, hw⟩ := hw
      refine h_getR C0 hW (T := TX2) (kf := 4) in_X2_result_RX2 h21 rfl (by decide) (List.mem_of_getElem? (i := 4) rfl) rfl dX2_result_31 ?_
      refine lv_goto (tgt := 50) hx hb dX2_result_34 (by decide) ?_
      exact hret o20 S _ _ _ _ (by omega) (by omega) hw dX2_result_50 _ _ _ hW hl
  · subst c3
    replace hw := hw.2 a4 rfl
    refine lv_aload_n hx hb dX2_result_7 rfl (lv_at hl 0 rfl) ?_
    obtain ⟨o22, h23, hw⟩ := hw
    refine h_getR C0 hW (T := TX2) (kf := 1) in_X2_result_RX2 h23 rfl (by decide) (List.mem_of_getElem? (i := 2) rfl) rfl dX2_result_8 ?_
    refine lv_aload_n hx hb dX2_result_11 rfl (lv_at hl 0 rfl) ?_
    obtain ⟨o24, h25, hw⟩ := hw
    refine h_getR C0 hW (T := TX2) (kf := 3) in_X2_result_RX2 h25 rfl (by decide) (List.mem_of_getElem? (i := 1) rfl) rfl dX2_result_12 ?_
    refine lv_aload_n hx hb dX2_result_15 rfl (lv_at hl 0 rfl) ?_
    obtain ⟨o26, h27, hw⟩ := hw
    refine h_getR C0 hW (T := TX2) (kf := 2) in_X2_result_RX2 h27 rfl (by decide) (List.mem_of_getElem? (i := 3) rfl) rfl dX2_result_16 ?_
    obtain ⟨k29, n30, h31, h32, hw⟩ := hw
    refine h_goq C0 hW (va_runS (As := [va_rf o22, va_rf o24, va_rf o26]) (rest := []) ⟨hx, hb, hml, ho, hts⟩ (k_X2_together (l := l) (u := u) (X := X) (sz := H.size) _ o22 o24 o26 S k29 n30 hw) (va_cwS 3 hts gX2_result_X2_together rfl rfl rfl (by decide +kernel) ⟨Nat.le_of_ble_eq_true rfl, Nat.le_of_ble_eq_true rfl⟩) ⟨h_blind, (h_pre C0 hW [va_rf o22, va_rf o24, va_rf o26])⟩ rfl rfl hl.1 rfl (lv_room (Nat.le_of_ble_eq_true rfl)) dX2_result_19 ⟨by show _ ≤ MC; omega, by show _ ≤ MS; omega⟩) (fun r28 S33 H locs h34 hW => ?_)
    replace hw := h34
    have hkn : (k + k29) + (mc - k29) ≤ MC ∧ (n + n30) + (ms - n30) ≤ MS := by omega
    exact hret r28 S33 _ _ _ _ (by omega) (by omega) hw dX2_result_22 _ _ _ hW hl
set_option maxHeartbeats 4000000 in
set_option maxRecDepth 100000 in
theorem k_X2_result {l : Launch} {D : va_G} {u : hU} {X : va_W} {sz : Nat} (post : Option Nat → hS → Prop) (t0 : Nat) (S : hS) (mc ms : Nat) (hw : w_X2_result u post t0  S mc ms) : hMq l yX2_result wsX2_result (rm_X2_result mc ms) D (gt u.2.1) u.1 u.2.2 sz X S [.ref t0] post mc ms := by
  refine hMq_of (cc := cX2_result) (nL := 1) (ty := (.object "java/lang/String")) (own := RX2) (by decide) rfl rfl (Nat.le_of_ble_eq_true rfl) (Or.inl ⟨_, rfl⟩) ?_
  intro p e s m args below meth c A Q C0 hin hret
  exact t_X2_result_0 C0 t0 post hret  S mc ms 0 0 ⟨by omega, by omega⟩ hw
abbrev rm_X2_lengthWith : Room := { frames := 2, cells := 0, slots := 0, locals := 40 }
theorem in_X2_lengthWith_RX2 : ∀ w ∈ wsX20, w ∈ wsX2_lengthWith := fun w hw9 => List.mem_cons_of_mem _ (List.mem_append_left _ (List.mem_append_right _ hw9))
set_option maxHeartbeats 4000000 in
set_option maxRecDepth 100000 in
theorem t_X2_lengthWith_26 (C0 : hX p s m args c cX2_lengthWith 3 RX2 wsX2_lengthWith D (gt u.2.1) A u.1 u.2.2) {S : hS} (t0 : Nat) (post : Int32 → Prop) (hret : ∀ (r : Int32) (S' : hS) (pc : Nat) (lv : List (Nat × Value)) (k n : Nat), k ≤ 0 → n ≤ 0 → (S' = S ∧ post r) → narrow .int (.int r) = .int r → decode cX2_lengthWith pc = .ok (.ireturn, 1) → gG p l e (rm_X2_lengthWith) s m args below meth c Q D A 3 k n (hC X S') pc lv [.int r])  : ∀ (x1 : Option Nat) (s0 : Int32), w_X2_lengthWith_26 u post t0  x1 s0 S → gG p l e (rm_X2_lengthWith) s m args below meth c Q D A 3 0 0 (hC X S) 26 [(0, .ref t0), (1, va_rf x1)] [.int s0] := by
  obtain ⟨⟨hx, hb, hml, ho, hts, hK, hA⟩, hR⟩ := id C0
  intro x1 s0 hw H locs ls hW hl
  rw [w_X2_lengthWith_26] at hw
  refine lv_istore_n (lv' := [(2, .int s0), (0, .ref t0), (1, va_rf x1)]) hx hb dX2_lengthWith_26 rfl hl (by decide) (by show (2, .int s0) :: List.filter (fun q : Nat × Value => !(q.1 == 2) && !(q.1 + 1 == 2 && q.2.category == 2)) [(0, .ref t0), (1, va_rf x1)] = [(2, .int s0), (0, .ref t0), (1, va_rf x1)]; simp [va_rf_cat, va_c_ref, va_c_int, va_c_null]) (fun ls hl9 => ?_)
  replace hl := hl9
  refine lv_aload_n hx hb dX2_lengthWith_27 rfl (lv_at hl 1 rfl) ?_
  obtain ⟨o21, h22, hw⟩ := hw
  refine h_getR C0 hW (T := TX2) (kf := 1) in_X2_lengthWith_RX2 h22 rfl (by decide) (List.mem_of_getElem? (i := 3) rfl) rfl dX2_lengthWith_28 ?_
  obtain ⟨a23, rfl, hw⟩ := hw
  obtain ⟨h25, hw⟩ := hw
  refine h_goi C0 hW (va_runV (As := []) (rest := []) ⟨hx, hb, hml, ho, hts⟩ (k_J0_length_8a (l := l) (u := u) (X := X) (sz := H.size) _ a23  S  hw) (cwV 0 hts gX2_lengthWith_J0_length_8abf5 rfl rfl rfl (by decide +kernel) ⟨Nat.le_of_ble_eq_true rfl, Nat.le_of_ble_eq_true rfl⟩) ⟨h_blind, (h_recvS C0 hW h25), (h_pre C0 hW [.ref a23])⟩ rfl rfl hl.1 rfl (lv_room (Nat.le_of_ble_eq_true rfl)) dX2_lengthWith_31 ⟨Nat.le_refl _, Nat.le_refl _⟩) (fun r24 S26 H locs h27 hW => ?_)
  obtain ⟨h28, hp⟩ := h27
  rw [h28] at hW
  replace hw := hp
  refine lv_iload_n hx hb dX2_lengthWith_34 rfl (lv_at hl 0 rfl) ?_
  refine lv_iadd hx hb dX2_lengthWith_35 ?_
  refine lv_aloadV_n hx hb dX2_lengthWith_36 rfl (lv_at hl 2 rfl) ?_
  obtain ⟨a29, rfl, hw⟩ := hw
  obtain ⟨h31, hw⟩ := hw
  refine h_goi C0 hW (va_runV (As := []) (rest := [.int (r24 + s0)]) ⟨hx, hb, hml, ho, hts⟩ (k_J0_length_8a (l := l) (u := u) (X := X) (sz := H.size) _ a29  S  hw) (cwV 0 hts gX2_lengthWith_J0_length_8abf5 rfl rfl rfl (by decide +kernel) ⟨Nat.le_of_ble_eq_true rfl, Nat.le_of_ble_eq_true rfl⟩) ⟨h_blind, (h_recvS C0 hW h31), (h_pre C0 hW [.ref a29])⟩ rfl rfl hl.1 rfl (lv_room (Nat.le_of_ble_eq_true rfl)) dX2_lengthWith_37 ⟨Nat.le_refl _, Nat.le_refl _⟩) (fun r30 S32 H locs h33 hW => ?_)
  obtain ⟨h34, hp⟩ := h33
  rw [h34] at hW
  replace hw := hp
  refine lv_iadd hx hb dX2_lengthWith_40 ?_
  refine lv_aload_n hx hb dX2_lengthWith_41 rfl (lv_at hl 1 rfl) ?_
  obtain ⟨o35, h36, hw⟩ := hw
  refine h_getR C0 hW (T := TX2) (kf := 2) in_X2_lengthWith_RX2 h36 rfl (by decide) (List.mem_of_getElem? (i := 4) rfl) rfl dX2_lengthWith_42 ?_
  obtain ⟨a37, rfl, hw⟩ := hw
  obtain ⟨h39, hw⟩ := hw
  refine h_goi C0 hW (va_runV (As := []) (rest := [.int ((r24 + s0) + r30)]) ⟨hx, hb, hml, ho, hts⟩ (k_J0_length_8a (l := l) (u := u) (X := X) (sz := H.size) _ a37  S  hw) (cwV 0 hts gX2_lengthWith_J0_length_8abf5 rfl rfl rfl (by decide +kernel) ⟨Nat.le_of_ble_eq_true rfl, Nat.le_of_ble_eq_true rfl⟩) ⟨h_blind, (h_recvS C0 hW h39), (h_pre C0 hW [.ref a37])⟩ rfl rfl hl.1 rfl (lv_room (Nat.le_of_ble_eq_true rfl)) dX2_lengthWith_45 ⟨Nat.le_refl _, Nat.le_refl _⟩) (fun r38 S40 H locs h41 hW => ?_)
  obtain ⟨h42, hp⟩ := h41
  rw [h42] at hW
  replace hw := hp
  refine lv_iadd hx hb dX2_lengthWith_48 ?_
  exact hret (((r24 + s0) + r30) + r38) S _ _ 0 0 (Nat.le_refl _) (Nat.le_refl _) ⟨rfl, hw⟩ rfl dX2_lengthWith_49 _ _ _ hW hl
set_option maxHeartbeats 4000000 in
set_option maxRecDepth 100000 in
theorem t_X2_lengthWith_0 (C0 : hX p s m args c cX2_lengthWith 3 RX2 wsX2_lengthWith D (gt u.2.1) A u.1 u.2.2) {S : hS} (t0 : Nat) (post : Int32 → Prop) (hret : ∀ (r : Int32) (S' : hS) (pc : Nat) (lv : List (Nat × Value)) (k n : Nat), k ≤ 0 → n ≤ 0 → (S' = S ∧ post r) → narrow .int (.int r) = .int r → decode cX2_lengthWith pc = .ok (.ireturn, 1) → gG p l e (rm_X2_lengthWith) s m args below meth c Q D A 3 k n (hC X S') pc lv [.int r])  : ∀ (p1 : Option Nat), w_X2_lengthWith u post t0  p1 S → gG p l e (rm_X2_lengthWith) s m args below meth c Q D A 3 0 0 (hC X S) 0 [(0, .ref t0), (1, va_rf p1)] [] := by
  obtain ⟨⟨hx, hb, hml, ho, hts, hK, hA⟩, hR⟩ := id C0
  intro p1 hw H locs ls hW hl
  rw [w_X2_lengthWith] at hw
  refine lv_aload_n hx hb dX2_lengthWith_0 rfl (lv_at hl 0 rfl) ?_
  obtain ⟨o1, h2, hw⟩ := hw
  refine h_getR C0 hW (T := TX2) (kf := 3) in_X2_lengthWith_RX2 h2 rfl (by decide) (List.mem_of_getElem? (i := 1) rfl) rfl dX2_lengthWith_1 ?_
  refine lv_ifnonnullV (tgt := 11) hx hb dX2_lengthWith_4 (by decide) (fun a4 c3 => ?_) (fun c3 => ?_)
  · subst c3
    replace hw := hw.2 a4 rfl
    refine lv_aload_n hx hb dX2_lengthWith_11 rfl (lv_at hl 0 rfl) ?_
    obtain ⟨o5, h6, hw⟩ := hw
    refine h_getR C0 hW (T := TX2) (kf := 3) in_X2_lengthWith_RX2 h6 rfl (by decide) (List.mem_of_getElem? (i := 1) rfl) rfl dX2_lengthWith_12 ?_
    obtain ⟨a7, rfl, hw⟩ := hw
    obtain ⟨h9, hw⟩ := hw
    refine h_goi C0 hW (va_runV (As := []) (rest := []) ⟨hx, hb, hml, ho, hts⟩ (k_J0_length_8a (l := l) (u := u) (X := X) (sz := H.size) _ a7  S  hw) (cwV 0 hts gX2_lengthWith_J0_length_8abf5 rfl rfl rfl (by decide +kernel) ⟨Nat.le_of_ble_eq_true rfl, Nat.le_of_ble_eq_true rfl⟩) ⟨h_blind, (h_recvS C0 hW h9), (h_pre C0 hW [.ref a7])⟩ rfl rfl hl.1 rfl (lv_room (Nat.le_of_ble_eq_true rfl)) dX2_lengthWith_15 ⟨Nat.le_refl _, Nat.le_refl _⟩) (fun r8 S10 H locs h11 hW => ?_)
    obtain ⟨h12, hp⟩ := h11
    rw [h12] at hW
    replace hw := hp
    refine lv_aload_n hx hb dX2_lengthWith_18 rfl (lv_at hl 0 rfl) ?_
    obtain ⟨o13, h14, hw⟩ := hw
    refine h_getR C0 hW (T := TX2) (kf := 0) in_X2_lengthWith_RX2 h14 rfl (by decide) (List.mem_of_getElem? (i := 2) rfl) rfl dX2_lengthWith_19 ?_
    obtain ⟨a15, rfl, hw⟩ := hw
    obtain ⟨h17, hw⟩ := hw
    refine h_goi C0 hW (va_runV (As := []) (rest := [.int r8]) ⟨hx, hb, hml, ho, hts⟩ (k_J0_length_8a (l := l) (u := u) (X := X) (sz := H.size) _ a15  S  hw) (cwV 0 hts gX2_lengthWith_J0_length_8abf5 rfl rfl rfl (by decide +kernel) ⟨Nat.le_of_ble_eq_true rfl, Nat.le_of_ble_eq_true rfl⟩) ⟨h_blind, (h_recvS C0 hW h17), (h_pre C0 hW [.ref a15])⟩ rfl rfl hl.1 rfl (lv_room (Nat.le_of_ble_eq_true rfl)) dX2_lengthWith_22 ⟨Nat.le_refl _, Nat.le_refl _⟩) (fun r16 S18 H locs h19 hW => ?_)
    obtain ⟨h20, hp⟩ := h19
    rw [h20] at hW
    replace hw := hp
    refine lv_iadd hx hb dX2_lengthWith_25 ?_
    exact t_X2_lengthWith_26 C0 t0 post hret  p1 (r8 + r16)   hw _ _ _ hW (lv_sub hl [0, 1] rfl)
  · subst c3
    replace hw := hw.1 rfl
    refine lv_iconst (v := 0) hx hb dX2_lengthWith_7 (by decide) ?_
    refine lv_goto (tgt := 26) hx hb dX2_lengthWith_8 (by decide) ?_
    exact t_X2_lengthWith_26 C0 t0 post hret  p1 0   hw _ _ _ hW (lv_sub hl [0, 1] rfl)
set_option maxHeartbeats 4000000 in
set_option maxRecDepth 100000 in
theorem k_X2_lengthWith {l : Launch} {D : va_G} {u : hU} {X : va_W} {sz : Nat} (post : Int32 → Prop) (t0 : Nat) (p1 : Option Nat) (S : hS) (hw : w_X2_lengthWith u post t0 p1 S) : hMi l yX2_lengthWith wsX2_lengthWith rm_X2_lengthWith D (gt u.2.1) u.1 u.2.2 sz X S [.ref t0, va_rf p1] (fun r S' => S' = S ∧ post r) 0 0 := by
  refine hMi_of (cc := cX2_lengthWith) (nL := 3) (ty := .int) (own := RX2) (by decide) rfl rfl (by cases p1 <;> exact Nat.le_of_ble_eq_true rfl) ?_
  intro p e s m args below meth c A Q C0 hin hret
  have hfin := t_X2_lengthWith_0 C0 t0 post hret p1 hw
  intro H locs ls hW hl
  refine hfin H locs ls hW ?_
  cases p1 <;> exact hl
abbrev rm_X2_addElement (MC MS : Nat) : Room := { frames := 7, cells := MC, slots := MS, locals := 155 }
theorem in_X2_addElement_RX2 : ∀ w ∈ wsX20, w ∈ wsX2_addElement := fun w hw9 => List.mem_cons_of_mem _ (List.mem_append_left _ (List.mem_append_left _ (List.mem_append_right _ hw9)))
set_option maxHeartbeats 4000000 in
set_option maxRecDepth 100000 in
theorem t_X2_addElement_0 (C0 : hX p s m args c cX2_addElement 2 RX2 wsX2_addElement D (gt u.2.1) A u.1 u.2.2) (t0 : Nat) (post : hS → Prop) (hret : ∀ (S' : hS) (pc : Nat) (lv : List (Nat × Value)) (k n : Nat), k ≤ MC → n ≤ MS → post S' → decode cX2_addElement pc = .ok (.return_, 1) → gG p l e (rm_X2_addElement MC MS) s m args below meth c Q D A 2 k n (hC X S') pc lv [])  : ∀ (p1 : Option Nat) (S : hS) (mc ms k n : Nat), k + mc ≤ MC ∧ n + ms ≤ MS → w_X2_addElement u post t0  p1 S mc ms → gG p l e (rm_X2_addElement MC MS) s m args below meth c Q D A 2 k n (hC X S) 0 [(0, .ref t0), (1, va_rf p1)] [] := by
  obtain ⟨⟨hx, hb, hml, ho, hts, hK, hA⟩, hR⟩ := id C0
  intro p1 S mc ms k n hkn hw H locs ls hW hl
  rw [w_X2_addElement] at hw
  refine lv_aload_n hx hb dX2_addElement_0 rfl (lv_at hl 0 rfl) ?_
  refine lv_aload_n hx hb dX2_addElement_1 rfl (lv_at hl 0 rfl) ?_
  obtain ⟨o1, h2, hw⟩ := hw
  refine h_getR C0 hW (T := TX2) (kf := 3) in_X2_addElement_RX2 h2 rfl (by decide) (List.mem_of_getElem? (i := 1) rfl) rfl dX2_addElement_2 ?_
  refine lv_ifnonnullV (tgt := 12) hx hb dX2_addElement_5 (by decide) (fun a4 c3 => ?_) (fun c3 => ?_)
  · subst c3
    replace hw := hw.2 a4 rfl
    refine lv_aload_n hx hb dX2_addElement_12 rfl (lv_at hl 0 rfl) ?_
    obtain ⟨o9, h10, hw⟩ := hw
    refine h_getR C0 hW (T := TX2) (kf := 3) in_X2_addElement_RX2 h10 rfl (by decide) (List.mem_of_getElem? (i := 1) rfl) rfl dX2_addElement_13 ?_
    refine lv_aload_n hx hb dX2_addElement_16 rfl (lv_at hl 0 rfl) ?_
    obtain ⟨o11, h12, hw⟩ := hw
    refine h_getR C0 hW (T := TX2) (kf := 0) in_X2_addElement_RX2 h12 rfl (by decide) (List.mem_of_getElem? (i := 2) rfl) rfl dX2_addElement_17 ?_
    refine lv_aloadV_n hx hb dX2_addElement_20 rfl (lv_at hl 1 rfl) ?_
    obtain ⟨k14, n15, h16, h17, hw⟩ := hw
    refine h_goq C0 hW (va_runS (As := [va_rf o9, va_rf o11, va_rf p1]) (rest := [.ref t0]) ⟨hx, hb, hml, ho, hts⟩ (k_X2_together (l := l) (u := u) (X := X) (sz := H.size) _ o9 o11 p1 S k14 n15 hw) (va_cwS 3 hts gX2_addElement_X2_together rfl rfl rfl (by decide +kernel) ⟨Nat.le_of_ble_eq_true rfl, Nat.le_of_ble_eq_true rfl⟩) ⟨h_blind, (h_pre C0 hW [va_rf o9, va_rf o11, va_rf p1])⟩ rfl rfl hl.1 rfl (lv_room (Nat.le_of_ble_eq_true rfl)) dX2_addElement_21 ⟨by show _ ≤ MC; omega, by show _ ≤ MS; omega⟩) (fun r13 S18 H locs h19 hW => ?_)
    replace hw := h19
    have hkn : (k + k14) + (mc - k14) ≤ MC ∧ (n + n15) + (ms - n15) ≤ MS := by omega
    obtain ⟨fs20, h21, h22, hw⟩ := hw
    refine h_put C0 hW (T := TX2) (kf := 3) (ty := .object "java/lang/String") in_X2_addElement_RX2 h21 rfl (by decide) h22 tyX2 tyX2_ok nmX2 (List.mem_of_getElem? (i := 1) rfl) rfl (Or.inl rfl) (by decide +kernel) (by cases r13 <;> rfl) (by cases r13 <;> rfl) dX2_addElement_24 (va_rf_cat _) (fun H locs hW => ?_)
    obtain ⟨S23, eS23⟩ : ∃ z : hS, z = upS S18 t0 (.inr (3, fs20.set 3 (va_rf r13))) := ⟨_, rfl⟩
    rw [← eS23] at hW
    replace hw := hw S23 eS23
    exact hret S23 _ _ _ _ (by omega) (by omega) hw dX2_addElement_27 _ _ _ hW hl
  · subst c3
    replace hw := hw.1 rfl
    refine lv_aloadV_n hx hb dX2_addElement_8 rfl (lv_at hl 1 rfl) ?_
    refine lv_goto (tgt := 24) hx hb dX2_addElement_9 (by decide) ?_
    obtain ⟨fs5, h6, h7, hw⟩ := hw
    refine h_put C0 hW (T := TX2) (kf := 3) (ty := .object "java/lang/String") in_X2_addElement_RX2 h6 rfl (by decide) h7 tyX2 tyX2_ok nmX2 (List.mem_of_getElem? (i := 1) rfl) rfl (Or.inl rfl) (by decide +kernel) (by cases p1 <;> rfl) (by cases p1 <;> rfl) dX2_addElement_24 (va_rf_cat _) (fun H locs hW => ?_)
    obtain ⟨S8, eS8⟩ : ∃ z : hS, z = upS S t0 (.inr (3, fs5.set 3 (va_rf p1))) := ⟨_, rfl⟩
    rw [← eS8] at hW
    replace hw := hw S8 eS8
    exact hret S8 _ _ _ _ (by omega) (by omega) hw dX2_addElement_27 _ _ _ hW hl
set_option maxHeartbeats 4000000 in
set_option maxRecDepth 100000 in
theorem k_X2_addElement {l : Launch} {D : va_G} {u : hU} {X : va_W} {sz : Nat} (post : hS → Prop) (t0 : Nat) (p1 : Option Nat) (S : hS) (mc ms : Nat) (hw : w_X2_addElement u post t0 p1 S mc ms) : hMv l yX2_addElement wsX2_addElement (rm_X2_addElement mc ms) D (gt u.2.1) u.1 u.2.2 sz X S [.ref t0, va_rf p1] post mc ms := by
  refine hMv_of (cc := cX2_addElement) (nL := 2) (own := RX2) (by decide) rfl rfl (by cases p1 <;> exact Nat.le_of_ble_eq_true rfl) ?_
  intro p e s m args below meth c A Q C0 hin hret
  have hfin := t_X2_addElement_0 C0 t0 post hret p1 S mc ms 0 0 ⟨by omega, by omega⟩ hw
  intro H locs ls hW hl
  refine hfin H locs ls hW ?_
  cases p1 <;> exact hl
abbrev rm_X3_init (MC MS : Nat) : Room := { frames := 1, cells := MC, slots := MS, locals := 12 }
theorem in_X3_init_RX3 : ∀ w ∈ wsX30, w ∈ wsX3_init := fun w hw9 => List.mem_cons_of_mem _ (List.mem_append_right _ hw9)
set_option maxHeartbeats 4000000 in
set_option maxRecDepth 100000 in
theorem t_X3_init_0 (C0 : hX p s m args c cX3_init 1 RX3 wsX3_init D (gt u.2.1) A u.1 u.2.2) (hin : yX3_init.name = "<init>" → meth.name = "<init>") (t0 : Nat) (post : hS → Prop) (hret : ∀ (S' : hS) (pc : Nat) (lv : List (Nat × Value)) (k n : Nat), k ≤ MC → n ≤ MS → post S' → decode cX3_init pc = .ok (.return_, 1) → gG p l e (rm_X3_init MC MS) s m args below meth c Q D A 1 k n (hC X S') pc lv [])  : ∀ (S : hS) (mc ms k n : Nat), k + mc ≤ MC ∧ n + ms ≤ MS → w_X3_init u post t0   S mc ms → gG p l e (rm_X3_init MC MS) s m args below meth c Q D A 1 k n (hC X S) 0 [(0, .ref t0)] [] := by
  obtain ⟨⟨hx, hb, hml, ho, hts, hK, hA⟩, hR⟩ := id C0
  intro  S mc ms k n hkn hw H locs ls hW hl
  rw [w_X3_init] at hw
  refine lv_aload_n hx hb dX3_init_0 rfl (lv_at hl 0 rfl) ?_
  refine W.objInit hx hb ho (hts (.methodLink RX3 3 objectInit) (List.mem_of_getElem? (i := 1) rfl)) (hts (.instanceMethod objectInit) (List.mem_of_getElem? (i := 2) rfl)) (hts (.code objectInit ⟨#[0xb1]⟩ 1 none) (List.mem_of_getElem? (i := 3) rfl)) rfl (by rw [hml]; exact hl.1) rfl dX3_init_1 (Nat.le_of_ble_eq_true rfl) (Nat.le_of_ble_eq_true rfl) ?_
  refine W.eq (g2 := F0 m 4 ls []) rfl ?_
  refine lv_aload_n hx hb dX3_init_4 rfl (lv_at hl 0 rfl) ?_
  refine lv_bipush (v := 40) hx hb dX3_init_5 (by decide) ?_
  obtain ⟨N8, h9, h7, h4, h5, hw⟩ := hw
  refine h_newQ C0 hW 3 rfl (List.mem_of_getElem? (i := 4) rfl) (by decide +kernel) (N := N8) (by rw [h9]; exact nI_pos (by omega)) (by rw [h9]; exact nI_clamp (by omega)) h7 (by show _ ≤ MC; omega) (by show _ ≤ MS; omega) dX3_init_7 (fun q1 H h2 hW => ?_)
  obtain ⟨S3, eS3⟩ : ∃ z : hS, z = adS S q1 (.inl (u.2.1 3, N8, .inr (.inr (.inr (.inr (fun _ => none)))))) := ⟨_, rfl⟩
  rw [← eS3] at hW
  replace hw := hw q1 S3 h2 eS3
  have hkn : (k + 1) + (mc - 1) ≤ MC ∧ (n + N8) + (ms - N8) ≤ MS := by omega
  obtain ⟨fs10, h11, h12, hw⟩ := hw
  refine h_put C0 hW (T := TX3) (kf := 0) (ty := .array (.object "SettingsDrawer$Entry")) in_X3_init_RX3 h11 rfl (by decide) h12 tyX3 tyX3_ok nmX3 (List.mem_of_getElem? (i := 5) rfl) rfl (Or.inr ⟨rfl, hin rfl, rfl⟩) (by decide +kernel) rfl rfl dX3_init_10 rfl (fun H locs hW => ?_)
  obtain ⟨S13, eS13⟩ : ∃ z : hS, z = upS S3 t0 (.inr (4, fs10.set 0 (.ref q1))) := ⟨_, rfl⟩
  rw [← eS13] at hW
  replace hw := hw S13 eS13
  exact hret S13 _ _ _ _ (by omega) (by omega) hw dX3_init_13 _ _ _ hW hl
set_option maxHeartbeats 4000000 in
set_option maxRecDepth 100000 in
theorem k_X3_init {l : Launch} {D : va_G} {u : hU} {X : va_W} {sz : Nat} (post : hS → Prop) (t0 : Nat) (S : hS) (mc ms : Nat) (hw : w_X3_init u post t0  S mc ms) : hMv l yX3_init wsX3_init (rm_X3_init mc ms) D (gt u.2.1) u.1 u.2.2 sz X S [.ref t0] post mc ms := by
  refine hMv_of (cc := cX3_init) (nL := 1) (own := RX3) (by decide) rfl rfl (Nat.le_of_ble_eq_true rfl) ?_
  intro p e s m args below meth c A Q C0 hin hret
  exact t_X3_init_0 C0 hin t0 post hret  S mc ms 0 0 ⟨by omega, by omega⟩ hw
end RAWM
