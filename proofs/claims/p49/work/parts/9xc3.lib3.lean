section RAWM
variable {p : Program} {l : Launch} {e : Env} {s : State} {m : MethodId} {args : Array Value} {below : List Frame} {meth : Method} {c : Code} {Q : State → Prop}
variable {D : va_G} {A : Nat → Prop} {u : hU} {X : va_W} {MC MS : Nat}
abbrev rm_J0_checkBoundsBeginEnd_23 : Room := { frames := 1, cells := 0, slots := 0, locals := 23 }
set_option maxHeartbeats 4000000 in
set_option maxRecDepth 100000 in
theorem t_J0_checkBoundsBeginEnd_23_0 (C0 : hX p s m args c cJ0_checkBoundsBeginEnd_23922 3 RJ0 wsJ0_checkBoundsBeginEnd_23922 D (gt u.2.1) A u.1 u.2.2) {S : hS}  (post : Prop) (hret : ∀ (S' : hS) (pc : Nat) (lv : List (Nat × Value)) (k n : Nat), k ≤ 0 → n ≤ 0 → (S' = S ∧ post) → decode cJ0_checkBoundsBeginEnd_23922 pc = .ok (.return_, 1) → gG p l e (rm_J0_checkBoundsBeginEnd_23) s m args below meth c Q D A 3 k n (hC X S') pc lv [])  : ∀ (z1 : Int32) (z2 : Int32) (z3 : Int32), w_J0_checkBoundsBeginEnd_23 u post   z1 z2 z3 S → gG p l e (rm_J0_checkBoundsBeginEnd_23) s m args below meth c Q D A 3 0 0 (hC X S) 0 [(0, .int z1), (1, .int z2), (2, .int z3)] [] := by
  obtain ⟨⟨hx, hb, hml, ho, hts, hK, hA⟩, hR⟩ := id C0
  intro z1 z2 z3 hw H locs ls hW hl
  rw [w_J0_checkBoundsBeginEnd_23] at hw
  refine lv_iload_n hx hb dJ0_checkBoundsBeginEnd_23922_0 rfl (lv_at hl 0 rfl) ?_
  refine lv_iload_n hx hb dJ0_checkBoundsBeginEnd_23922_1 rfl (lv_at hl 1 rfl) ?_
  refine lv_iload_n hx hb dJ0_checkBoundsBeginEnd_23922_2 rfl (lv_at hl 2 rfl) ?_
  refine h_getF C0 hW (List.mem_of_getElem? (i := 1) rfl) dJ0_checkBoundsBeginEnd_23922_3 ?_
  refine h_goi C0 hW (va_runS (As := [.int z1, .int z2, .int z3, va_rf u.2.2.1]) (rest := []) ⟨hx, hb, hml, ho, hts⟩ (k_J3_checkFromToIndex_8c (l := l) (u := u) (X := X) (sz := H.size) _ z1 z2 z3 u.2.2.1 S  hw) (va_cwS 4 hts gJ0_checkBoundsBeginEnd_23922_J3_checkFromToIndex_8c36e rfl rfl rfl (by decide +kernel) ⟨Nat.le_of_ble_eq_true rfl, Nat.le_of_ble_eq_true rfl⟩) ⟨h_blind, (h_pre C0 hW [.int z1, .int z2, .int z3, va_rf u.2.2.1])⟩ rfl rfl hl.1 rfl (lv_room (Nat.le_of_ble_eq_true rfl)) dJ0_checkBoundsBeginEnd_23922_6 ⟨Nat.le_refl _, Nat.le_refl _⟩) (fun r1 S2 H locs h3 hW => ?_)
  obtain ⟨h4, hp⟩ := h3
  rw [h4] at hW
  replace hw := hp
  refine lv_pop hx hb dJ0_checkBoundsBeginEnd_23922_9 rfl ?_
  exact hret S _ _ 0 0 (Nat.le_refl _) (Nat.le_refl _) ⟨rfl, hw⟩ dJ0_checkBoundsBeginEnd_23922_10 _ _ _ hW hl
set_option maxHeartbeats 4000000 in
set_option maxRecDepth 100000 in
theorem k_J0_checkBoundsBeginEnd_23 {l : Launch} {D : va_G} {u : hU} {X : va_W} {sz : Nat} (post : Prop) (z1 : Int32) (z2 : Int32) (z3 : Int32) (S : hS) (hw : w_J0_checkBoundsBeginEnd_23 u post  z1 z2 z3 S) : hMv l yJ0_checkBoundsBeginEnd_23922 wsJ0_checkBoundsBeginEnd_23922 rm_J0_checkBoundsBeginEnd_23 D (gt u.2.1) u.1 u.2.2 sz X S [.int z1, .int z2, .int z3] (fun S' => S' = S ∧ post) 0 0 := by
  refine hMv_of (cc := cJ0_checkBoundsBeginEnd_23922) (nL := 3) (own := RJ0) (by decide) rfl rfl (Nat.le_of_ble_eq_true rfl) ?_
  intro p e s m args below meth c A Q C0 hin hret
  exact t_J0_checkBoundsBeginEnd_23_0 C0  post hret z1 z2 z3 hw
abbrev rm_J0_init_03 : Room := { frames := 1, cells := 0, slots := 0, locals := 12 }
theorem in_J0_init_03_RJ0 : ∀ w ∈ wsJ00, w ∈ wsJ0_init_031fb := fun w hw9 => List.mem_cons_of_mem _ (List.mem_append_right _ hw9)
set_option maxHeartbeats 4000000 in
set_option maxRecDepth 100000 in
theorem t_J0_init_03_0 (C0 : hX p s m args c cJ0_init_031fb 3 RJ0 wsJ0_init_031fb D (gt u.2.1) A u.1 u.2.2) (hin : yJ0_init_031fb.name = "<init>" → meth.name = "<init>") (t0 : Nat) (post : hS → Prop) (hret : ∀ (S' : hS) (pc : Nat) (lv : List (Nat × Value)) (k n : Nat), k ≤ 0 → n ≤ 0 → post S' → decode cJ0_init_031fb pc = .ok (.return_, 1) → gG p l e (rm_J0_init_03) s m args below meth c Q D A 3 k n (hC X S') pc lv [])  : ∀ (p1 : Option Nat) (z2 : Int32) (S : hS), w_J0_init_03 u post t0  p1 z2 S → gG p l e (rm_J0_init_03) s m args below meth c Q D A 3 0 0 (hC X S) 0 [(0, .ref t0), (1, va_rf p1), (2, .int z2)] [] := by
  obtain ⟨⟨hx, hb, hml, ho, hts, hK, hA⟩, hR⟩ := id C0
  intro p1 z2 S hw H locs ls hW hl
  rw [w_J0_init_03] at hw
  refine lv_aload_n hx hb dJ0_init_031fb_0 rfl (lv_at hl 0 rfl) ?_
  refine W.objInit hx hb ho (hts (.methodLink RJ0 1 objectInit) (List.mem_of_getElem? (i := 1) rfl)) (hts (.instanceMethod objectInit) (List.mem_of_getElem? (i := 2) rfl)) (hts (.code objectInit ⟨#[0xb1]⟩ 1 none) (List.mem_of_getElem? (i := 3) rfl)) rfl (by rw [hml]; exact hl.1) rfl dJ0_init_031fb_1 (Nat.le_of_ble_eq_true rfl) (Nat.le_of_ble_eq_true rfl) ?_
  refine W.eq (g2 := F0 m 4 ls []) rfl ?_
  refine lv_aload_n hx hb dJ0_init_031fb_4 rfl (lv_at hl 0 rfl) ?_
  refine lv_aloadV_n hx hb dJ0_init_031fb_5 rfl (lv_at hl 1 rfl) ?_
  obtain ⟨fs1, h2, h3, hw⟩ := hw
  refine h_put C0 hW (T := TJ0) (kf := 0) (ty := .array (.byte)) in_J0_init_03_RJ0 h2 rfl (by decide) h3 tyJ0 tyJ0_ok nmJ0 (List.mem_of_getElem? (i := 4) rfl) rfl (Or.inr ⟨rfl, hin rfl, rfl⟩) (by decide +kernel) (by cases p1 <;> rfl) (by cases p1 <;> rfl) dJ0_init_031fb_6 (va_rf_cat _) (fun H locs hW => ?_)
  obtain ⟨S4, eS4⟩ : ∃ z : hS, z = upS S t0 (.inr (0, fs1.set 0 (va_rf p1))) := ⟨_, rfl⟩
  rw [← eS4] at hW
  replace hw := hw S4 eS4
  refine lv_aload_n hx hb dJ0_init_031fb_9 rfl (lv_at hl 0 rfl) ?_
  refine lv_iload_n hx hb dJ0_init_031fb_10 rfl (lv_at hl 2 rfl) ?_
  obtain ⟨fs5, h6, h7, h9, hw⟩ := hw
  refine h_put C0 hW (T := TJ0) (kf := 1) (ty := .byte) in_J0_init_03_RJ0 h6 rfl (by decide) h7 tyJ0 tyJ0_ok nmJ0 (List.mem_of_getElem? (i := 5) rfl) rfl (Or.inr ⟨rfl, hin rfl, rfl⟩) (by decide +kernel) h9.1 h9.2 dJ0_init_031fb_11 rfl (fun H locs hW => ?_)
  obtain ⟨S8, eS8⟩ : ∃ z : hS, z = upS S4 t0 (.inr (0, fs5.set 1 (.int z2))) := ⟨_, rfl⟩
  rw [← eS8] at hW
  replace hw := hw S8 eS8
  exact hret S8 _ _ 0 0 (Nat.le_refl _) (Nat.le_refl _) hw dJ0_init_031fb_14 _ _ _ hW hl
set_option maxHeartbeats 4000000 in
set_option maxRecDepth 100000 in
theorem k_J0_init_03 {l : Launch} {D : va_G} {u : hU} {X : va_W} {sz : Nat} (post : hS → Prop) (t0 : Nat) (p1 : Option Nat) (z2 : Int32) (S : hS) (hw : w_J0_init_03 u post t0 p1 z2 S) : hMv l yJ0_init_031fb wsJ0_init_031fb rm_J0_init_03 D (gt u.2.1) u.1 u.2.2 sz X S [.ref t0, va_rf p1, .int z2] post 0 0 := by
  refine hMv_of (cc := cJ0_init_031fb) (nL := 3) (own := RJ0) (by decide) rfl rfl (by cases p1 <;> exact Nat.le_of_ble_eq_true rfl) ?_
  intro p e s m args below meth c A Q C0 hin hret
  have hfin := t_J0_init_03_0 C0 hin t0 post hret p1 z2 S hw
  intro H locs ls hW hl
  refine hfin H locs ls hW ?_
  cases p1 <;> exact hl
abbrev rm_J1_newString_b4 (MC MS : Nat) : Room := { frames := 3, cells := MC, slots := MS, locals := 67 }
theorem in_J1_newString_b4_RJ0 : ∀ w ∈ wsJ00, w ∈ wsJ1_newString_b4f7a := fun w hw9 => List.mem_cons_of_mem _ (List.mem_append_right _ hw9)
set_option maxHeartbeats 4000000 in
set_option maxRecDepth 100000 in
theorem t_J1_newString_b4_0 (C0 : hX p s m args c cJ1_newString_b4f7a 3 RJ1 wsJ1_newString_b4f7a D (gt u.2.1) A u.1 u.2.2)  (post : Option Nat → hS → Prop) (hret : ∀ (r : Option Nat) (S' : hS) (pc : Nat) (lv : List (Nat × Value)) (k n : Nat), k ≤ MC → n ≤ MS → post r S' → decode cJ1_newString_b4f7a pc = .ok (.areturn, 1) → gG p l e (rm_J1_newString_b4 MC MS) s m args below meth c Q D A 3 k n (hC X S') pc lv [va_rf r])  : ∀ (p1 : Option Nat) (z2 : Int32) (z3 : Int32) (S : hS) (mc ms k n : Nat), k + mc ≤ MC ∧ n + ms ≤ MS → w_J1_newString_b4 u post   p1 z2 z3 S mc ms → gG p l e (rm_J1_newString_b4 MC MS) s m args below meth c Q D A 3 k n (hC X S) 0 [(0, va_rf p1), (1, .int z2), (2, .int z3)] [] := by
  obtain ⟨⟨hx, hb, hml, ho, hts, hK, hA⟩, hR⟩ := id C0
  intro p1 z2 z3 S mc ms k n hkn hw H locs ls hW hl
  rw [w_J1_newString_b4] at hw
  refine lv_iload_n hx hb dJ1_newString_b4f7a_0 rfl (lv_at hl 2 rfl) ?_
  refine lv_if_ne (tgt := 7) hx hb dJ1_newString_b4f7a_1 (by decide) (fun c1 => ?_) (fun c1 => ?_)
  · replace hw := hw.1 c1
    obtain ⟨h5, h6, hw⟩ := hw
    refine h_new C0 hW (ci := 0) (fs := [.null, .int 0, .int 0, .int 0]) in_J1_newString_b4_RJ0 rfl tyJ0 tyJ0_ok (List.mem_of_getElem? (i := 1) rfl) (List.mem_of_getElem? (i := 2) rfl) (List.mem_of_getElem? (i := 3) rfl) (fun j hj => by rcases (show j = 0 ∨ j = 1 ∨ j = 2 ∨ j = 3 by omega) with rfl | rfl | rfl | rfl <;> rfl) (by show _ ≤ MC; omega) (by show _ ≤ MS; omega) dJ1_newString_b4f7a_7 (fun q2 H h3 hW => ?_)
    obtain ⟨S4, eS4⟩ : ∃ z : hS, z = adS S q2 (.inr (0, [.null, .int 0, .int 0, .int 0])) := ⟨_, rfl⟩
    rw [← eS4] at hW
    replace hw := hw q2 S4 h3 eS4
    have hkn : (k + 1) + (mc - 1) ≤ MC ∧ (n + 4) + (ms - 4) ≤ MS := by omega
    refine lv_dup hx hb dJ1_newString_b4f7a_10 rfl ?_
    refine lv_aloadV_n hx hb dJ1_newString_b4f7a_11 rfl (lv_at hl 0 rfl) ?_
    refine lv_iload_n hx hb dJ1_newString_b4f7a_12 rfl (lv_at hl 1 rfl) ?_
    refine lv_iload_n hx hb dJ1_newString_b4f7a_13 rfl (lv_at hl 1 rfl) ?_
    refine lv_iload_n hx hb dJ1_newString_b4f7a_14 rfl (lv_at hl 2 rfl) ?_
    refine lv_iadd hx hb dJ1_newString_b4f7a_15 ?_
    obtain ⟨k8, n9, h10, h11, hw⟩ := hw
    refine h_goq C0 hW (va_runS (As := [va_rf p1, .int z2, .int (z2 + z3)]) (rest := [.ref q2, .ref q2]) ⟨hx, hb, hml, ho, hts⟩ (k_J7_copyOfRange_39 (l := l) (u := u) (X := X) (sz := H.size) _ p1 z2 (z2 + z3) S4 k8 n9 hw) (va_cwS 3 hts gJ1_newString_b4f7a_J7_copyOfRange_39247 rfl rfl rfl (by decide +kernel) ⟨Nat.le_of_ble_eq_true rfl, Nat.le_of_ble_eq_true rfl⟩) ⟨h_blind, (h_pre C0 hW [va_rf p1, .int z2, .int (z2 + z3)])⟩ rfl rfl hl.1 rfl (lv_room (Nat.le_of_ble_eq_true rfl)) dJ1_newString_b4f7a_16 ⟨by show _ ≤ MC; omega, by show _ ≤ MS; omega⟩) (fun r7 S12 H locs h13 hW => ?_)
    replace hw := h13
    have hkn : ((k + 1) + k8) + ((mc - 1) - k8) ≤ MC ∧ ((n + 4) + n9) + ((ms - 4) - n9) ≤ MS := by omega
    refine lv_iconst (v := 0) hx hb dJ1_newString_b4f7a_19 (by decide) ?_
    refine h_gov C0 hW (va_runI (As := [va_rf r7, .int 0]) (rest := [.ref q2]) ⟨hx, hb, hml, ho, hts⟩ (k_J0_init_03 (l := l) (u := u) (X := X) (sz := H.size) _ q2 r7 0 S12  hw) (cwI 2 hts gJ1_newString_b4f7a_J0_init_031fb rfl rfl rfl (hts _ (List.mem_of_getElem? (i := 3) rfl)) (hts _ (List.mem_of_getElem? (i := 29) rfl)) (hts _ (List.mem_of_getElem? (i := 30) rfl)) rfl (by decide +kernel) ⟨Nat.le_of_ble_eq_true rfl, Nat.le_of_ble_eq_true rfl⟩) ⟨h_blind, (h_pre C0 hW [.ref q2, va_rf r7, .int 0])⟩ rfl rfl hl.1 rfl (lv_room (Nat.le_of_ble_eq_true rfl)) dJ1_newString_b4f7a_20 ⟨by show _ ≤ MC; omega, by show _ ≤ MS; omega⟩) (fun S15 H locs h16 hW => ?_)
    replace hw := h16
    exact hret (some q2) S15 _ _ _ _ (by omega) (by omega) hw dJ1_newString_b4f7a_23 _ _ _ hW hl
  · replace hw := hw.2 c1
    exact hw.elim
set_option maxHeartbeats 4000000 in
set_option maxRecDepth 100000 in
theorem k_J1_newString_b4 {l : Launch} {D : va_G} {u : hU} {X : va_W} {sz : Nat} (post : Option Nat → hS → Prop) (p1 : Option Nat) (z2 : Int32) (z3 : Int32) (S : hS) (mc ms : Nat) (hw : w_J1_newString_b4 u post  p1 z2 z3 S mc ms) : hMq l yJ1_newString_b4f7a wsJ1_newString_b4f7a (rm_J1_newString_b4 mc ms) D (gt u.2.1) u.1 u.2.2 sz X S [va_rf p1, .int z2, .int z3] post mc ms := by
  refine hMq_of (cc := cJ1_newString_b4f7a) (nL := 3) (ty := (.object "java/lang/String")) (own := RJ1) (by decide) rfl rfl (by cases p1 <;> exact Nat.le_of_ble_eq_true rfl) (Or.inl ⟨_, rfl⟩) ?_
  intro p e s m args below meth c A Q C0 hin hret
  have hfin := t_J1_newString_b4_0 C0  post hret p1 z2 z3 S mc ms 0 0 ⟨by omega, by omega⟩ hw
  intro H locs ls hW hl
  refine hfin H locs ls hW ?_
  cases p1 <;> exact hl
abbrev rm_J0_substring_37 (MC MS : Nat) : Room := { frames := 4, cells := MC, slots := MS, locals := 89 }
theorem in_J0_substring_37_RJ0 : ∀ w ∈ wsJ00, w ∈ wsJ0_substring_37a41 := fun w hw9 => List.mem_cons_of_mem _ (List.mem_append_right _ hw9)
set_option maxHeartbeats 4000000 in
set_option maxRecDepth 100000 in
theorem t_J0_substring_37_22 (C0 : hX p s m args c cJ0_substring_37a41 5 RJ0 wsJ0_substring_37a41 D (gt u.2.1) A u.1 u.2.2) (t0 : Nat) (post : Option Nat → hS → Prop) (hret : ∀ (r : Option Nat) (S' : hS) (pc : Nat) (lv : List (Nat × Value)) (k n : Nat), k ≤ MC → n ≤ MS → post r S' → decode cJ0_substring_37a41 pc = .ok (.areturn, 1) → gG p l e (rm_J0_substring_37 MC MS) s m args below meth c Q D A 5 k n (hC X S') pc lv [va_rf r])  : ∀ (x1 : Int32) (x2 : Int32) (S : hS) (mc ms k n : Nat), k + mc ≤ MC ∧ n + ms ≤ MS → w_J0_substring_37_22 u post t0  x1 x2 S mc ms → gG p l e (rm_J0_substring_37 MC MS) s m args below meth c Q D A 5 k n (hC X S) 22 [(0, .ref t0), (1, .int x1), (2, .int x2)] [] := by
  obtain ⟨⟨hx, hb, hml, ho, hts, hK, hA⟩, hR⟩ := id C0
  intro x1 x2 S mc ms k n hkn hw H locs ls hW hl
  rw [w_J0_substring_37_22] at hw
  refine lv_iload_n hx hb dJ0_substring_37a41_22 rfl (lv_at hl 2 rfl) ?_
  refine lv_iload_n hx hb dJ0_substring_37a41_23 rfl (lv_at hl 1 rfl) ?_
  refine lv_isub hx hb dJ0_substring_37a41_24 ?_
  refine lv_topi (fun v12 ev12 => ?_)
  replace hw := hw v12 ev12
  refine lv_istore (lv' := [(4, .int v12), (0, .ref t0), (1, .int x1), (2, .int x2)]) hx hb dJ0_substring_37a41_25 hl (by decide) rfl (fun ls hl9 => ?_)
  replace hl := hl9
  refine lv_aload_n hx hb dJ0_substring_37a41_27 rfl (lv_at hl 1 rfl) ?_
  obtain ⟨h14, hw⟩ := hw
  refine h_goi C0 hW (va_runV (As := []) (rest := []) ⟨hx, hb, hml, ho, hts⟩ (k_J0_isLatin1_aa (l := l) (u := u) (X := X) (sz := H.size) _ t0  S  hw) (cwV 0 hts gJ0_substring_37a41_J0_isLatin1_aae02 rfl rfl rfl (by decide +kernel) ⟨Nat.le_of_ble_eq_true rfl, Nat.le_of_ble_eq_true rfl⟩) ⟨h_blind, (h_recvS C0 hW h14), (h_pre C0 hW [.ref t0])⟩ rfl rfl hl.1 rfl (lv_room (Nat.le_of_ble_eq_true rfl)) dJ0_substring_37a41_28 ⟨by show _ ≤ MC; omega, by show _ ≤ MS; omega⟩) (fun r13 S15 H locs h16 hW => ?_)
  obtain ⟨h17, hp⟩ := h16
  rw [h17] at hW
  replace hw := hp
  refine lv_if_eq (tgt := 47) hx hb dJ0_substring_37a41_31 (by decide) (fun c18 => ?_) (fun c18 => ?_)
  · replace hw := hw.1 c18
    refine lv_aload_n hx hb dJ0_substring_37a41_47 rfl (lv_at hl 1 rfl) ?_
    obtain ⟨b19, h20, hw⟩ := hw
    refine h_getSV C0 hW in_J0_substring_37_RJ0 h20 (List.mem_of_getElem? (i := 1) rfl) dJ0_substring_37a41_48 ?_
    refine lv_iload_n hx hb dJ0_substring_37a41_51 rfl (lv_at hl 2 rfl) ?_
    refine lv_iload hx hb dJ0_substring_37a41_52 (lv_at hl 0 rfl) ?_
    exact hw.elim
  · replace hw := hw.2 c18
    refine lv_aload_n hx hb dJ0_substring_37a41_34 rfl (lv_at hl 1 rfl) ?_
    obtain ⟨b21, h22, hw⟩ := hw
    refine h_getSV C0 hW in_J0_substring_37_RJ0 h22 (List.mem_of_getElem? (i := 1) rfl) dJ0_substring_37a41_35 ?_
    refine lv_iload_n hx hb dJ0_substring_37a41_38 rfl (lv_at hl 2 rfl) ?_
    refine lv_iload hx hb dJ0_substring_37a41_39 (lv_at hl 0 rfl) ?_
    obtain ⟨k24, n25, h26, h27, hw⟩ := hw
    refine h_goq C0 hW (va_runS (As := [.ref b21, .int x1, .int v12]) (rest := []) ⟨hx, hb, hml, ho, hts⟩ (k_J1_newString_b4 (l := l) (u := u) (X := X) (sz := H.size) _ (some b21) x1 v12 S k24 n25 hw) (va_cwS 3 hts gJ0_substring_37a41_J1_newString_b4f7a rfl rfl rfl (by decide +kernel) ⟨Nat.le_of_ble_eq_true rfl, Nat.le_of_ble_eq_true rfl⟩) ⟨h_blind, (h_pre C0 hW [.ref b21, .int x1, .int v12])⟩ rfl rfl hl.1 rfl (lv_room (Nat.le_of_ble_eq_true rfl)) dJ0_substring_37a41_41 ⟨by show _ ≤ MC; omega, by show _ ≤ MS; omega⟩) (fun r23 S28 H locs h29 hW => ?_)
    replace hw := h29
    have hkn : (k + k24) + (mc - k24) ≤ MC ∧ (n + n25) + (ms - n25) ≤ MS := by omega
    refine lv_goto (tgt := 57) hx hb dJ0_substring_37a41_44 (by decide) ?_
    exact hret r23 S28 _ _ _ _ (by omega) (by omega) hw dJ0_substring_37a41_57 _ _ _ hW hl
set_option maxHeartbeats 4000000 in
set_option maxRecDepth 100000 in
theorem t_J0_substring_37_0 (C0 : hX p s m args c cJ0_substring_37a41 5 RJ0 wsJ0_substring_37a41 D (gt u.2.1) A u.1 u.2.2) (t0 : Nat) (post : Option Nat → hS → Prop) (hret : ∀ (r : Option Nat) (S' : hS) (pc : Nat) (lv : List (Nat × Value)) (k n : Nat), k ≤ MC → n ≤ MS → post r S' → decode cJ0_substring_37a41 pc = .ok (.areturn, 1) → gG p l e (rm_J0_substring_37 MC MS) s m args below meth c Q D A 5 k n (hC X S') pc lv [va_rf r])  : ∀ (z1 : Int32) (z2 : Int32) (S : hS) (mc ms k n : Nat), k + mc ≤ MC ∧ n + ms ≤ MS → w_J0_substring_37 u post t0  z1 z2 S mc ms → gG p l e (rm_J0_substring_37 MC MS) s m args below meth c Q D A 5 k n (hC X S) 0 [(0, .ref t0), (1, .int z1), (2, .int z2)] [] := by
  obtain ⟨⟨hx, hb, hml, ho, hts, hK, hA⟩, hR⟩ := id C0
  intro z1 z2 S mc ms k n hkn hw H locs ls hW hl
  rw [w_J0_substring_37] at hw
  refine lv_aload_n hx hb dJ0_substring_37a41_0 rfl (lv_at hl 0 rfl) ?_
  obtain ⟨h2, hw⟩ := hw
  refine h_goi C0 hW (va_runV (As := []) (rest := []) ⟨hx, hb, hml, ho, hts⟩ (k_J0_length_8a (l := l) (u := u) (X := X) (sz := H.size) _ t0  S  hw) (cwV 0 hts gJ0_substring_37a41_J0_length_8abf5 rfl rfl rfl (by decide +kernel) ⟨Nat.le_of_ble_eq_true rfl, Nat.le_of_ble_eq_true rfl⟩) ⟨h_blind, (h_recvS C0 hW h2), (h_pre C0 hW [.ref t0])⟩ rfl rfl hl.1 rfl (lv_room (Nat.le_of_ble_eq_true rfl)) dJ0_substring_37a41_1 ⟨by show _ ≤ MC; omega, by show _ ≤ MS; omega⟩) (fun r1 S3 H locs h4 hW => ?_)
  obtain ⟨h5, hp⟩ := h4
  rw [h5] at hW
  replace hw := hp
  refine lv_istore_n (lv' := [(3, .int r1), (0, .ref t0), (1, .int z1), (2, .int z2)]) hx hb dJ0_substring_37a41_4 rfl hl (by decide) rfl (fun ls hl9 => ?_)
  replace hl := hl9
  refine lv_iload_n hx hb dJ0_substring_37a41_5 rfl (lv_at hl 2 rfl) ?_
  refine lv_iload_n hx hb dJ0_substring_37a41_6 rfl (lv_at hl 3 rfl) ?_
  refine lv_iload_n hx hb dJ0_substring_37a41_7 rfl (lv_at hl 0 rfl) ?_
  refine h_gov C0 hW (va_runS (As := [.int z1, .int z2, .int r1]) (rest := []) ⟨hx, hb, hml, ho, hts⟩ (k_J0_checkBoundsBeginEnd_23 (l := l) (u := u) (X := X) (sz := H.size) _ z1 z2 r1 S  hw) (va_cwS 3 hts gJ0_substring_37a41_J0_checkBoundsBeginEnd_23922 rfl rfl rfl (by decide +kernel) ⟨Nat.le_of_ble_eq_true rfl, Nat.le_of_ble_eq_true rfl⟩) ⟨h_blind, (h_pre C0 hW [.int z1, .int z2, .int r1])⟩ rfl rfl hl.1 rfl (lv_room (Nat.le_of_ble_eq_true rfl)) dJ0_substring_37a41_8 ⟨by show _ ≤ MC; omega, by show _ ≤ MS; omega⟩) (fun S7 H locs h8 hW => ?_)
  obtain ⟨h9, hp⟩ := h8
  rw [h9] at hW
  replace hw := hp
  refine lv_iload_n hx hb dJ0_substring_37a41_11 rfl (lv_at hl 2 rfl) ?_
  refine lv_if_ne (tgt := 22) hx hb dJ0_substring_37a41_12 (by decide) (fun c10 => ?_) (fun c10 => ?_)
  · replace hw := hw.1 c10
    exact t_J0_substring_37_22 C0 t0 post hret  z1 z2 S mc ms _ _ hkn hw _ _ _ hW (lv_sub hl [1, 2, 3] rfl)
  · replace hw := hw.2 c10
    refine lv_iload_n hx hb dJ0_substring_37a41_15 rfl (lv_at hl 3 rfl) ?_
    refine lv_iload_n hx hb dJ0_substring_37a41_16 rfl (lv_at hl 0 rfl) ?_
    refine lv_icmp_ne (tgt := 22) hx hb dJ0_substring_37a41_17 (by decide) (fun c11 => ?_) (fun c11 => ?_)
    · replace hw := hw.1 c11
      exact t_J0_substring_37_22 C0 t0 post hret  z1 z2 S mc ms _ _ hkn hw _ _ _ hW (lv_sub hl [1, 2, 3] rfl)
    · replace hw := hw.2 c11
      refine lv_aload_n hx hb dJ0_substring_37a41_20 rfl (lv_at hl 1 rfl) ?_
      exact hret (some t0) S _ _ _ _ (by omega) (by omega) hw dJ0_substring_37a41_21 _ _ _ hW hl
set_option maxHeartbeats 4000000 in
set_option maxRecDepth 100000 in
theorem k_J0_substring_37 {l : Launch} {D : va_G} {u : hU} {X : va_W} {sz : Nat} (post : Option Nat → hS → Prop) (t0 : Nat) (z1 : Int32) (z2 : Int32) (S : hS) (mc ms : Nat) (hw : w_J0_substring_37 u post t0 z1 z2 S mc ms) : hMq l yJ0_substring_37a41 wsJ0_substring_37a41 (rm_J0_substring_37 mc ms) D (gt u.2.1) u.1 u.2.2 sz X S [.ref t0, .int z1, .int z2] post mc ms := by
  refine hMq_of (cc := cJ0_substring_37a41) (nL := 5) (ty := (.object "java/lang/String")) (own := RJ0) (by decide) rfl rfl (Nat.le_of_ble_eq_true rfl) (Or.inl ⟨_, rfl⟩) ?_
  intro p e s m args below meth c A Q C0 hin hret
  exact t_J0_substring_37_0 C0 t0 post hret z1 z2 S mc ms 0 0 ⟨by omega, by omega⟩ hw
end RAWM
