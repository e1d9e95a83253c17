section RAWM
variable {p : Program} {l : Launch} {e : Env} {s : State} {m : MethodId} {args : Array Value} {below : List Frame} {meth : Method} {c : Code} {Q : State → Prop}
variable {D : va_G} {A : Nat → Prop} {u : hU} {X : va_W} {MC MS : Nat}
abbrev rm_X7_keyText (MC MS : Nat) : Room := { frames := 8, cells := MC, slots := MS, locals := 180 }
theorem in_X7_keyText_RX7 : ∀ w ∈ wsX70, w ∈ wsX7_keyText := fun w hw9 => List.mem_cons_of_mem _ (List.mem_append_left _ (List.mem_append_left _ (List.mem_append_right _ hw9)))
set_option maxHeartbeats 4000000 in
set_option maxRecDepth 100000 in
theorem t_X7_keyText_0 (C0 : hX p s m args c cX7_keyText 1 RX7 wsX7_keyText D (gt u.2.1) A u.1 u.2.2) (t0 : Nat) (post : Option Nat → hS → Prop) (hret : ∀ (r : Option Nat) (S' : hS) (pc : Nat) (lv : List (Nat × Value)) (k n : Nat), k ≤ MC → n ≤ MS → post r S' → decode cX7_keyText pc = .ok (.areturn, 1) → gG p l e (rm_X7_keyText MC MS) s m args below meth c Q D A 1 k n (hC X S') pc lv [va_rf r])  : ∀ (S : hS) (mc ms k n : Nat), k + mc ≤ MC ∧ n + ms ≤ MS → w_X7_keyText u post t0   S mc ms → gG p l e (rm_X7_keyText MC MS) s m args below meth c Q D A 1 k n (hC X S) 0 [(0, .ref t0)] [] := by
  obtain ⟨⟨hx, hb, hml, ho, hts, hK, hA⟩, hR⟩ := id C0
  intro  S mc ms k n hkn hw H locs ls hW hl
  rw [w_X7_keyText] at hw
  refine lv_aload_n hx hb dX7_keyText_0 rfl (lv_at hl 0 rfl) ?_
  refine lv_iconst (v := 0) hx hb dX7_keyText_1 (by decide) ?_
  refine lv_aload_n hx hb dX7_keyText_2 rfl (lv_at hl 0 rfl) ?_
  obtain ⟨v1, h2, hw⟩ := hw
  refine h_getI C0 hW (T := TX7) (kf := 5) in_X7_keyText_RX7 h2 rfl (by decide) (List.mem_of_getElem? (i := 1) rfl) rfl dX7_keyText_3 ?_
  obtain ⟨h8, k4, n5, h6, h7, hw⟩ := hw
  refine h_goi C0 hW (va_runV (As := [.int 0, .int v1]) (rest := []) ⟨hx, hb, hml, ho, hts⟩ (k_X7_unescape (l := l) (u := u) (X := X) (sz := H.size) _ t0 0 v1 S k4 n5 hw) (cwV 2 hts gX7_keyText_X7_unescape rfl rfl rfl (by decide +kernel) ⟨Nat.le_of_ble_eq_true rfl, Nat.le_of_ble_eq_true rfl⟩) ⟨h_blind, (h_recv C0 hW (ci := 8) rfl h8), (h_pre C0 hW [.ref t0, .int 0, .int v1])⟩ rfl rfl hl.1 rfl (lv_room (Nat.le_of_ble_eq_true rfl)) dX7_keyText_6 ⟨by show _ ≤ MC; omega, by show _ ≤ MS; omega⟩) (fun r3 S9 H locs h10 hW => ?_)
  replace hw := h10
  have hkn : (k + k4) + (mc - k4) ≤ MC ∧ (n + n5) + (ms - n5) ≤ MS := by omega
  refine lv_pop hx hb dX7_keyText_9 rfl ?_
  refine lv_aload_n hx hb dX7_keyText_10 rfl (lv_at hl 0 rfl) ?_
  obtain ⟨o11, h12, hw⟩ := hw
  refine h_getR C0 hW (T := TX7) (kf := 2) in_X7_keyText_RX7 h12 rfl (by decide) (List.mem_of_getElem? (i := 2) rfl) rfl dX7_keyText_11 ?_
  obtain ⟨a13, rfl, hw⟩ := hw
  obtain ⟨h19, k15, n16, h17, h18, hw⟩ := hw
  refine h_goq C0 hW (va_runV (As := []) (rest := []) ⟨hx, hb, hml, ho, hts⟩ (k_J4_toString_0e (l := l) (u := u) (X := X) (sz := H.size) _ a13  S9 k15 n16 hw) (cwV 0 hts gX7_keyText_J4_toString_0e30d rfl rfl rfl (by decide +kernel) ⟨Nat.le_of_ble_eq_true rfl, Nat.le_of_ble_eq_true rfl⟩) ⟨h_blind, (h_recv C0 hW (ci := 1) rfl h19), (h_pre C0 hW [.ref a13])⟩ rfl rfl hl.1 rfl (lv_room (Nat.le_of_ble_eq_true rfl)) dX7_keyText_14 ⟨by show _ ≤ MC; omega, by show _ ≤ MS; omega⟩) (fun r14 S20 H locs h21 hW => ?_)
  replace hw := h21
  have hkn : ((k + k4) + k15) + ((mc - k4) - k15) ≤ MC ∧ ((n + n5) + n16) + ((ms - n5) - n16) ≤ MS := by omega
  exact hret r14 S20 _ _ _ _ (by omega) (by omega) hw dX7_keyText_17 _ _ _ hW hl
set_option maxHeartbeats 4000000 in
set_option maxRecDepth 100000 in
theorem k_X7_keyText {l : Launch} {D : va_G} {u : hU} {X : va_W} {sz : Nat} (post : Option Nat → hS → Prop) (t0 : Nat) (S : hS) (mc ms : Nat) (hw : w_X7_keyText u post t0  S mc ms) : hMq l yX7_keyText wsX7_keyText (rm_X7_keyText mc ms) D (gt u.2.1) u.1 u.2.2 sz X S [.ref t0] post mc ms := by
  refine hMq_of (cc := cX7_keyText) (nL := 1) (ty := (.object "java/lang/String")) (own := RX7) (by decide) rfl rfl (Nat.le_of_ble_eq_true rfl) (Or.inl ⟨_, rfl⟩) ?_
  intro p e s m args below meth c A Q C0 hin hret
  exact t_X7_keyText_0 C0 t0 post hret  S mc ms 0 0 ⟨by omega, by omega⟩ hw
abbrev rm_X7_valueText (MC MS : Nat) : Room := { frames := 8, cells := MC, slots := MS, locals := 180 }
theorem in_X7_valueText_RX7 : ∀ w ∈ wsX70, w ∈ wsX7_valueText := fun w hw9 => List.mem_cons_of_mem _ (List.mem_append_left _ (List.mem_append_left _ (List.mem_append_right _ hw9)))
set_option maxHeartbeats 4000000 in
set_option maxRecDepth 100000 in
theorem t_X7_valueText_0 (C0 : hX p s m args c cX7_valueText 1 RX7 wsX7_valueText D (gt u.2.1) A u.1 u.2.2) (t0 : Nat) (post : Option Nat → hS → Prop) (hret : ∀ (r : Option Nat) (S' : hS) (pc : Nat) (lv : List (Nat × Value)) (k n : Nat), k ≤ MC → n ≤ MS → post r S' → decode cX7_valueText pc = .ok (.areturn, 1) → gG p l e (rm_X7_valueText MC MS) s m args below meth c Q D A 1 k n (hC X S') pc lv [va_rf r])  : ∀ (S : hS) (mc ms k n : Nat), k + mc ≤ MC ∧ n + ms ≤ MS → w_X7_valueText u post t0   S mc ms → gG p l e (rm_X7_valueText MC MS) s m args below meth c Q D A 1 k n (hC X S) 0 [(0, .ref t0)] [] := by
  obtain ⟨⟨hx, hb, hml, ho, hts, hK, hA⟩, hR⟩ := id C0
  intro  S mc ms k n hkn hw H locs ls hW hl
  rw [w_X7_valueText] at hw
  refine lv_aload_n hx hb dX7_valueText_0 rfl (lv_at hl 0 rfl) ?_
  refine lv_aload_n hx hb dX7_valueText_1 rfl (lv_at hl 0 rfl) ?_
  obtain ⟨v1, h2, hw⟩ := hw
  refine h_getI C0 hW (T := TX7) (kf := 6) in_X7_valueText_RX7 h2 rfl (by decide) (List.mem_of_getElem? (i := 1) rfl) rfl dX7_valueText_2 ?_
  refine lv_aload_n hx hb dX7_valueText_5 rfl (lv_at hl 0 rfl) ?_
  obtain ⟨v3, h4, hw⟩ := hw
  refine h_getI C0 hW (T := TX7) (kf := 3) in_X7_valueText_RX7 h4 rfl (by decide) (List.mem_of_getElem? (i := 2) rfl) rfl dX7_valueText_6 ?_
  obtain ⟨h10, k6, n7, h8, h9, hw⟩ := hw
  refine h_goi C0 hW (va_runV (As := [.int v1, .int v3]) (rest := []) ⟨hx, hb, hml, ho, hts⟩ (k_X7_unescape (l := l) (u := u) (X := X) (sz := H.size) _ t0 v1 v3 S k6 n7 hw) (cwV 2 hts gX7_valueText_X7_unescape rfl rfl rfl (by decide +kernel) ⟨Nat.le_of_ble_eq_true rfl, Nat.le_of_ble_eq_true rfl⟩) ⟨h_blind, (h_recv C0 hW (ci := 8) rfl h10), (h_pre C0 hW [.ref t0, .int v1, .int v3])⟩ rfl rfl hl.1 rfl (lv_room (Nat.le_of_ble_eq_true rfl)) dX7_valueText_9 ⟨by show _ ≤ MC; omega, by show _ ≤ MS; omega⟩) (fun r5 S11 H locs h12 hW => ?_)
  replace hw := h12
  have hkn : (k + k6) + (mc - k6) ≤ MC ∧ (n + n7) + (ms - n7) ≤ MS := by omega
  refine lv_pop hx hb dX7_valueText_12 rfl ?_
  refine lv_aload_n hx hb dX7_valueText_13 rfl (lv_at hl 0 rfl) ?_
  obtain ⟨o13, h14, hw⟩ := hw
  refine h_getR C0 hW (T := TX7) (kf := 2) in_X7_valueText_RX7 h14 rfl (by decide) (List.mem_of_getElem? (i := 3) rfl) rfl dX7_valueText_14 ?_
  obtain ⟨a15, rfl, hw⟩ := hw
  obtain ⟨h21, k17, n18, h19, h20, hw⟩ := hw
  refine h_goq C0 hW (va_runV (As := []) (rest := []) ⟨hx, hb, hml, ho, hts⟩ (k_J4_toString_0e (l := l) (u := u) (X := X) (sz := H.size) _ a15  S11 k17 n18 hw) (cwV 0 hts gX7_valueText_J4_toString_0e30d rfl rfl rfl (by decide +kernel) ⟨Nat.le_of_ble_eq_true rfl, Nat.le_of_ble_eq_true rfl⟩) ⟨h_blind, (h_recv C0 hW (ci := 1) rfl h21), (h_pre C0 hW [.ref a15])⟩ rfl rfl hl.1 rfl (lv_room (Nat.le_of_ble_eq_true rfl)) dX7_valueText_17 ⟨by show _ ≤ MC; omega, by show _ ≤ MS; omega⟩) (fun r16 S22 H locs h23 hW => ?_)
  replace hw := h23
  have hkn : ((k + k6) + k17) + ((mc - k6) - k17) ≤ MC ∧ ((n + n7) + n18) + ((ms - n7) - n18) ≤ MS := by omega
  exact hret r16 S22 _ _ _ _ (by omega) (by omega) hw dX7_valueText_20 _ _ _ hW hl
set_option maxHeartbeats 4000000 in
set_option maxRecDepth 100000 in
theorem k_X7_valueText {l : Launch} {D : va_G} {u : hU} {X : va_W} {sz : Nat} (post : Option Nat → hS → Prop) (t0 : Nat) (S : hS) (mc ms : Nat) (hw : w_X7_valueText u post t0  S mc ms) : hMq l yX7_valueText wsX7_valueText (rm_X7_valueText mc ms) D (gt u.2.1) u.1 u.2.2 sz X S [.ref t0] post mc ms := by
  refine hMq_of (cc := cX7_valueText) (nL := 1) (ty := (.object "java/lang/String")) (own := RX7) (by decide) rfl rfl (Nat.le_of_ble_eq_true rfl) (Or.inl ⟨_, rfl⟩) ?_
  intro p e s m args below meth c A Q C0 hin hret
  exact t_X7_valueText_0 C0 t0 post hret  S mc ms 0 0 ⟨by omega, by omega⟩ hw
abbrev rm_X7_brokenPlace (MC MS : Nat) : Room := { frames := 8, cells := MC, slots := MS, locals := 180 }
theorem in_X7_brokenPlace_RX7 : ∀ w ∈ wsX70, w ∈ wsX7_brokenPlace := fun w hw9 => List.mem_cons_of_mem _ (List.mem_append_left _ (List.mem_append_right _ hw9))
set_option maxHeartbeats 4000000 in
set_option maxRecDepth 100000 in
theorem t_X7_brokenPlace_0 (C0 : hX p s m args c cX7_brokenPlace 2 RX7 wsX7_brokenPlace D (gt u.2.1) A u.1 u.2.2) (t0 : Nat) (post : Int32 → hS → Prop) (hret : ∀ (r : Int32) (S' : hS) (pc : Nat) (lv : List (Nat × Value)) (k n : Nat), k ≤ MC → n ≤ MS → post r S' → narrow .int (.int r) = .int r → decode cX7_brokenPlace pc = .ok (.ireturn, 1) → gG p l e (rm_X7_brokenPlace MC MS) s m args below meth c Q D A 2 k n (hC X S') pc lv [.int r])  : ∀ (S : hS) (mc ms k n : Nat), k + mc ≤ MC ∧ n + ms ≤ MS → w_X7_brokenPlace u post t0   S mc ms → gG p l e (rm_X7_brokenPlace MC MS) s m args below meth c Q D A 2 k n (hC X S) 0 [(0, .ref t0)] [] := by
  obtain ⟨⟨hx, hb, hml, ho, hts, hK, hA⟩, hR⟩ := id C0
  intro  S mc ms k n hkn hw H locs ls hW hl
  rw [w_X7_brokenPlace] at hw
  refine lv_aload_n hx hb dX7_brokenPlace_0 rfl (lv_at hl 0 rfl) ?_
  refine lv_iconst (v := 0) hx hb dX7_brokenPlace_1 (by decide) ?_
  refine lv_aload_n hx hb dX7_brokenPlace_2 rfl (lv_at hl 0 rfl) ?_
  obtain ⟨v1, h2, hw⟩ := hw
  refine h_getI C0 hW (T := TX7) (kf := 5) in_X7_brokenPlace_RX7 h2 rfl (by decide) (List.mem_of_getElem? (i := 1) rfl) rfl dX7_brokenPlace_3 ?_
  obtain ⟨h8, k4, n5, h6, h7, hw⟩ := hw
  refine h_goi C0 hW (va_runV (As := [.int 0, .int v1]) (rest := []) ⟨hx, hb, hml, ho, hts⟩ (k_X7_unescape (l := l) (u := u) (X := X) (sz := H.size) _ t0 0 v1 S k4 n5 hw) (cwV 2 hts gX7_brokenPlace_X7_unescape rfl rfl rfl (by decide +kernel) ⟨Nat.le_of_ble_eq_true rfl, Nat.le_of_ble_eq_true rfl⟩) ⟨h_blind, (h_recv C0 hW (ci := 8) rfl h8), (h_pre C0 hW [.ref t0, .int 0, .int v1])⟩ rfl rfl hl.1 rfl (lv_room (Nat.le_of_ble_eq_true rfl)) dX7_brokenPlace_6 ⟨by show _ ≤ MC; omega, by show _ ≤ MS; omega⟩) (fun r3 S9 H locs h10 hW => ?_)
  replace hw := h10
  have hkn : (k + k4) + (mc - k4) ≤ MC ∧ (n + n5) + (ms - n5) ≤ MS := by omega
  refine lv_istore_n (lv' := [(1, .int r3), (0, .ref t0)]) hx hb dX7_brokenPlace_9 rfl hl (by decide) rfl (fun ls hl9 => ?_)
  replace hl := hl9
  refine lv_iload_n hx hb dX7_brokenPlace_10 rfl (lv_at hl 0 rfl) ?_
  refine lv_bipush (v := (-5)) hx hb dX7_brokenPlace_11 (by decide) ?_
  refine lv_icmp_eq (tgt := 20) hx hb dX7_brokenPlace_13 (by decide) (fun c11 => ?_) (fun c11 => ?_)
  · replace hw := hw.1 c11
    refine lv_aload_n hx hb dX7_brokenPlace_20 rfl (lv_at hl 1 rfl) ?_
    refine lv_aload_n hx hb dX7_brokenPlace_21 rfl (lv_at hl 1 rfl) ?_
    obtain ⟨v12, h13, hw⟩ := hw
    refine h_getI C0 hW (T := TX7) (kf := 6) in_X7_brokenPlace_RX7 h13 rfl (by decide) (List.mem_of_getElem? (i := 2) rfl) rfl dX7_brokenPlace_22 ?_
    refine lv_aload_n hx hb dX7_brokenPlace_25 rfl (lv_at hl 1 rfl) ?_
    obtain ⟨v14, h15, hw⟩ := hw
    refine h_getI C0 hW (T := TX7) (kf := 3) in_X7_brokenPlace_RX7 h15 rfl (by decide) (List.mem_of_getElem? (i := 3) rfl) rfl dX7_brokenPlace_26 ?_
    obtain ⟨h21, k17, n18, h19, h20, hw⟩ := hw
    refine h_goi C0 hW (va_runV (As := [.int v12, .int v14]) (rest := []) ⟨hx, hb, hml, ho, hts⟩ (k_X7_unescape (l := l) (u := u) (X := X) (sz := H.size) _ t0 v12 v14 S9 k17 n18 hw) (cwV 2 hts gX7_brokenPlace_X7_unescape rfl rfl rfl (by decide +kernel) ⟨Nat.le_of_ble_eq_true rfl, Nat.le_of_ble_eq_true rfl⟩) ⟨h_blind, (h_recv C0 hW (ci := 8) rfl h21), (h_pre C0 hW [.ref t0, .int v12, .int v14])⟩ rfl rfl hl.1 rfl (lv_room (Nat.le_of_ble_eq_true rfl)) dX7_brokenPlace_29 ⟨by show _ ≤ MC; omega, by show _ ≤ MS; omega⟩) (fun r16 S22 H locs h23 hW => ?_)
    replace hw := h23
    have hkn : ((k + k4) + k17) + ((mc - k4) - k17) ≤ MC ∧ ((n + n5) + n18) + ((ms - n5) - n18) ≤ MS := by omega
    exact hret r16 S22 _ _ _ _ (by omega) (by omega) hw rfl dX7_brokenPlace_32 _ _ _ hW hl
  · replace hw := hw.2 c11
    refine lv_iload_n hx hb dX7_brokenPlace_16 rfl (lv_at hl 0 rfl) ?_
    refine lv_goto (tgt := 32) hx hb dX7_brokenPlace_17 (by decide) ?_
    exact hret r3 S9 _ _ _ _ (by omega) (by omega) hw rfl dX7_brokenPlace_32 _ _ _ hW hl
set_option maxHeartbeats 4000000 in
set_option maxRecDepth 100000 in
theorem k_X7_brokenPlace {l : Launch} {D : va_G} {u : hU} {X : va_W} {sz : Nat} (post : Int32 → hS → Prop) (t0 : Nat) (S : hS) (mc ms : Nat) (hw : w_X7_brokenPlace u post t0  S mc ms) : hMi l yX7_brokenPlace wsX7_brokenPlace (rm_X7_brokenPlace mc ms) D (gt u.2.1) u.1 u.2.2 sz X S [.ref t0] post mc ms := by
  refine hMi_of (cc := cX7_brokenPlace) (nL := 2) (ty := .int) (own := RX7) (by decide) rfl rfl (Nat.le_of_ble_eq_true rfl) ?_
  intro p e s m args below meth c A Q C0 hin hret
  exact t_X7_brokenPlace_0 C0 t0 post hret  S mc ms 0 0 ⟨by omega, by omega⟩ hw
abbrev rm_X8_init : Room := { frames := 1, cells := 0, slots := 0, locals := 12 }
theorem in_X8_init_RX8 : ∀ w ∈ wsX80, w ∈ wsX8_init := fun w hw9 => List.mem_cons_of_mem _ (List.mem_append_right _ hw9)
set_option maxHeartbeats 4000000 in
set_option maxRecDepth 100000 in
theorem t_X8_init_0 (C0 : hX p s m args c cX8_init 4 RX8 wsX8_init D (gt u.2.1) A u.1 u.2.2) (hin : yX8_init.name = "<init>" → meth.name = "<init>") (t0 : Nat) (post : hS → Prop) (hret : ∀ (S' : hS) (pc : Nat) (lv : List (Nat × Value)) (k n : Nat), k ≤ 0 → n ≤ 0 → post S' → decode cX8_init pc = .ok (.return_, 1) → gG p l e (rm_X8_init) s m args below meth c Q D A 4 k n (hC X S') pc lv [])  : ∀ (p1 : Option Nat) (p2 : Option Nat) (z3 : Int32) (S : hS), w_X8_init u post t0  p1 p2 z3 S → gG p l e (rm_X8_init) s m args below meth c Q D A 4 0 0 (hC X S) 0 [(0, .ref t0), (1, va_rf p1), (2, va_rf p2), (3, .int z3)] [] := by
  obtain ⟨⟨hx, hb, hml, ho, hts, hK, hA⟩, hR⟩ := id C0
  intro p1 p2 z3 S hw H locs ls hW hl
  rw [w_X8_init] at hw
  refine lv_aload_n hx hb dX8_init_0 rfl (lv_at hl 0 rfl) ?_
  refine W.objInit hx hb ho (hts (.methodLink RX8 1 objectInit) (List.mem_of_getElem? (i := 1) rfl)) (hts (.instanceMethod objectInit) (List.mem_of_getElem? (i := 2) rfl)) (hts (.code objectInit ⟨#[0xb1]⟩ 1 none) (List.mem_of_getElem? (i := 3) rfl)) rfl (by rw [hml]; exact hl.1) rfl dX8_init_1 (Nat.le_of_ble_eq_true rfl) (Nat.le_of_ble_eq_true rfl) ?_
  refine W.eq (g2 := F0 m 4 ls []) rfl ?_
  refine lv_aload_n hx hb dX8_init_4 rfl (lv_at hl 0 rfl) ?_
  refine lv_aloadV_n hx hb dX8_init_5 rfl (lv_at hl 1 rfl) ?_
  obtain ⟨fs1, h2, h3, hw⟩ := hw
  refine h_put C0 hW (T := TX8) (kf := 0) (ty := .object "java/lang/String") in_X8_init_RX8 h2 rfl (by decide) h3 tyX8 tyX8_ok nmX8 (List.mem_of_getElem? (i := 4) rfl) rfl (Or.inr ⟨rfl, hin rfl, rfl⟩) (by decide +kernel) (by cases p1 <;> rfl) (by cases p1 <;> rfl) dX8_init_6 (va_rf_cat _) (fun H locs hW => ?_)
  obtain ⟨S4, eS4⟩ : ∃ z : hS, z = upS S t0 (.inr (9, fs1.set 0 (va_rf p1))) := ⟨_, rfl⟩
  rw [← eS4] at hW
  replace hw := hw S4 eS4
  refine lv_aload_n hx hb dX8_init_9 rfl (lv_at hl 0 rfl) ?_
  refine lv_aloadV_n hx hb dX8_init_10 rfl (lv_at hl 2 rfl) ?_
  obtain ⟨fs5, h6, h7, hw⟩ := hw
  refine h_put C0 hW (T := TX8) (kf := 2) (ty := .object "java/lang/String") in_X8_init_RX8 h6 rfl (by decide) h7 tyX8 tyX8_ok nmX8 (List.mem_of_getElem? (i := 5) rfl) rfl (Or.inl rfl) (by decide +kernel) (by cases p2 <;> rfl) (by cases p2 <;> rfl) dX8_init_11 (va_rf_cat _) (fun H locs hW => ?_)
  obtain ⟨S8, eS8⟩ : ∃ z : hS, z = upS S4 t0 (.inr (9, fs5.set 2 (va_rf p2))) := ⟨_, rfl⟩
  rw [← eS8] at hW
  replace hw := hw S8 eS8
  refine lv_aload_n hx hb dX8_init_14 rfl (lv_at hl 0 rfl) ?_
  refine lv_iload_n hx hb dX8_init_15 rfl (lv_at hl 3 rfl) ?_
  obtain ⟨fs9, h10, h11, h13, hw⟩ := hw
  refine h_put C0 hW (T := TX8) (kf := 1) (ty := .boolean) in_X8_init_RX8 h10 rfl (by decide) h11 tyX8 tyX8_ok nmX8 (List.mem_of_getElem? (i := 6) rfl) rfl (Or.inr ⟨rfl, hin rfl, rfl⟩) (by decide +kernel) h13.1 h13.2 dX8_init_16 rfl (fun H locs hW => ?_)
  obtain ⟨S12, eS12⟩ : ∃ z : hS, z = upS S8 t0 (.inr (9, fs9.set 1 (.int z3))) := ⟨_, rfl⟩
  rw [← eS12] at hW
  replace hw := hw S12 eS12
  exact hret S12 _ _ 0 0 (Nat.le_refl _) (Nat.le_refl _) hw dX8_init_19 _ _ _ hW hl
set_option maxHeartbeats 4000000 in
set_option maxRecDepth 100000 in
theorem k_X8_init {l : Launch} {D : va_G} {u : hU} {X : va_W} {sz : Nat} (post : hS → Prop) (t0 : Nat) (p1 : Option Nat) (p2 : Option Nat) (z3 : Int32) (S : hS) (hw : w_X8_init u post t0 p1 p2 z3 S) : hMv l yX8_init wsX8_init rm_X8_init D (gt u.2.1) u.1 u.2.2 sz X S [.ref t0, va_rf p1, va_rf p2, .int z3] post 0 0 := by
  refine hMv_of (cc := cX8_init) (nL := 4) (own := RX8) (by decide) rfl rfl (by cases p1 <;> cases p2 <;> exact Nat.le_of_ble_eq_true rfl) ?_
  intro p e s m args below meth c A Q C0 hin hret
  have hfin := t_X8_init_0 C0 hin t0 post hret p1 p2 z3 S hw
  intro H locs ls hW hl
  refine hfin H locs ls hW ?_
  cases p1 <;> cases p2 <;> exact hl
abbrev rm_X8_isDelimiter : Room := { frames := 4, cells := 0, slots := 0, locals := 91 }
theorem in_X8_isDelimiter_RX8 : ∀ w ∈ wsX80, w ∈ wsX8_isDelimiter := fun w hw9 => List.mem_cons_of_mem _ (List.mem_append_left _ (List.mem_append_right _ hw9))
set_option maxHeartbeats 4000000 in
set_option maxRecDepth 100000 in
theorem t_X8_isDelimiter_0 (C0 : hX p s m args c cX8_isDelimiter 2 RX8 wsX8_isDelimiter D (gt u.2.1) A u.1 u.2.2) {S : hS} (t0 : Nat) (post : Int32 → Prop) (hret : ∀ (r : Int32) (S' : hS) (pc : Nat) (lv : List (Nat × Value)) (k n : Nat), k ≤ 0 → n ≤ 0 → (S' = S ∧ post r) → narrow .boolean (.int r) = .int r → decode cX8_isDelimiter pc = .ok (.ireturn, 1) → gG p l e (rm_X8_isDelimiter) s m args below meth c Q D A 2 k n (hC X S') pc lv [.int r])  : ∀ (z1 : Int32), w_X8_isDelimiter u post t0  z1 S → gG p l e (rm_X8_isDelimiter) s m args below meth c Q D A 2 0 0 (hC X S) 0 [(0, .ref t0), (1, .int z1)] [] := by
  obtain ⟨⟨hx, hb, hml, ho, hts, hK, hA⟩, hR⟩ := id C0
  intro z1 hw H locs ls hW hl
  rw [w_X8_isDelimiter] at hw
  refine lv_iload_n hx hb dX8_isDelimiter_0 rfl (lv_at hl 1 rfl) ?_
  refine lv_aload_n hx hb dX8_isDelimiter_1 rfl (lv_at hl 0 rfl) ?_
  obtain ⟨o1, h2, hw⟩ := hw
  refine h_getR C0 hW (T := TX8) (kf := 0) in_X8_isDelimiter_RX8 h2 rfl (by decide) (List.mem_of_getElem? (i := 1) rfl) rfl dX8_isDelimiter_2 ?_
  obtain ⟨a3, rfl, hw⟩ := hw
  obtain ⟨h5, hw⟩ := hw
  refine h_goi C0 hW (va_runV (As := []) (rest := [.int z1]) ⟨hx, hb, hml, ho, hts⟩ (k_J0_length_8a (l := l) (u := u) (X := X) (sz := H.size) _ a3  S  hw) (cwV 0 hts gX8_isDelimiter_J0_length_8abf5 rfl rfl rfl (by decide +kernel) ⟨Nat.le_of_ble_eq_true rfl, Nat.le_of_ble_eq_true rfl⟩) ⟨h_blind, (h_recvS C0 hW h5), (h_pre C0 hW [.ref a3])⟩ rfl rfl hl.1 rfl (lv_room (Nat.le_of_ble_eq_true rfl)) dX8_isDelimiter_5 ⟨Nat.le_refl _, Nat.le_refl _⟩) (fun r4 S6 H locs h7 hW => ?_)
  obtain ⟨h8, hp⟩ := h7
  rw [h8] at hW
  replace hw := hp
  refine g_callsN (As := [.int z1, .int r4]) (rest := []) (host := RX9) ⟨hx, hb, hml, ho, hts⟩ hl.1 (k_X9_isWithin (l := l) _ z1 r4 hw) ⟨va_cnB 2 hts gX8_isDelimiter_X9_isWithin_n47 rfl rfl rfl (C0.2.2.2.2 _ (by decide +kernel)) (hts _ (List.mem_of_getElem? (i := 16) rfl)) (by decide +kernel) ⟨Nat.le_of_ble_eq_true rfl, Nat.le_of_ble_eq_true rfl⟩, hts _ (List.mem_of_getElem? (i := 15) rfl), trivial⟩ (Nat.le_of_ble_eq_true rfl) dX8_isDelimiter_8 rfl ⟨Nat.le_refl _, Nat.le_refl _⟩ (fun r9 hp => ?_)
  replace hw := hp
  refine lv_if_eq (tgt := 36) hx hb dX8_isDelimiter_11 (by decide) (fun c10 => ?_) (fun c10 => ?_)
  · replace hw := hw.1 c10
    refine lv_iconst (v := 0) hx hb dX8_isDelimiter_36 (by decide) ?_
    exact hret 0 S _ _ 0 0 (Nat.le_refl _) (Nat.le_refl _) ⟨rfl, hw⟩ (by decide) dX8_isDelimiter_37 _ _ _ hW hl
  · replace hw := hw.2 c10
    refine lv_aload_n hx hb dX8_isDelimiter_14 rfl (lv_at hl 0 rfl) ?_
    obtain ⟨o11, h12, hw⟩ := hw
    refine h_getR C0 hW (T := TX8) (kf := 2) in_X8_isDelimiter_RX8 h12 rfl (by decide) (List.mem_of_getElem? (i := 2) rfl) rfl dX8_isDelimiter_15 ?_
    refine lv_aload_n hx hb dX8_isDelimiter_18 rfl (lv_at hl 0 rfl) ?_
    obtain ⟨o13, h14, hw⟩ := hw
    refine h_getR C0 hW (T := TX8) (kf := 0) in_X8_isDelimiter_RX8 h14 rfl (by decide) (List.mem_of_getElem? (i := 1) rfl) rfl dX8_isDelimiter_19 ?_
    refine lv_iload_n hx hb dX8_isDelimiter_22 rfl (lv_at hl 1 rfl) ?_
    obtain ⟨a15, rfl, hw⟩ := hw
    obtain ⟨h17, hw⟩ := hw
    refine h_goi C0 hW (va_runV (As := [.int z1]) (rest := [va_rf o11]) ⟨hx, hb, hml, ho, hts⟩ (k_J0_charAt_50 (l := l) (u := u) (X := X) (sz := H.size) _ a15 z1 S  hw) (cwV 1 hts gX8_isDelimiter_J0_charAt_5068e rfl rfl rfl (by decide +kernel) ⟨Nat.le_of_ble_eq_true rfl, Nat.le_of_ble_eq_true rfl⟩) ⟨h_blind, (h_recvS C0 hW h17), (h_pre C0 hW [.ref a15, .int z1])⟩ rfl rfl hl.1 rfl (lv_room (by simp [va_rf_cat, va_c_ref, va_c_int, va_c_null])) dX8_isDelimiter_23 ⟨Nat.le_refl _, Nat.le_refl _⟩) (fun r16 S18 H locs h19 hW => ?_)
    obtain ⟨h20, hp⟩ := h19
    rw [h20] at hW
    replace hw := hp
    obtain ⟨a21, rfl, hw⟩ := hw
    obtain ⟨h23, hw⟩ := hw
    refine h_goi C0 hW (va_runV (As := [.int r16]) (rest := []) ⟨hx, hb, hml, ho, hts⟩ (k_J0_indexOf_0f (l := l) (u := u) (X := X) (sz := H.size) _ a21 r16 S  hw) (cwV 1 hts gX8_isDelimiter_J0_indexOf_0f7a4 rfl rfl rfl (by decide +kernel) ⟨Nat.le_of_ble_eq_true rfl, Nat.le_of_ble_eq_true rfl⟩) ⟨h_blind, (h_recvS C0 hW h23), (h_pre C0 hW [.ref a21, .int r16])⟩ rfl rfl hl.1 rfl (lv_room (Nat.le_of_ble_eq_true rfl)) dX8_isDelimiter_26 ⟨Nat.le_refl _, Nat.le_refl _⟩) (fun r22 S24 H locs h25 hW => ?_)
    obtain ⟨h26, hp⟩ := h25
    rw [h26] at hW
    replace hw := hp
    refine lv_if_lt (tgt := 36) hx hb dX8_isDelimiter_29 (by decide) (fun c27 => ?_) (fun c27 => ?_)
    · replace hw := hw.1 c27
      refine lv_iconst (v := 0) hx hb dX8_isDelimiter_36 (by decide) ?_
      exact hret 0 S _ _ 0 0 (Nat.le_refl _) (Nat.le_refl _) ⟨rfl, hw⟩ (by decide) dX8_isDelimiter_37 _ _ _ hW hl
    · replace hw := hw.2 c27
      refine lv_iconst (v := 1) hx hb dX8_isDelimiter_32 (by decide) ?_
      refine lv_goto (tgt := 37) hx hb dX8_isDelimiter_33 (by decide) ?_
      exact hret 1 S _ _ 0 0 (Nat.le_refl _) (Nat.le_refl _) ⟨rfl, hw⟩ (by decide) dX8_isDelimiter_37 _ _ _ hW hl
set_option maxHeartbeats 4000000 in
set_option maxRecDepth 100000 in
theorem k_X8_isDelimiter {l : Launch} {D : va_G} {u : hU} {X : va_W} {sz : Nat} (post : Int32 → Prop) (t0 : Nat) (z1 : Int32) (S : hS) (hw : w_X8_isDelimiter u post t0 z1 S) : hMi l yX8_isDelimiter wsX8_isDelimiter rm_X8_isDelimiter D (gt u.2.1) u.1 u.2.2 sz X S [.ref t0, .int z1] (fun r S' => S' = S ∧ post r) 0 0 := by
  refine hMi_of (cc := cX8_isDelimiter) (nL := 2) (ty := .boolean) (own := RX8) (by decide) rfl rfl (Nat.le_of_ble_eq_true rfl) ?_
  intro p e s m args below meth c A Q C0 hin hret
  exact t_X8_isDelimiter_0 C0 t0 post hret z1 hw
abbrev rm_X8_tokenStart : Room := { frames := 5, cells := 0, slots := 0, locals := 112 }
theorem in_X8_tokenStart_RX8 : ∀ w ∈ wsX80, w ∈ wsX8_tokenStart := fun w hw9 => List.mem_cons_of_mem _ (List.mem_append_left _ (List.mem_append_right _ hw9))
set_option maxHeartbeats 4000000 in
set_option maxRecDepth 100000 in
theorem t_X8_tokenStart_2 (C0 : hX p s m args c cX8_tokenStart 3 RX8 wsX8_tokenStart D (gt u.2.1) A u.1 u.2.2) {S : hS} (t0 : Nat) (post : Int32 → Prop) (hret : ∀ (r : Int32) (S' : hS) (pc : Nat) (lv : List (Nat × Value)) (k n : Nat), k ≤ 0 → n ≤ 0 → (S' = S ∧ post r) → narrow .int (.int r) = .int r → decode cX8_tokenStart pc = .ok (.ireturn, 1) → gG p l e (rm_X8_tokenStart) s m args below meth c Q D A 3 k n (hC X S') pc lv [.int r])  : ∀ (nf : Nat) (x2 : Int32), w_X8_tokenStart_2 u post t0  nf x2 S → gG p l e (rm_X8_tokenStart) s m args below meth c Q D A 3 0 0 (hC X S) 2 [(0, .ref t0), (2, .int x2)] [] := by
  obtain ⟨⟨hx, hb, hml, ho, hts, hK, hA⟩, hR⟩ := id C0
  intro nf
  induction nf with
  | zero => intro x2 hw; exact hw.elim
  | succ nf ih =>
    intro x2 hw H locs ls hW hl
    rw [w_X8_tokenStart_2] at hw
    refine lv_aload_n hx hb dX8_tokenStart_2 rfl (lv_at hl 0 rfl) ?_
    obtain ⟨v2, h3, hw⟩ := hw
    refine h_getI C0 hW (T := TX8) (kf := 1) in_X8_tokenStart_RX8 h3 rfl (by decide) (List.mem_of_getElem? (i := 1) rfl) rfl dX8_tokenStart_3 ?_
    refine lv_if_ne (tgt := 34) hx hb dX8_tokenStart_6 (by decide) (fun c4 => ?_) (fun c4 => ?_)
    · replace hw := hw.1 c4
      refine lv_iload_n hx hb dX8_tokenStart_34 rfl (lv_at hl 1 rfl) ?_
      exact hret x2 S _ _ 0 0 (Nat.le_refl _) (Nat.le_refl _) ⟨rfl, hw⟩ rfl dX8_tokenStart_35 _ _ _ hW hl
    · replace hw := hw.2 c4
      refine lv_iload_n hx hb dX8_tokenStart_9 rfl (lv_at hl 1 rfl) ?_
      refine lv_aload_n hx hb dX8_tokenStart_10 rfl (lv_at hl 0 rfl) ?_
      obtain ⟨o5, h6, hw⟩ := hw
      refine h_getR C0 hW (T := TX8) (kf := 0) in_X8_tokenStart_RX8 h6 rfl (by decide) (List.mem_of_getElem? (i := 2) rfl) rfl dX8_tokenStart_11 ?_
      obtain ⟨a7, rfl, hw⟩ := hw
      obtain ⟨h9, hw⟩ := hw
      refine h_goi C0 hW (va_runV (As := []) (rest := [.int x2]) ⟨hx, hb, hml, ho, hts⟩ (k_J0_length_8a (l := l) (u := u) (X := X) (sz := H.size) _ a7  S  hw) (cwV 0 hts gX8_tokenStart_J0_length_8abf5 rfl rfl rfl (by decide +kernel) ⟨Nat.le_of_ble_eq_true rfl, Nat.le_of_ble_eq_true rfl⟩) ⟨h_blind, (h_recvS C0 hW h9), (h_pre C0 hW [.ref a7])⟩ rfl rfl hl.1 rfl (lv_room (Nat.le_of_ble_eq_true rfl)) dX8_tokenStart_14 ⟨Nat.le_refl _, Nat.le_refl _⟩) (fun r8 S10 H locs h11 hW => ?_)
      obtain ⟨h12, hp⟩ := h11
      rw [h12] at hW
      replace hw := hp
      refine lv_icmp_ge (tgt := 34) hx hb dX8_tokenStart_17 (by decide) (fun c13 => ?_) (fun c13 => ?_)
      · replace hw := hw.1 c13
        refine lv_iload_n hx hb dX8_tokenStart_34 rfl (lv_at hl 1 rfl) ?_
        exact hret x2 S _ _ 0 0 (Nat.le_refl _) (Nat.le_refl _) ⟨rfl, hw⟩ rfl dX8_tokenStart_35 _ _ _ hW hl
      · replace hw := hw.2 c13
        refine lv_aload_n hx hb dX8_tokenStart_20 rfl (lv_at hl 0 rfl) ?_
        refine lv_iload_n hx hb dX8_tokenStart_21 rfl (lv_at hl 1 rfl) ?_
        obtain ⟨h15, hw⟩ := hw
        refine h_goi C0 hW (va_runV (As := [.int x2]) (rest := []) ⟨hx, hb, hml, ho, hts⟩ (k_X8_isDelimiter (l := l) (u := u) (X := X) (sz := H.size) _ t0 x2 S  hw) (cwV 1 hts gX8_tokenStart_X8_isDelimiter rfl rfl rfl (by decide +kernel) ⟨Nat.le_of_ble_eq_true rfl, Nat.le_of_ble_eq_true rfl⟩) ⟨h_blind, (h_recv C0 hW (ci := 9) rfl h15), (h_pre C0 hW [.ref t0, .int x2])⟩ rfl rfl hl.1 rfl (lv_room (Nat.le_of_ble_eq_true rfl)) dX8_tokenStart_22 ⟨Nat.le_refl _, Nat.le_refl _⟩) (fun r14 S16 H locs h17 hW => ?_)
        obtain ⟨h18, hp⟩ := h17
        rw [h18] at hW
        replace hw := hp
        refine lv_if_eq (tgt := 34) hx hb dX8_tokenStart_25 (by decide) (fun c19 => ?_) (fun c19 => ?_)
        · replace hw := hw.1 c19
          refine lv_iload_n hx hb dX8_tokenStart_34 rfl (lv_at hl 1 rfl) ?_
          exact hret x2 S _ _ 0 0 (Nat.le_refl _) (Nat.le_refl _) ⟨rfl, hw⟩ rfl dX8_tokenStart_35 _ _ _ hW hl
        · replace hw := hw.2 c19
          obtain ⟨v20, ev20⟩ : ∃ y : Int32, y = x2 + 1 := ⟨_, rfl⟩
          replace hw := hw v20 ev20
          refine lv_iinc (v := v20) (lv' := [(2, .int v20), (0, .ref t0)]) hx hb dX8_tokenStart_28 hl (k := 1) rfl (by rw [ev20]; rfl) (by decide) rfl (fun ls hl9 => ?_)
          replace hl := hl9
          refine lv_goto (tgt := 2) hx hb dX8_tokenStart_31 (by decide) ?_
          exact ih v20   hw _ _ _ hW (lv_sub hl [1, 0] rfl)
set_option maxHeartbeats 4000000 in
set_option maxRecDepth 100000 in
theorem t_X8_tokenStart_0 (C0 : hX p s m args c cX8_tokenStart 3 RX8 wsX8_tokenStart D (gt u.2.1) A u.1 u.2.2) {S : hS} (t0 : Nat) (post : Int32 → Prop) (hret : ∀ (r : Int32) (S' : hS) (pc : Nat) (lv : List (Nat × Value)) (k n : Nat), k ≤ 0 → n ≤ 0 → (S' = S ∧ post r) → narrow .int (.int r) = .int r → decode cX8_tokenStart pc = .ok (.ireturn, 1) → gG p l e (rm_X8_tokenStart) s m args below meth c Q D A 3 k n (hC X S') pc lv [.int r])  : ∀ (z1 : Int32), w_X8_tokenStart u post t0  z1 S → gG p l e (rm_X8_tokenStart) s m args below meth c Q D A 3 0 0 (hC X S) 0 [(0, .ref t0), (1, .int z1)] [] := by
  obtain ⟨⟨hx, hb, hml, ho, hts, hK, hA⟩, hR⟩ := id C0
  intro z1 hw H locs ls hW hl
  rw [w_X8_tokenStart] at hw
  refine lv_iload_n hx hb dX8_tokenStart_0 rfl (lv_at hl 1 rfl) ?_
  refine lv_istore_n (lv' := [(2, .int z1), (0, .ref t0), (1, .int z1)]) hx hb dX8_tokenStart_1 rfl hl (by decide) rfl (fun ls hl9 => ?_)
  replace hl := hl9
  obtain ⟨n1, hw⟩ := hw
  exact t_X8_tokenStart_2 C0 t0 post hret  n1 z1   hw _ _ _ hW (lv_sub hl [1, 0] rfl)
set_option maxHeartbeats 4000000 in
set_option maxRecDepth 100000 in
theorem k_X8_tokenStart {l : Launch} {D : va_G} {u : hU} {X : va_W} {sz : Nat} (post : Int32 → Prop) (t0 : Nat) (z1 : Int32) (S : hS) (hw : w_X8_tokenStart u post t0 z1 S) : hMi l yX8_tokenStart wsX8_tokenStart rm_X8_tokenStart D (gt u.2.1) u.1 u.2.2 sz X S [.ref t0, .int z1] (fun r S' => S' = S ∧ post r) 0 0 := by
  refine hMi_of (cc := cX8_tokenStart) (nL := 3) (ty := .int) (own := RX8) (by decide) rfl rfl (Nat.le_of_ble_eq_true rfl) ?_
  intro p e s m args below meth c A Q C0 hin hret
  exact t_X8_tokenStart_0 C0 t0 post hret z1 hw
abbrev rm_X8_hasToken : Room := { frames := 6, cells := 0, slots := 0, locals := 134 }
theorem in_X8_hasToken_RX8 : ∀ w ∈ wsX80, w ∈ wsX8_hasToken := fun w hw9 => List.mem_cons_of_mem _ (List.mem_append_left _ (List.mem_append_right _ hw9))
set_option maxHeartbeats 4000000 in
set_option maxRecDepth 100000 in
theorem t_X8_hasToken_0 (C0 : hX p s m args c cX8_hasToken 1 RX8 wsX8_hasToken D (gt u.2.1) A u.1 u.2.2) {S : hS} (t0 : Nat) (post : Int32 → Prop) (hret : ∀ (r : Int32) (S' : hS) (pc : Nat) (lv : List (Nat × Value)) (k n : Nat), k ≤ 0 → n ≤ 0 → (S' = S ∧ post r) → narrow .boolean (.int r) = .int r → decode cX8_hasToken pc = .ok (.ireturn, 1) → gG p l e (rm_X8_hasToken) s m args below meth c Q D A 1 k n (hC X S') pc lv [.int r])  : w_X8_hasToken u post t0   S → gG p l e (rm_X8_hasToken) s m args below meth c Q D A 1 0 0 (hC X S) 0 [(0, .ref t0)] [] := by
  obtain ⟨⟨hx, hb, hml, ho, hts, hK, hA⟩, hR⟩ := id C0
  intro  hw H locs ls hW hl
  rw [w_X8_hasToken] at hw
  refine lv_aload_n hx hb dX8_hasToken_0 rfl (lv_at hl 0 rfl) ?_
  refine lv_aload_n hx hb dX8_hasToken_1 rfl (lv_at hl 0 rfl) ?_
  obtain ⟨v1, h2, hw⟩ := hw
  refine h_getI C0 hW (T := TX8) (kf := 3) in_X8_hasToken_RX8 h2 rfl (by decide) (List.mem_of_getElem? (i := 1) rfl) rfl dX8_hasToken_2 ?_
  obtain ⟨h4, hw⟩ := hw
  refine h_goi C0 hW (va_runV (As := [.int v1]) (rest := []) ⟨hx, hb, hml, ho, hts⟩ (k_X8_tokenStart (l := l) (u := u) (X := X) (sz := H.size) _ t0 v1 S  hw) (cwV 1 hts gX8_hasToken_X8_tokenStart rfl rfl rfl (by decide +kernel) ⟨Nat.le_of_ble_eq_true rfl, Nat.le_of_ble_eq_true rfl⟩) ⟨h_blind, (h_recv C0 hW (ci := 9) rfl h4), (h_pre C0 hW [.ref t0, .int v1])⟩ rfl rfl hl.1 rfl (lv_room (Nat.le_of_ble_eq_true rfl)) dX8_hasToken_5 ⟨Nat.le_refl _, Nat.le_refl _⟩) (fun r3 S5 H locs h6 hW => ?_)
  obtain ⟨h7, hp⟩ := h6
  rw [h7] at hW
  replace hw := hp
  refine lv_aload_n hx hb dX8_hasToken_8 rfl (lv_at hl 0 rfl) ?_
  obtain ⟨o8, h9, hw⟩ := hw
  refine h_getR C0 hW (T := TX8) (kf := 0) in_X8_hasToken_RX8 h9 rfl (by decide) (List.mem_of_getElem? (i := 2) rfl) rfl dX8_hasToken_9 ?_
  obtain ⟨a10, rfl, hw⟩ := hw
  obtain ⟨h12, hw⟩ := hw
  refine h_goi C0 hW (va_runV (As := []) (rest := [.int r3]) ⟨hx, hb, hml, ho, hts⟩ (k_J0_length_8a (l := l) (u := u) (X := X) (sz := H.size) _ a10  S  hw) (cwV 0 hts gX8_hasToken_J0_length_8abf5 rfl rfl rfl (by decide +kernel) ⟨Nat.le_of_ble_eq_true rfl, Nat.le_of_ble_eq_true rfl⟩) ⟨h_blind, (h_recvS C0 hW h12), (h_pre C0 hW [.ref a10])⟩ rfl rfl hl.1 rfl (lv_room (Nat.le_of_ble_eq_true rfl)) dX8_hasToken_12 ⟨Nat.le_refl _, Nat.le_refl _⟩) (fun r11 S13 H locs h14 hW => ?_)
  obtain ⟨h15, hp⟩ := h14
  rw [h15] at hW
  replace hw := hp
  refine lv_icmp_ge (tgt := 22) hx hb dX8_hasToken_15 (by decide) (fun c16 => ?_) (fun c16 => ?_)
  · replace hw := hw.1 c16
    refine lv_iconst (v := 0) hx hb dX8_hasToken_22 (by decide) ?_
    exact hret 0 S _ _ 0 0 (Nat.le_refl _) (Nat.le_refl _) ⟨rfl, hw⟩ (by decide) dX8_hasToken_23 _ _ _ hW hl
  · replace hw := hw.2 c16
    refine lv_iconst (v := 1) hx hb dX8_hasToken_18 (by decide) ?_
    refine lv_goto (tgt := 23) hx hb dX8_hasToken_19 (by decide) ?_
    exact hret 1 S _ _ 0 0 (Nat.le_refl _) (Nat.le_refl _) ⟨rfl, hw⟩ (by decide) dX8_hasToken_23 _ _ _ hW hl
set_option maxHeartbeats 4000000 in
set_option maxRecDepth 100000 in
theorem k_X8_hasToken {l : Launch} {D : va_G} {u : hU} {X : va_W} {sz : Nat} (post : Int32 → Prop) (t0 : Nat) (S : hS) (hw : w_X8_hasToken u post t0  S) : hMi l yX8_hasToken wsX8_hasToken rm_X8_hasToken D (gt u.2.1) u.1 u.2.2 sz X S [.ref t0] (fun r S' => S' = S ∧ post r) 0 0 := by
  refine hMi_of (cc := cX8_hasToken) (nL := 1) (ty := .boolean) (own := RX8) (by decide) rfl rfl (Nat.le_of_ble_eq_true rfl) ?_
  intro p e s m args below meth c A Q C0 hin hret
  exact t_X8_hasToken_0 C0 t0 post hret  hw
abbrev rm_X8_tokenEnd : Room := { frames := 5, cells := 0, slots := 0, locals := 112 }
theorem in_X8_tokenEnd_RX8 : ∀ w ∈ wsX80, w ∈ wsX8_tokenEnd := fun w hw9 => List.mem_cons_of_mem _ (List.mem_append_left _ (List.mem_append_right _ hw9))
set_option maxHeartbeats 4000000 in
set_option maxRecDepth 100000 in
theorem t_X8_tokenEnd_32 (C0 : hX p s m args c cX8_tokenEnd 3 RX8 wsX8_tokenEnd D (gt u.2.1) A u.1 u.2.2) {S : hS} (t0 : Nat) (post : Int32 → Prop) (hret : ∀ (r : Int32) (S' : hS) (pc : Nat) (lv : List (Nat × Value)) (k n : Nat), k ≤ 0 → n ≤ 0 → (S' = S ∧ post r) → narrow .int (.int r) = .int r → decode cX8_tokenEnd pc = .ok (.ireturn, 1) → gG p l e (rm_X8_tokenEnd) s m args below meth c Q D A 3 k n (hC X S') pc lv [.int r])  : ∀ (nf : Nat) (x2 : Int32), w_X8_tokenEnd_32 u post t0  nf x2 S → gG p l e (rm_X8_tokenEnd) s m args below meth c Q D A 3 0 0 (hC X S) 32 [(0, .ref t0), (2, .int x2)] [] := by
  obtain ⟨⟨hx, hb, hml, ho, hts, hK, hA⟩, hR⟩ := id C0
  intro nf
  induction nf with
  | zero => intro x2 hw; exact hw.elim
  | succ nf ih =>
    intro x2 hw H locs ls hW hl
    rw [w_X8_tokenEnd_32] at hw
    refine lv_iload_n hx hb dX8_tokenEnd_32 rfl (lv_at hl 1 rfl) ?_
    refine lv_aload_n hx hb dX8_tokenEnd_33 rfl (lv_at hl 0 rfl) ?_
    obtain ⟨o22, h23, hw⟩ := hw
    refine h_getR C0 hW (T := TX8) (kf := 0) in_X8_tokenEnd_RX8 h23 rfl (by decide) (List.mem_of_getElem? (i := 2) rfl) rfl dX8_tokenEnd_34 ?_
    obtain ⟨a24, rfl, hw⟩ := hw
    obtain ⟨h26, hw⟩ := hw
    refine h_goi C0 hW (va_runV (As := []) (rest := [.int x2]) ⟨hx, hb, hml, ho, hts⟩ (k_J0_length_8a (l := l) (u := u) (X := X) (sz := H.size) _ a24  S  hw) (cwV 0 hts gX8_tokenEnd_J0_length_8abf5 rfl rfl rfl (by decide +kernel) ⟨Nat.le_of_ble_eq_true rfl, Nat.le_of_ble_eq_true rfl⟩) ⟨h_blind, (h_recvS C0 hW h26), (h_pre C0 hW [.ref a24])⟩ rfl rfl hl.1 rfl (lv_room (Nat.le_of_ble_eq_true rfl)) dX8_tokenEnd_37 ⟨Nat.le_refl _, Nat.le_refl _⟩) (fun r25 S27 H locs h28 hW => ?_)
    obtain ⟨h29, hp⟩ := h28
    rw [h29] at hW
    replace hw := hp
    refine lv_icmp_ge (tgt := 57) hx hb dX8_tokenEnd_40 (by decide) (fun c30 => ?_) (fun c30 => ?_)
    · replace hw := hw.1 c30
      refine lv_iload_n hx hb dX8_tokenEnd_57 rfl (lv_at hl 1 rfl) ?_
      exact hret x2 S _ _ 0 0 (Nat.le_refl _) (Nat.le_refl _) ⟨rfl, hw⟩ rfl dX8_tokenEnd_58 _ _ _ hW hl
    · replace hw := hw.2 c30
      refine lv_aload_n hx hb dX8_tokenEnd_43 rfl (lv_at hl 0 rfl) ?_
      refine lv_iload_n hx hb dX8_tokenEnd_44 rfl (lv_at hl 1 rfl) ?_
      obtain ⟨h32, hw⟩ := hw
      refine h_goi C0 hW (va_runV (As := [.int x2]) (rest := []) ⟨hx, hb, hml, ho, hts⟩ (k_X8_isDelimiter (l := l) (u := u) (X := X) (sz := H.size) _ t0 x2 S  hw) (cwV 1 hts gX8_tokenEnd_X8_isDelimiter rfl rfl rfl (by decide +kernel) ⟨Nat.le_of_ble_eq_true rfl, Nat.le_of_ble_eq_true rfl⟩) ⟨h_blind, (h_recv C0 hW (ci := 9) rfl h32), (h_pre C0 hW [.ref t0, .int x2])⟩ rfl rfl hl.1 rfl (lv_room (Nat.le_of_ble_eq_true rfl)) dX8_tokenEnd_45 ⟨Nat.le_refl _, Nat.le_refl _⟩) (fun r31 S33 H locs h34 hW => ?_)
      obtain ⟨h35, hp⟩ := h34
      rw [h35] at hW
      replace hw := hp
      refine lv_if_ne (tgt := 57) hx hb dX8_tokenEnd_48 (by decide) (fun c36 => ?_) (fun c36 => ?_)
      · replace hw := hw.1 c36
        refine lv_iload_n hx hb dX8_tokenEnd_57 rfl (lv_at hl 1 rfl) ?_
        exact hret x2 S _ _ 0 0 (Nat.le_refl _) (Nat.le_refl _) ⟨rfl, hw⟩ rfl dX8_tokenEnd_58 _ _ _ hW hl
      · replace hw := hw.2 c36
        obtain ⟨v37, ev37⟩ : ∃ y : Int32, y = x2 + 1 := ⟨_, rfl⟩
        replace hw := hw v37 ev37
        refine lv_iinc (v := v37) (lv' := [(2, .int v37), (0, .ref t0)]) hx hb dX8_tokenEnd_51 hl (k := 1) rfl (by rw [ev37]; rfl) (by decide) rfl (fun ls hl9 => ?_)
        replace hl := hl9
        refine lv_goto (tgt := 32) hx hb dX8_tokenEnd_54 (by decide) ?_
        exact ih v37   hw _ _ _ hW (lv_sub hl [1, 0] rfl)
set_option maxHeartbeats 4000000 in
set_option maxRecDepth 100000 in
theorem t_X8_tokenEnd_0 (C0 : hX p s m args c cX8_tokenEnd 3 RX8 wsX8_tokenEnd D (gt u.2.1) A u.1 u.2.2) {S : hS} (t0 : Nat) (post : Int32 → Prop) (hret : ∀ (r : Int32) (S' : hS) (pc : Nat) (lv : List (Nat × Value)) (k n : Nat), k ≤ 0 → n ≤ 0 → (S' = S ∧ post r) → narrow .int (.int r) = .int r → decode cX8_tokenEnd pc = .ok (.ireturn, 1) → gG p l e (rm_X8_tokenEnd) s m args below meth c Q D A 3 k n (hC X S') pc lv [.int r])  : ∀ (z1 : Int32), w_X8_tokenEnd u post t0  z1 S → gG p l e (rm_X8_tokenEnd) s m args below meth c Q D A 3 0 0 (hC X S) 0 [(0, .ref t0), (1, .int z1)] [] := by
  obtain ⟨⟨hx, hb, hml, ho, hts, hK, hA⟩, hR⟩ := id C0
  intro z1 hw H locs ls hW hl
  rw [w_X8_tokenEnd] at hw
  refine lv_aload_n hx hb dX8_tokenEnd_0 rfl (lv_at hl 0 rfl) ?_
  obtain ⟨v1, h2, hw⟩ := hw
  refine h_getI C0 hW (T := TX8) (kf := 1) in_X8_tokenEnd_RX8 h2 rfl (by decide) (List.mem_of_getElem? (i := 1) rfl) rfl dX8_tokenEnd_1 ?_
  refine lv_if_eq (tgt := 30) hx hb dX8_tokenEnd_4 (by decide) (fun c3 => ?_) (fun c3 => ?_)
  · replace hw := hw.1 c3
    refine lv_iload_n hx hb dX8_tokenEnd_30 rfl (lv_at hl 1 rfl) ?_
    refine lv_istore_n (lv' := [(2, .int z1), (0, .ref t0), (1, .int z1)]) hx hb dX8_tokenEnd_31 rfl hl (by decide) rfl (fun ls hl9 => ?_)
    replace hl := hl9
    obtain ⟨n4, hw⟩ := hw
    exact t_X8_tokenEnd_32 C0 t0 post hret  n4 z1   hw _ _ _ hW (lv_sub hl [1, 0] rfl)
  · replace hw := hw.2 c3
    refine lv_iload_n hx hb dX8_tokenEnd_7 rfl (lv_at hl 1 rfl) ?_
    refine lv_aload_n hx hb dX8_tokenEnd_8 rfl (lv_at hl 0 rfl) ?_
    obtain ⟨o5, h6, hw⟩ := hw
    refine h_getR C0 hW (T := TX8) (kf := 0) in_X8_tokenEnd_RX8 h6 rfl (by decide) (List.mem_of_getElem? (i := 2) rfl) rfl dX8_tokenEnd_9 ?_
    obtain ⟨a7, rfl, hw⟩ := hw
    obtain ⟨h9, hw⟩ := hw
    refine h_goi C0 hW (va_runV (As := []) (rest := [.int z1]) ⟨hx, hb, hml, ho, hts⟩ (k_J0_length_8a (l := l) (u := u) (X := X) (sz := H.size) _ a7  S  hw) (cwV 0 hts gX8_tokenEnd_J0_length_8abf5 rfl rfl rfl (by decide +kernel) ⟨Nat.le_of_ble_eq_true rfl, Nat.le_of_ble_eq_true rfl⟩) ⟨h_blind, (h_recvS C0 hW h9), (h_pre C0 hW [.ref a7])⟩ rfl rfl hl.1 rfl (lv_room (Nat.le_of_ble_eq_true rfl)) dX8_tokenEnd_12 ⟨Nat.le_refl _, Nat.le_refl _⟩) (fun r8 S10 H locs h11 hW => ?_)
    obtain ⟨h12, hp⟩ := h11
    rw [h12] at hW
    replace hw := hp
    refine lv_icmp_ge (tgt := 30) hx hb dX8_tokenEnd_15 (by decide) (fun c13 => ?_) (fun c13 => ?_)
    · replace hw := hw.1 c13
      refine lv_iload_n hx hb dX8_tokenEnd_30 rfl (lv_at hl 1 rfl) ?_
      refine lv_istore_n (lv' := [(2, .int z1), (0, .ref t0), (1, .int z1)]) hx hb dX8_tokenEnd_31 rfl hl (by decide) rfl (fun ls hl9 => ?_)
      replace hl := hl9
      obtain ⟨n14, hw⟩ := hw
      exact t_X8_tokenEnd_32 C0 t0 post hret  n14 z1   hw _ _ _ hW (lv_sub hl [1, 0] rfl)
    · replace hw := hw.2 c13
      refine lv_aload_n hx hb dX8_tokenEnd_18 rfl (lv_at hl 0 rfl) ?_
      refine lv_iload_n hx hb dX8_tokenEnd_19 rfl (lv_at hl 1 rfl) ?_
      obtain ⟨h16, hw⟩ := hw
      refine h_goi C0 hW (va_runV (As := [.int z1]) (rest := []) ⟨hx, hb, hml, ho, hts⟩ (k_X8_isDelimiter (l := l) (u := u) (X := X) (sz := H.size) _ t0 z1 S  hw) (cwV 1 hts gX8_tokenEnd_X8_isDelimiter rfl rfl rfl (by decide +kernel) ⟨Nat.le_of_ble_eq_true rfl, Nat.le_of_ble_eq_true rfl⟩) ⟨h_blind, (h_recv C0 hW (ci := 9) rfl h16), (h_pre C0 hW [.ref t0, .int z1])⟩ rfl rfl hl.1 rfl (lv_room (Nat.le_of_ble_eq_true rfl)) dX8_tokenEnd_20 ⟨Nat.le_refl _, Nat.le_refl _⟩) (fun r15 S17 H locs h18 hW => ?_)
      obtain ⟨h19, hp⟩ := h18
      rw [h19] at hW
      replace hw := hp
      refine lv_if_eq (tgt := 30) hx hb dX8_tokenEnd_23 (by decide) (fun c20 => ?_) (fun c20 => ?_)
      · replace hw := hw.1 c20
        refine lv_iload_n hx hb dX8_tokenEnd_30 rfl (lv_at hl 1 rfl) ?_
        refine lv_istore_n (lv' := [(2, .int z1), (0, .ref t0), (1, .int z1)]) hx hb dX8_tokenEnd_31 rfl hl (by decide) rfl (fun ls hl9 => ?_)
        replace hl := hl9
        obtain ⟨n21, hw⟩ := hw
        exact t_X8_tokenEnd_32 C0 t0 post hret  n21 z1   hw _ _ _ hW (lv_sub hl [1, 0] rfl)
      · replace hw := hw.2 c20
        refine lv_iload_n hx hb dX8_tokenEnd_26 rfl (lv_at hl 1 rfl) ?_
        refine lv_iconst (v := 1) hx hb dX8_tokenEnd_27 (by decide) ?_
        refine lv_iadd hx hb dX8_tokenEnd_28 ?_
        exact hret (z1 + 1) S _ _ 0 0 (Nat.le_refl _) (Nat.le_refl _) ⟨rfl, hw⟩ rfl dX8_tokenEnd_29 _ _ _ hW hl
set_option maxHeartbeats 4000000 in
set_option maxRecDepth 100000 in
theorem k_X8_tokenEnd {l : Launch} {D : va_G} {u : hU} {X : va_W} {sz : Nat} (post : Int32 → Prop) (t0 : Nat) (z1 : Int32) (S : hS) (hw : w_X8_tokenEnd u post t0 z1 S) : hMi l yX8_tokenEnd wsX8_tokenEnd rm_X8_tokenEnd D (gt u.2.1) u.1 u.2.2 sz X S [.ref t0, .int z1] (fun r S' => S' = S ∧ post r) 0 0 := by
  refine hMi_of (cc := cX8_tokenEnd) (nL := 3) (ty := .int) (own := RX8) (by decide) rfl rfl (Nat.le_of_ble_eq_true rfl) ?_
  intro p e s m args below meth c A Q C0 hin hret
  exact t_X8_tokenEnd_0 C0 t0 post hret z1 hw
abbrev rm_X8_tokensLeft : Room := { frames := 6, cells := 0, slots := 0, locals := 134 }
theorem in_X8_tokensLeft_RX8 : ∀ w ∈ wsX80, w ∈ wsX8_tokensLeft := fun w hw9 => List.mem_cons_of_mem _ (List.mem_append_left _ (List.mem_append_right _ hw9))
set_option maxHeartbeats 4000000 in
set_option maxRecDepth 100000 in
theorem t_X8_tokensLeft_11 (C0 : hX p s m args c cX8_tokensLeft 3 RX8 wsX8_tokensLeft D (gt u.2.1) A u.1 u.2.2) {S : hS} (t0 : Nat) (post : Int32 → Prop) (hret : ∀ (r : Int32) (S' : hS) (pc : Nat) (lv : List (Nat × Value)) (k n : Nat), k ≤ 0 → n ≤ 0 → (S' = S ∧ post r) → narrow .int (.int r) = .int r → decode cX8_tokensLeft pc = .ok (.ireturn, 1) → gG p l e (rm_X8_tokensLeft) s m args below meth c Q D A 3 k n (hC X S') pc lv [.int r])  : ∀ (nf : Nat) (x1 : Int32) (x2 : Int32), w_X8_tokensLeft_11 u post t0  nf x1 x2 S → gG p l e (rm_X8_tokensLeft) s m args below meth c Q D A 3 0 0 (hC X S) 11 [(0, .ref t0), (1, .int x1), (2, .int x2)] [] := by
  obtain ⟨⟨hx, hb, hml, ho, hts, hK, hA⟩, hR⟩ := id C0
  intro nf
  induction nf with
  | zero => intro x1 x2 hw; exact hw.elim
  | succ nf ih =>
    intro x1 x2 hw H locs ls hW hl
    rw [w_X8_tokensLeft_11] at hw
    refine lv_iload_n hx hb dX8_tokensLeft_11 rfl (lv_at hl 2 rfl) ?_
    refine lv_aload_n hx hb dX8_tokensLeft_12 rfl (lv_at hl 0 rfl) ?_
    obtain ⟨o9, h10, hw⟩ := hw
    refine h_getR C0 hW (T := TX8) (kf := 0) in_X8_tokensLeft_RX8 h10 rfl (by decide) (List.mem_of_getElem? (i := 2) rfl) rfl dX8_tokensLeft_13 ?_
    obtain ⟨a11, rfl, hw⟩ := hw
    obtain ⟨h13, hw⟩ := hw
    refine h_goi C0 hW (va_runV (As := []) (rest := [.int x2]) ⟨hx, hb, hml, ho, hts⟩ (k_J0_length_8a (l := l) (u := u) (X := X) (sz := H.size) _ a11  S  hw) (cwV 0 hts gX8_tokensLeft_J0_length_8abf5 rfl rfl rfl (by decide +kernel) ⟨Nat.le_of_ble_eq_true rfl, Nat.le_of_ble_eq_true rfl⟩) ⟨h_blind, (h_recvS C0 hW h13), (h_pre C0 hW [.ref a11])⟩ rfl rfl hl.1 rfl (lv_room (Nat.le_of_ble_eq_true rfl)) dX8_tokensLeft_16 ⟨Nat.le_refl _, Nat.le_refl _⟩) (fun r12 S14 H locs h15 hW => ?_)
    obtain ⟨h16, hp⟩ := h15
    rw [h16] at hW
    replace hw := hp
    refine lv_icmp_ge (tgt := 49) hx hb dX8_tokensLeft_19 (by decide) (fun c17 => ?_) (fun c17 => ?_)
    · replace hw := hw.1 c17
      refine lv_iload_n hx hb dX8_tokensLeft_49 rfl (lv_at hl 1 rfl) ?_
      exact hret x1 S _ _ 0 0 (Nat.le_refl _) (Nat.le_refl _) ⟨rfl, hw⟩ rfl dX8_tokensLeft_50 _ _ _ hW hl
    · replace hw := hw.2 c17
      refine lv_iload_n hx hb dX8_tokensLeft_22 rfl (lv_at hl 1 rfl) ?_
      refine lv_aload_n hx hb dX8_tokensLeft_23 rfl (lv_at hl 0 rfl) ?_
      obtain ⟨o18, h19, hw⟩ := hw
      refine h_getR C0 hW (T := TX8) (kf := 0) in_X8_tokensLeft_RX8 h19 rfl (by decide) (List.mem_of_getElem? (i := 2) rfl) rfl dX8_tokensLeft_24 ?_
      obtain ⟨a20, rfl, hw⟩ := hw
      obtain ⟨h22, hw⟩ := hw
      refine h_goi C0 hW (va_runV (As := []) (rest := [.int x1]) ⟨hx, hb, hml, ho, hts⟩ (k_J0_length_8a (l := l) (u := u) (X := X) (sz := H.size) _ a20  S  hw) (cwV 0 hts gX8_tokensLeft_J0_length_8abf5 rfl rfl rfl (by decide +kernel) ⟨Nat.le_of_ble_eq_true rfl, Nat.le_of_ble_eq_true rfl⟩) ⟨h_blind, (h_recvS C0 hW h22), (h_pre C0 hW [.ref a20])⟩ rfl rfl hl.1 rfl (lv_room (Nat.le_of_ble_eq_true rfl)) dX8_tokensLeft_27 ⟨Nat.le_refl _, Nat.le_refl _⟩) (fun r21 S23 H locs h24 hW => ?_)
      obtain ⟨h25, hp⟩ := h24
      rw [h25] at hW
      replace hw := hp
      refine lv_icmp_ge (tgt := 49) hx hb dX8_tokensLeft_30 (by decide) (fun c26 => ?_) (fun c26 => ?_)
      · replace hw := hw.1 c26
        refine lv_iload_n hx hb dX8_tokensLeft_49 rfl (lv_at hl 1 rfl) ?_
        exact hret x1 S _ _ 0 0 (Nat.le_refl _) (Nat.le_refl _) ⟨rfl, hw⟩ rfl dX8_tokensLeft_50 _ _ _ hW hl
      · replace hw := hw.2 c26
        obtain ⟨v27, ev27⟩ : ∃ y : Int32, y = x1 + 1 := ⟨_, rfl⟩
        replace hw := hw v27 ev27
        refine lv_iinc (v := v27) (lv' := [(1, .int v27), (0, .ref t0), (2, .int x2)]) hx hb dX8_tokensLeft_33 hl (k := 1) rfl (by rw [ev27]; rfl) (by decide) rfl (fun ls hl9 => ?_)
        replace hl := hl9
        refine lv_aload_n hx hb dX8_tokensLeft_36 rfl (lv_at hl 1 rfl) ?_
        refine lv_aload_n hx hb dX8_tokensLeft_37 rfl (lv_at hl 1 rfl) ?_
        refine lv_iload_n hx hb dX8_tokensLeft_38 rfl (lv_at hl 2 rfl) ?_
        obtain ⟨h29, hw⟩ := hw
        refine h_goi C0 hW (va_runV (As := [.int x2]) (rest := [.ref t0]) ⟨hx, hb, hml, ho, hts⟩ (k_X8_tokenEnd (l := l) (u := u) (X := X) (sz := H.size) _ t0 x2 S  hw) (cwV 1 hts gX8_tokensLeft_X8_tokenEnd rfl rfl rfl (by decide +kernel) ⟨Nat.le_of_ble_eq_true rfl, Nat.le_of_ble_eq_true rfl⟩) ⟨h_blind, (h_recv C0 hW (ci := 9) rfl h29), (h_pre C0 hW [.ref t0, .int x2])⟩ rfl rfl hl.1 rfl (lv_room (Nat.le_of_ble_eq_true rfl)) dX8_tokensLeft_39 ⟨Nat.le_refl _, Nat.le_refl _⟩) (fun r28 S30 H locs h31 hW => ?_)
        obtain ⟨h32, hp⟩ := h31
        rw [h32] at hW
        replace hw := hp
        obtain ⟨h34, hw⟩ := hw
        refine h_goi C0 hW (va_runV (As := [.int r28]) (rest := []) ⟨hx, hb, hml, ho, hts⟩ (k_X8_tokenStart (l := l) (u := u) (X := X) (sz := H.size) _ t0 r28 S  hw) (cwV 1 hts gX8_tokensLeft_X8_tokenStart rfl rfl rfl (by decide +kernel) ⟨Nat.le_of_ble_eq_true rfl, Nat.le_of_ble_eq_true rfl⟩) ⟨h_blind, (h_recv C0 hW (ci := 9) rfl h34), (h_pre C0 hW [.ref t0, .int r28])⟩ rfl rfl hl.1 rfl (lv_room (Nat.le_of_ble_eq_true rfl)) dX8_tokensLeft_42 ⟨Nat.le_refl _, Nat.le_refl _⟩) (fun r33 S35 H locs h36 hW => ?_)
        obtain ⟨h37, hp⟩ := h36
        rw [h37] at hW
        replace hw := hp
        refine lv_istore_n (lv' := [(2, .int r33), (1, .int v27), (0, .ref t0)]) hx hb dX8_tokensLeft_45 rfl hl (by decide) rfl (fun ls hl9 => ?_)
        replace hl := hl9
        refine lv_goto (tgt := 11) hx hb dX8_tokensLeft_46 (by decide) ?_
        exact ih v27 r33   hw _ _ _ hW (lv_sub hl [2, 1, 0] rfl)
set_option maxHeartbeats 4000000 in
set_option maxRecDepth 100000 in
theorem t_X8_tokensLeft_0 (C0 : hX p s m args c cX8_tokensLeft 3 RX8 wsX8_tokensLeft D (gt u.2.1) A u.1 u.2.2) {S : hS} (t0 : Nat) (post : Int32 → Prop) (hret : ∀ (r : Int32) (S' : hS) (pc : Nat) (lv : List (Nat × Value)) (k n : Nat), k ≤ 0 → n ≤ 0 → (S' = S ∧ post r) → narrow .int (.int r) = .int r → decode cX8_tokensLeft pc = .ok (.ireturn, 1) → gG p l e (rm_X8_tokensLeft) s m args below meth c Q D A 3 k n (hC X S') pc lv [.int r])  : w_X8_tokensLeft u post t0   S → gG p l e (rm_X8_tokensLeft) s m args below meth c Q D A 3 0 0 (hC X S) 0 [(0, .ref t0)] [] := by
  obtain ⟨⟨hx, hb, hml, ho, hts, hK, hA⟩, hR⟩ := id C0
  intro  hw H locs ls hW hl
  rw [w_X8_tokensLeft] at hw
  refine lv_iconst (v := 0) hx hb dX8_tokensLeft_0 (by decide) ?_
  refine lv_istore_n (lv' := [(1, .int 0), (0, .ref t0)]) hx hb dX8_tokensLeft_1 rfl hl (by decide) rfl (fun ls hl9 => ?_)
  replace hl := hl9
  refine lv_aload_n hx hb dX8_tokensLeft_2 rfl (lv_at hl 1 rfl) ?_
  refine lv_aload_n hx hb dX8_tokensLeft_3 rfl (lv_at hl 1 rfl) ?_
  obtain ⟨v1, h2, hw⟩ := hw
  refine h_getI C0 hW (T := TX8) (kf := 3) in_X8_tokensLeft_RX8 h2 rfl (by decide) (List.mem_of_getElem? (i := 1) rfl) rfl dX8_tokensLeft_4 ?_
  obtain ⟨h4, hw⟩ := hw
  refine h_goi C0 hW (va_runV (As := [.int v1]) (rest := []) ⟨hx, hb, hml, ho, hts⟩ (k_X8_tokenStart (l := l) (u := u) (X := X) (sz := H.size) _ t0 v1 S  hw) (cwV 1 hts gX8_tokensLeft_X8_tokenStart rfl rfl rfl (by decide +kernel) ⟨Nat.le_of_ble_eq_true rfl, Nat.le_of_ble_eq_true rfl⟩) ⟨h_blind, (h_recv C0 hW (ci := 9) rfl h4), (h_pre C0 hW [.ref t0, .int v1])⟩ rfl rfl hl.1 rfl (lv_room (Nat.le_of_ble_eq_true rfl)) dX8_tokensLeft_7 ⟨Nat.le_refl _, Nat.le_refl _⟩) (fun r3 S5 H locs h6 hW => ?_)
  obtain ⟨h7, hp⟩ := h6
  rw [h7] at hW
  replace hw := hp
  refine lv_istore_n (lv' := [(2, .int r3), (1, .int 0), (0, .ref t0)]) hx hb dX8_tokensLeft_10 rfl hl (by decide) rfl (fun ls hl9 => ?_)
  replace hl := hl9
  obtain ⟨n8, hw⟩ := hw
  exact t_X8_tokensLeft_11 C0 t0 post hret  n8 0 r3   hw _ _ _ hW (lv_sub hl [2, 1, 0] rfl)
set_option maxHeartbeats 4000000 in
set_option maxRecDepth 100000 in
theorem k_X8_tokensLeft {l : Launch} {D : va_G} {u : hU} {X : va_W} {sz : Nat} (post : Int32 → Prop) (t0 : Nat) (S : hS) (hw : w_X8_tokensLeft u post t0  S) : hMi l yX8_tokensLeft wsX8_tokensLeft rm_X8_tokensLeft D (gt u.2.1) u.1 u.2.2 sz X S [.ref t0] (fun r S' => S' = S ∧ post r) 0 0 := by
  refine hMi_of (cc := cX8_tokensLeft) (nL := 3) (ty := .int) (own := RX8) (by decide) rfl rfl (Nat.le_of_ble_eq_true rfl) ?_
  intro p e s m args below meth c A Q C0 hin hret
  exact t_X8_tokensLeft_0 C0 t0 post hret  hw
abbrev rm_X8_takeToken (MC MS : Nat) : Room := { frames := 6, cells := MC, slots := MS, locals := 134 }
theorem in_X8_takeToken_RX8 : ∀ w ∈ wsX80, w ∈ wsX8_takeToken := fun w hw9 => List.mem_cons_of_mem _ (List.mem_append_left _ (List.mem_append_right _ hw9))
set_option maxHeartbeats 4000000 in
set_option maxRecDepth 100000 in
theorem t_X8_takeToken_0 (C0 : hX p s m args c cX8_takeToken 2 RX8 wsX8_takeToken D (gt u.2.1) A u.1 u.2.2) (t0 : Nat) (post : Option Nat → hS → Prop) (hret : ∀ (r : Option Nat) (S' : hS) (pc : Nat) (lv : List (Nat × Value)) (k n : Nat), k ≤ MC → n ≤ MS → post r S' → decode cX8_takeToken pc = .ok (.areturn, 1) → gG p l e (rm_X8_takeToken MC MS) s m args below meth c Q D A 2 k n (hC X S') pc lv [va_rf r])  : ∀ (S : hS) (mc ms k n : Nat), k + mc ≤ MC ∧ n + ms ≤ MS → w_X8_takeToken u post t0   S mc ms → gG p l e (rm_X8_takeToken MC MS) s m args below meth c Q D A 2 k n (hC X S) 0 [(0, .ref t0)] [] := by
  obtain ⟨⟨hx, hb, hml, ho, hts, hK, hA⟩, hR⟩ := id C0
  intro  S mc ms k n hkn hw H locs ls hW hl
  rw [w_X8_takeToken] at hw
  refine lv_aload_n hx hb dX8_takeToken_0 rfl (lv_at hl 0 rfl) ?_
  refine lv_aload_n hx hb dX8_takeToken_1 rfl (lv_at hl 0 rfl) ?_
  obtain ⟨v1, h2, hw⟩ := hw
  refine h_getI C0 hW (T := TX8) (kf := 3) in_X8_takeToken_RX8 h2 rfl (by decide) (List.mem_of_getElem? (i := 1) rfl) rfl dX8_takeToken_2 ?_
  obtain ⟨h4, hw⟩ := hw
  refine h_goi C0 hW (va_runV (As := [.int v1]) (rest := []) ⟨hx, hb, hml, ho, hts⟩ (k_X8_tokenStart (l := l) (u := u) (X := X) (sz := H.size) _ t0 v1 S  hw) (cwV 1 hts gX8_takeToken_X8_tokenStart rfl rfl rfl (by decide +kernel) ⟨Nat.le_of_ble_eq_true rfl, Nat.le_of_ble_eq_true rfl⟩) ⟨h_blind, (h_recv C0 hW (ci := 9) rfl h4), (h_pre C0 hW [.ref t0, .int v1])⟩ rfl rfl hl.1 rfl (lv_room (Nat.le_of_ble_eq_true rfl)) dX8_takeToken_5 ⟨by show _ ≤ MC; omega, by show _ ≤ MS; omega⟩) (fun r3 S5 H locs h6 hW => ?_)
  obtain ⟨h7, hp⟩ := h6
  rw [h7] at hW
  replace hw := hp
  refine lv_istore_n (lv' := [(1, .int r3), (0, .ref t0)]) hx hb dX8_takeToken_8 rfl hl (by decide) rfl (fun ls hl9 => ?_)
  replace hl := hl9
  refine lv_aload_n hx hb dX8_takeToken_9 rfl (lv_at hl 1 rfl) ?_
  refine lv_aload_n hx hb dX8_takeToken_10 rfl (lv_at hl 1 rfl) ?_
  refine lv_iload_n hx hb dX8_takeToken_11 rfl (lv_at hl 0 rfl) ?_
  obtain ⟨h9, hw⟩ := hw
  refine h_goi C0 hW (va_runV (As := [.int r3]) (rest := [.ref t0]) ⟨hx, hb, hml, ho, hts⟩ (k_X8_tokenEnd (l := l) (u := u) (X := X) (sz := H.size) _ t0 r3 S  hw) (cwV 1 hts gX8_takeToken_X8_tokenEnd rfl rfl rfl (by decide +kernel) ⟨Nat.le_of_ble_eq_true rfl, Nat.le_of_ble_eq_true rfl⟩) ⟨h_blind, (h_recv C0 hW (ci := 9) rfl h9), (h_pre C0 hW [.ref t0, .int r3])⟩ rfl rfl hl.1 rfl (lv_room (Nat.le_of_ble_eq_true rfl)) dX8_takeToken_12 ⟨by show _ ≤ MC; omega, by show _ ≤ MS; omega⟩) (fun r8 S10 H locs h11 hW => ?_)
  obtain ⟨h12, hp⟩ := h11
  rw [h12] at hW
  replace hw := hp
  obtain ⟨fs13, h14, h15, hw⟩ := hw
  refine h_put C0 hW (T := TX8) (kf := 3) (ty := .int) in_X8_takeToken_RX8 h14 rfl (by decide) h15 tyX8 tyX8_ok nmX8 (List.mem_of_getElem? (i := 1) rfl) rfl (Or.inl rfl) (by decide +kernel) rfl rfl dX8_takeToken_15 rfl (fun H locs hW => ?_)
  obtain ⟨S16, eS16⟩ : ∃ z : hS, z = upS S t0 (.inr (9, fs13.set 3 (.int r8))) := ⟨_, rfl⟩
  rw [← eS16] at hW
  replace hw := hw S16 eS16
  refine lv_iload_n hx hb dX8_takeToken_18 rfl (lv_at hl 0 rfl) ?_
  refine lv_aload_n hx hb dX8_takeToken_19 rfl (lv_at hl 1 rfl) ?_
  obtain ⟨v17, h18, hw⟩ := hw
  refine h_getI C0 hW (T := TX8) (kf := 3) in_X8_takeToken_RX8 h18 rfl (by decide) (List.mem_of_getElem? (i := 1) rfl) rfl dX8_takeToken_20 ?_
  refine lv_icmp_ge (tgt := 41) hx hb dX8_takeToken_23 (by decide) (fun c19 => ?_) (fun c19 => ?_)
  · replace hw := hw.1 c19
    refine va_ldcS hx hb ho C0.2.2.2.1.2.1 dX8_takeToken_41 ?_
    exact hret (some (u.1 0).1) S16 _ _ _ _ (by omega) (by omega) hw dX8_takeToken_43 _ _ _ hW hl
  · replace hw := hw.2 c19
    refine lv_aload_n hx hb dX8_takeToken_26 rfl (lv_at hl 1 rfl) ?_
    obtain ⟨o20, h21, hw⟩ := hw
    refine h_getR C0 hW (T := TX8) (kf := 0) in_X8_takeToken_RX8 h21 rfl (by decide) (List.mem_of_getElem? (i := 2) rfl) rfl dX8_takeToken_27 ?_
    refine lv_iload_n hx hb dX8_takeToken_30 rfl (lv_at hl 0 rfl) ?_
    refine lv_aload_n hx hb dX8_takeToken_31 rfl (lv_at hl 1 rfl) ?_
    obtain ⟨v22, h23, hw⟩ := hw
    refine h_getI C0 hW (T := TX8) (kf := 3) in_X8_takeToken_RX8 h23 rfl (by decide) (List.mem_of_getElem? (i := 1) rfl) rfl dX8_takeToken_32 ?_
    obtain ⟨a24, rfl, hw⟩ := hw
    obtain ⟨h30, k26, n27, h28, h29, hw⟩ := hw
    refine h_goq C0 hW (va_runV (As := [.int r3, .int v22]) (rest := []) ⟨hx, hb, hml, ho, hts⟩ (k_J0_substring_37 (l := l) (u := u) (X := X) (sz := H.size) _ a24 r3 v22 S16 k26 n27 hw) (cwV 2 hts gX8_takeToken_J0_substring_37a41 rfl rfl rfl (by decide +kernel) ⟨Nat.le_of_ble_eq_true rfl, Nat.le_of_ble_eq_true rfl⟩) ⟨h_blind, (h_recvS C0 hW h30), (h_pre C0 hW [.ref a24, .int r3, .int v22])⟩ rfl rfl hl.1 rfl (lv_room (Nat.le_of_ble_eq_true rfl)) dX8_takeToken_35 ⟨by show _ ≤ MC; omega, by show _ ≤ MS; omega⟩) (fun r25 S31 H locs h32 hW => ?_)
    replace hw := h32
    have hkn : (k + k26) + (mc - k26) ≤ MC ∧ (n + n27) + (ms - n27) ≤ MS := by omega
    refine lv_goto (tgt := 43) hx hb dX8_takeToken_38 (by decide) ?_
    exact hret r25 S31 _ _ _ _ (by omega) (by omega) hw dX8_takeToken_43 _ _ _ hW hl
set_option maxHeartbeats 4000000 in
set_option maxRecDepth 100000 in
theorem k_X8_takeToken {l : Launch} {D : va_G} {u : hU} {X : va_W} {sz : Nat} (post : Option Nat → hS → Prop) (t0 : Nat) (S : hS) (mc ms : Nat) (hw : w_X8_takeToken u post t0  S mc ms) : hMq l yX8_takeToken wsX8_takeToken (rm_X8_takeToken mc ms) D (gt u.2.1) u.1 u.2.2 sz X S [.ref t0] post mc ms := by
  refine hMq_of (cc := cX8_takeToken) (nL := 2) (ty := (.object "java/lang/String")) (own := RX8) (by decide) rfl rfl (Nat.le_of_ble_eq_true rfl) (Or.inl ⟨_, rfl⟩) ?_
  intro p e s m args below meth c A Q C0 hin hret
  exact t_X8_takeToken_0 C0 t0 post hret  S mc ms 0 0 ⟨by omega, by omega⟩ hw
abbrev rm_X9_init (MC MS : Nat) : Room := { frames := 4, cells := MC, slots := MS, locals := 73 }
theorem in_X9_init_RX3 : ∀ w ∈ wsX30, w ∈ wsX9_init := fun w hw9 => List.mem_cons_of_mem _ (List.mem_append_left _ (List.mem_append_right _ hw9))
theorem in_X9_init_RX4 : ∀ w ∈ wsX40, w ∈ wsX9_init := fun w hw9 => List.mem_cons_of_mem _ (List.mem_append_left _ (List.mem_append_left _ (List.mem_append_right _ hw9)))
theorem in_X9_init_RX6 : ∀ w ∈ wsX60, w ∈ wsX9_init := fun w hw9 => List.mem_cons_of_mem _ (List.mem_append_left _ (List.mem_append_left _ (List.mem_append_left _ (List.mem_append_left _ (List.mem_append_right _ hw9)))))
theorem in_X9_init_RX7 : ∀ w ∈ wsX70, w ∈ wsX9_init := fun w hw9 => List.mem_cons_of_mem _ (List.mem_append_left _ (List.mem_append_left _ (List.mem_append_left _ (List.mem_append_right _ hw9))))
theorem in_X9_init_RX9 : ∀ w ∈ wsX90, w ∈ wsX9_init := fun w hw9 => List.mem_cons_of_mem _ (List.mem_append_left _ (List.mem_append_left _ (List.mem_append_left _ (List.mem_append_left _ (List.mem_append_left _ (List.mem_append_right _ hw9))))))
set_option maxHeartbeats 4000000 in
set_option maxRecDepth 100000 in
theorem t_X9_init_15 (C0 : hX p s m args c cX9_init 2 RX9 wsX9_init D (gt u.2.1) A u.1 u.2.2) (hin : yX9_init.name = "<init>" → meth.name = "<init>") (t0 : Nat) (post : hS → Prop) (hret : ∀ (S' : hS) (pc : Nat) (lv : List (Nat × Value)) (k n : Nat), k ≤ MC → n ≤ MS → post S' → decode cX9_init pc = .ok (.return_, 1) → gG p l e (rm_X9_init MC MS) s m args below meth c Q D A 2 k n (hC X S') pc lv [])  : ∀ (nf : Nat) (x1 : Int32) (S : hS) (mc ms k n : Nat), k + mc ≤ MC ∧ n + ms ≤ MS → w_X9_init_15 u post t0  nf x1 S mc ms → gG p l e (rm_X9_init MC MS) s m args below meth c Q D A 2 k n (hC X S) 15 [(0, .ref t0), (1, .int x1)] [] := by
  obtain ⟨⟨hx, hb, hml, ho, hts, hK, hA⟩, hR⟩ := id C0
  intro nf
  induction nf with
  | zero => intro x1 S mc ms k n hkn hw; exact hw.elim
  | succ nf ih =>
    intro x1 S mc ms k n hkn hw H locs ls hW hl
    rw [w_X9_init_15] at hw
    refine lv_iload_n hx hb dX9_init_15 rfl (lv_at hl 1 rfl) ?_
    refine lv_bipush (v := 6) hx hb dX9_init_16 (by decide) ?_
    refine lv_icmp_ge (tgt := 40) hx hb dX9_init_18 (by decide) (fun c15 => ?_) (fun c15 => ?_)
    · replace hw := hw.1 c15
      refine lv_aload_n hx hb dX9_init_40 rfl (lv_at hl 0 rfl) ?_
      obtain ⟨h19, h20, hw⟩ := hw
      refine h_new C0 hW (ci := 8) (fs := [.null, .null, .null, .int 0, .int 0, .int 0, .int 0]) in_X9_init_RX7 rfl tyX7 tyX7_ok (List.mem_of_getElem? (i := 8) rfl) (List.mem_of_getElem? (i := 9) rfl) (List.mem_of_getElem? (i := 10) rfl) (fun j hj => by rcases (show j = 0 ∨ j = 1 ∨ j = 2 ∨ j = 3 ∨ j = 4 ∨ j = 5 ∨ j = 6 by omega) with rfl | rfl | rfl | rfl | rfl | rfl | rfl <;> rfl) (by show _ ≤ MC; omega) (by show _ ≤ MS; omega) dX9_init_41 (fun q16 H h17 hW => ?_)
      obtain ⟨S18, eS18⟩ : ∃ z : hS, z = adS S q16 (.inr (8, [.null, .null, .null, .int 0, .int 0, .int 0, .int 0])) := ⟨_, rfl⟩
      rw [← eS18] at hW
      replace hw := hw q16 S18 h17 eS18
      have hkn : (k + 1) + (mc - 1) ≤ MC ∧ (n + 7) + (ms - 7) ≤ MS := by omega
      refine lv_dup hx hb dX9_init_44 rfl ?_
      obtain ⟨k22, n23, h24, h25, hw⟩ := hw
      refine h_gov C0 hW (va_runIN (As := []) (rest := [.ref q16, .ref t0]) (host := RX9) ⟨hx, hb, hml, ho, hts⟩ (k_X7_init (l := l) (u := u) (X := X) (sz := H.size) _ q16  S18 k22 n23 hw) ⟨va_cnB 0 hts gX9_init_X7_init_n18 rfl rfl rfl (C0.2.2.2.2 _ (by decide +kernel)) (hts _ (List.mem_of_getElem? (i := 10) rfl)) (by decide +kernel) ⟨Nat.le_of_ble_eq_true rfl, Nat.le_of_ble_eq_true rfl⟩, rfl, hts _ (List.mem_of_getElem? (i := 30) rfl)⟩ ⟨h_blind, (h_pre C0 hW [.ref q16])⟩ rfl rfl hl.1 rfl (lv_room (Nat.le_of_ble_eq_true rfl)) dX9_init_45 ⟨by show _ ≤ MC; omega, by show _ ≤ MS; omega⟩) (fun S26 H locs h27 hW => ?_)
      replace hw := h27
      have hkn : ((k + 1) + k22) + ((mc - 1) - k22) ≤ MC ∧ ((n + 7) + n23) + ((ms - 7) - n23) ≤ MS := by omega
      obtain ⟨fs28, h29, h30, hw⟩ := hw
      refine h_put C0 hW (T := TX9) (kf := 1) (ty := .object "SettingsDrawer$Tape") in_X9_init_RX9 h29 rfl (by decide) h30 tyX9 tyX9_ok nmX9 (List.mem_of_getElem? (i := 11) rfl) rfl (Or.inr ⟨rfl, hin rfl, rfl⟩) (by decide +kernel) rfl rfl dX9_init_48 rfl (fun H locs hW => ?_)
      obtain ⟨S31, eS31⟩ : ∃ z : hS, z = upS S26 t0 (.inr (10, fs28.set 1 (.ref q16))) := ⟨_, rfl⟩
      rw [← eS31] at hW
      replace hw := hw S31 eS31
      refine lv_aload_n hx hb dX9_init_51 rfl (lv_at hl 0 rfl) ?_
      obtain ⟨h35, h36, hw⟩ := hw
      refine h_new C0 hW (ci := 5) (fs := [.null]) in_X9_init_RX4 rfl tyX4 tyX4_ok (List.mem_of_getElem? (i := 12) rfl) (List.mem_of_getElem? (i := 13) rfl) (List.mem_of_getElem? (i := 14) rfl) (fun j hj => by rcases (show j = 0 by omega) with rfl <;> rfl) (by show _ ≤ MC; omega) (by show _ ≤ MS; omega) dX9_init_52 (fun q32 H h33 hW => ?_)
      obtain ⟨S34, eS34⟩ : ∃ z : hS, z = adS S31 q32 (.inr (5, [.null])) := ⟨_, rfl⟩
      rw [← eS34] at hW
      replace hw := hw q32 S34 h33 eS34
      have hkn : (((k + 1) + k22) + 1) + (((mc - 1) - k22) - 1) ≤ MC ∧ (((n + 7) + n23) + 1) + (((ms - 7) - n23) - 1) ≤ MS := by omega
      refine lv_dup hx hb dX9_init_55 rfl ?_
      obtain ⟨k38, n39, h40, h41, hw⟩ := hw
      refine h_gov C0 hW (va_runI (As := []) (rest := [.ref q32, .ref t0]) ⟨hx, hb, hml, ho, hts⟩ (k_X4_init (l := l) (u := u) (X := X) (sz := H.size) _ q32  S34 k38 n39 hw) (cwI 0 hts gX9_init_X4_init rfl rfl rfl (hts _ (List.mem_of_getElem? (i := 14) rfl)) (hts _ (List.mem_of_getElem? (i := 60) rfl)) (hts _ (List.mem_of_getElem? (i := 61) rfl)) rfl (by decide +kernel) ⟨Nat.le_of_ble_eq_true rfl, Nat.le_of_ble_eq_true rfl⟩) ⟨h_blind, (h_pre C0 hW [.ref q32])⟩ rfl rfl hl.1 rfl (lv_room (Nat.le_of_ble_eq_true rfl)) dX9_init_56 ⟨by show _ ≤ MC; omega, by show _ ≤ MS; omega⟩) (fun S42 H locs h43 hW => ?_)
      replace hw := h43
      have hkn : ((((k + 1) + k22) + 1) + k38) + ((((mc - 1) - k22) - 1) - k38) ≤ MC ∧ ((((n + 7) + n23) + 1) + n39) + ((((ms - 7) - n23) - 1) - n39) ≤ MS := by omega
      obtain ⟨fs44, h45, h46, hw⟩ := hw
      refine h_put C0 hW (T := TX9) (kf := 2) (ty := .object "SettingsDrawer$LayerPile") in_X9_init_RX9 h45 rfl (by decide) h46 tyX9 tyX9_ok nmX9 (List.mem_of_getElem? (i := 15) rfl) rfl (Or.inr ⟨rfl, hin rfl, rfl⟩) (by decide +kernel) rfl rfl dX9_init_59 rfl (fun H locs hW => ?_)
      obtain ⟨S47, eS47⟩ : ∃ z : hS, z = upS S42 t0 (.inr (10, fs44.set 2 (.ref q32))) := ⟨_, rfl⟩
      rw [← eS47] at hW
      replace hw := hw S47 eS47
      refine lv_aload_n hx hb dX9_init_62 rfl (lv_at hl 0 rfl) ?_
      obtain ⟨h51, h52, hw⟩ := hw
      refine h_new C0 hW (ci := 4) (fs := [.null, .int 0]) in_X9_init_RX3 rfl tyX3 tyX3_ok (List.mem_of_getElem? (i := 16) rfl) (List.mem_of_getElem? (i := 17) rfl) (List.mem_of_getElem? (i := 18) rfl) (fun j hj => by rcases (show j = 0 ∨ j = 1 by omega) with rfl | rfl <;> rfl) (by show _ ≤ MC; omega) (by show _ ≤ MS; omega) dX9_init_63 (fun q48 H h49 hW => ?_)
      obtain ⟨S50, eS50⟩ : ∃ z : hS, z = adS S47 q48 (.inr (4, [.null, .int 0])) := ⟨_, rfl⟩
      rw [← eS50] at hW
      replace hw := hw q48 S50 h49 eS50
      have hkn : (((((k + 1) + k22) + 1) + k38) + 1) + (((((mc - 1) - k22) - 1) - k38) - 1) ≤ MC ∧ (((((n + 7) + n23) + 1) + n39) + 2) + (((((ms - 7) - n23) - 1) - n39) - 2) ≤ MS := by omega
      refine lv_dup hx hb dX9_init_66 rfl ?_
      obtain ⟨k54, n55, h56, h57, hw⟩ := hw
      refine h_gov C0 hW (va_runIN (As := []) (rest := [.ref q48, .ref t0]) (host := RX9) ⟨hx, hb, hml, ho, hts⟩ (k_X3_init (l := l) (u := u) (X := X) (sz := H.size) _ q48  S50 k54 n55 hw) ⟨va_cnB 0 hts gX9_init_X3_init_n32 rfl rfl rfl (C0.2.2.2.2 _ (by decide +kernel)) (hts _ (List.mem_of_getElem? (i := 18) rfl)) (by decide +kernel) ⟨Nat.le_of_ble_eq_true rfl, Nat.le_of_ble_eq_true rfl⟩, rfl, hts _ (List.mem_of_getElem? (i := 66) rfl)⟩ ⟨h_blind, (h_pre C0 hW [.ref q48])⟩ rfl rfl hl.1 rfl (lv_room (Nat.le_of_ble_eq_true rfl)) dX9_init_67 ⟨by show _ ≤ MC; omega, by show _ ≤ MS; omega⟩) (fun S58 H locs h59 hW => ?_)
      replace hw := h59
      have hkn : ((((((k + 1) + k22) + 1) + k38) + 1) + k54) + ((((((mc - 1) - k22) - 1) - k38) - 1) - k54) ≤ MC ∧ ((((((n + 7) + n23) + 1) + n39) + 2) + n55) + ((((((ms - 7) - n23) - 1) - n39) - 2) - n55) ≤ MS := by omega
      obtain ⟨fs60, h61, h62, hw⟩ := hw
      refine h_put C0 hW (T := TX9) (kf := 3) (ty := .object "SettingsDrawer$Layer") in_X9_init_RX9 h61 rfl (by decide) h62 tyX9 tyX9_ok nmX9 (List.mem_of_getElem? (i := 19) rfl) rfl (Or.inr ⟨rfl, hin rfl, rfl⟩) (by decide +kernel) rfl rfl dX9_init_70 rfl (fun H locs hW => ?_)
      obtain ⟨S63, eS63⟩ : ∃ z : hS, z = upS S58 t0 (.inr (10, fs60.set 3 (.ref q48))) := ⟨_, rfl⟩
      rw [← eS63] at hW
      replace hw := hw S63 eS63
      refine lv_aload_n hx hb dX9_init_73 rfl (lv_at hl 0 rfl) ?_
      refine lv_iconst (v := 2) hx hb dX9_init_74 (by decide) ?_
      obtain ⟨N71, h72, h70, h67, h68, hw⟩ := hw
      refine h_newQ C0 hW 5 rfl (List.mem_of_getElem? (i := 12) rfl) (by decide +kernel) (N := N71) (by rw [h72]; exact nI_pos (by omega)) (by rw [h72]; exact nI_clamp (by omega)) h70 (by show _ ≤ MC; omega) (by show _ ≤ MS; omega) dX9_init_75 (fun q64 H h65 hW => ?_)
      obtain ⟨S66, eS66⟩ : ∃ z : hS, z = adS S63 q64 (.inl (u.2.1 5, N71, .inr (.inr (.inr (.inr (fun _ => none)))))) := ⟨_, rfl⟩
      rw [← eS66] at hW
      replace hw := hw q64 S66 h65 eS66
      have hkn : (((((((k + 1) + k22) + 1) + k38) + 1) + k54) + 1) + (((((((mc - 1) - k22) - 1) - k38) - 1) - k54) - 1) ≤ MC ∧ (((((((n + 7) + n23) + 1) + n39) + 2) + n55) + N71) + (((((((ms - 7) - n23) - 1) - n39) - 2) - n55) - N71) ≤ MS := by omega
      obtain ⟨fs73, h74, h75, hw⟩ := hw
      refine h_put C0 hW (T := TX9) (kf := 4) (ty := .array (.object "SettingsDrawer$LayerPile")) in_X9_init_RX9 h74 rfl (by decide) h75 tyX9 tyX9_ok nmX9 (List.mem_of_getElem? (i := 20) rfl) rfl (Or.inr ⟨rfl, hin rfl, rfl⟩) (by decide +kernel) rfl rfl dX9_init_78 rfl (fun H locs hW => ?_)
      obtain ⟨S76, eS76⟩ : ∃ z : hS, z = upS S66 t0 (.inr (10, fs73.set 4 (.ref q64))) := ⟨_, rfl⟩
      rw [← eS76] at hW
      replace hw := hw S76 eS76
      refine lv_aload_n hx hb dX9_init_81 rfl (lv_at hl 0 rfl) ?_
      refine lv_iconst (v := 2) hx hb dX9_init_82 (by decide) ?_
      obtain ⟨N84, h85, h83, h80, h81, hw⟩ := hw
      refine h_newQ C0 hW 6 rfl (List.mem_of_getElem? (i := 21) rfl) (by decide +kernel) (N := N84) (by rw [h85]; exact nI_pos (by omega)) (by rw [h85]; exact nI_clamp (by omega)) h83 (by show _ ≤ MC; omega) (by show _ ≤ MS; omega) dX9_init_83 (fun q77 H h78 hW => ?_)
      obtain ⟨S79, eS79⟩ : ∃ z : hS, z = adS S76 q77 (.inl (u.2.1 6, N84, .inr (.inr (.inr (.inr (fun _ => none)))))) := ⟨_, rfl⟩
      rw [← eS79] at hW
      replace hw := hw q77 S79 h78 eS79
      have hkn : ((((((((k + 1) + k22) + 1) + k38) + 1) + k54) + 1) + 1) + ((((((((mc - 1) - k22) - 1) - k38) - 1) - k54) - 1) - 1) ≤ MC ∧ ((((((((n + 7) + n23) + 1) + n39) + 2) + n55) + N71) + N84) + ((((((((ms - 7) - n23) - 1) - n39) - 2) - n55) - N71) - N84) ≤ MS := by omega
      obtain ⟨fs86, h87, h88, hw⟩ := hw
      refine h_put C0 hW (T := TX9) (kf := 5) (ty := .array (.object "SettingsDrawer$Tokenizer")) in_X9_init_RX9 h87 rfl (by decide) h88 tyX9 tyX9_ok nmX9 (List.mem_of_getElem? (i := 22) rfl) rfl (Or.inr ⟨rfl, hin rfl, rfl⟩) (by decide +kernel) rfl rfl dX9_init_86 rfl (fun H locs hW => ?_)
      obtain ⟨S89, eS89⟩ : ∃ z : hS, z = upS S79 t0 (.inr (10, fs86.set 5 (.ref q77))) := ⟨_, rfl⟩
      rw [← eS89] at hW
      replace hw := hw S89 eS89
      refine lv_aload_n hx hb dX9_init_89 rfl (lv_at hl 0 rfl) ?_
      refine lv_iconst (v := 3) hx hb dX9_init_90 (by decide) ?_
      obtain ⟨N97, h98, h96, h93, h94, hw⟩ := hw
      refine h_newQ C0 hW 7 rfl (List.mem_of_getElem? (i := 23) rfl) (by decide +kernel) (N := N97) (by rw [h98]; exact nI_pos (by omega)) (by rw [h98]; exact nI_clamp (by omega)) h96 (by show _ ≤ MC; omega) (by show _ ≤ MS; omega) dX9_init_91 (fun q90 H h91 hW => ?_)
      obtain ⟨S92, eS92⟩ : ∃ z : hS, z = adS S89 q90 (.inl (u.2.1 7, N97, .inr (.inr (.inr (.inr (fun _ => none)))))) := ⟨_, rfl⟩
      rw [← eS92] at hW
      replace hw := hw q90 S92 h91 eS92
      have hkn : (((((((((k + 1) + k22) + 1) + k38) + 1) + k54) + 1) + 1) + 1) + (((((((((mc - 1) - k22) - 1) - k38) - 1) - k54) - 1) - 1) - 1) ≤ MC ∧ (((((((((n + 7) + n23) + 1) + n39) + 2) + n55) + N71) + N84) + N97) + (((((((((ms - 7) - n23) - 1) - n39) - 2) - n55) - N71) - N84) - N97) ≤ MS := by omega
      obtain ⟨fs99, h100, h101, hw⟩ := hw
      refine h_put C0 hW (T := TX9) (kf := 6) (ty := .array (.object "SettingsDrawer$Joiner")) in_X9_init_RX9 h100 rfl (by decide) h101 tyX9 tyX9_ok nmX9 (List.mem_of_getElem? (i := 24) rfl) rfl (Or.inr ⟨rfl, hin rfl, rfl⟩) (by decide +kernel) rfl rfl dX9_init_94 rfl (fun H locs hW => ?_)
      obtain ⟨S102, eS102⟩ : ∃ z : hS, z = upS S92 t0 (.inr (10, fs99.set 6 (.ref q90))) := ⟨_, rfl⟩
      rw [← eS102] at hW
      replace hw := hw S102 eS102
      refine lv_aload_n hx hb dX9_init_97 rfl (lv_at hl 0 rfl) ?_
      refine lv_iconst (v := 0) hx hb dX9_init_98 (by decide) ?_
      obtain ⟨fs103, h104, h105, hw⟩ := hw
      refine h_put C0 hW (T := TX9) (kf := 7) (ty := .int) in_X9_init_RX9 h104 rfl (by decide) h105 tyX9 tyX9_ok nmX9 (List.mem_of_getElem? (i := 25) rfl) rfl (Or.inl rfl) (by decide +kernel) rfl rfl dX9_init_99 rfl (fun H locs hW => ?_)
      obtain ⟨S106, eS106⟩ : ∃ z : hS, z = upS S102 t0 (.inr (10, fs103.set 7 (.int 0))) := ⟨_, rfl⟩
      rw [← eS106] at hW
      replace hw := hw S106 eS106
      refine lv_aload_n hx hb dX9_init_102 rfl (lv_at hl 0 rfl) ?_
      refine lv_iconst (v := 0) hx hb dX9_init_103 (by decide) ?_
      obtain ⟨fs107, h108, h109, hw⟩ := hw
      refine h_put C0 hW (T := TX9) (kf := 8) (ty := .int) in_X9_init_RX9 h108 rfl (by decide) h109 tyX9 tyX9_ok nmX9 (List.mem_of_getElem? (i := 26) rfl) rfl (Or.inl rfl) (by decide +kernel) rfl rfl dX9_init_104 rfl (fun H locs hW => ?_)
      obtain ⟨S110, eS110⟩ : ∃ z : hS, z = upS S106 t0 (.inr (10, fs107.set 8 (.int 0))) := ⟨_, rfl⟩
      rw [← eS110] at hW
      replace hw := hw S110 eS110
      exact hret S110 _ _ _ _ (by omega) (by omega) hw dX9_init_107 _ _ _ hW hl
    · replace hw := hw.2 c15
      refine lv_aload_n hx hb dX9_init_21 rfl (lv_at hl 0 rfl) ?_
      obtain ⟨o111, h112, hw⟩ := hw
      refine h_getR C0 hW (T := TX9) (kf := 0) in_X9_init_RX9 h112 rfl (by decide) (List.mem_of_getElem? (i := 5) rfl) rfl dX9_init_22 ?_
      refine lv_iload_n hx hb dX9_init_25 rfl (lv_at hl 1 rfl) ?_
      obtain ⟨h116, h117, hw⟩ := hw
      refine h_new C0 hW (ci := 7) (fs := [.null]) in_X9_init_RX6 rfl tyX6 tyX6_ok (List.mem_of_getElem? (i := 4) rfl) (List.mem_of_getElem? (i := 6) rfl) (List.mem_of_getElem? (i := 7) rfl) (fun j hj => by rcases (show j = 0 by omega) with rfl <;> rfl) (by show _ ≤ MC; omega) (by show _ ≤ MS; omega) dX9_init_26 (fun q113 H h114 hW => ?_)
      obtain ⟨S115, eS115⟩ : ∃ z : hS, z = adS S q113 (.inr (7, [.null])) := ⟨_, rfl⟩
      rw [← eS115] at hW
      replace hw := hw q113 S115 h114 eS115
      have hkn : (k + 1) + (mc - 1) ≤ MC ∧ (n + 1) + (ms - 1) ≤ MS := by omega
      refine lv_dup hx hb dX9_init_29 rfl ?_
      refine h_gov C0 hW (va_runIN (As := []) (rest := [.ref q113, .int x1, va_rf o111]) (host := RX9) ⟨hx, hb, hml, ho, hts⟩ (k_X6_init (l := l) (u := u) (X := X) (sz := H.size) _ q113  S115  hw) ⟨va_cnB 0 hts gX9_init_X6_init_n15 rfl rfl rfl (C0.2.2.2.2 _ (by decide +kernel)) (hts _ (List.mem_of_getElem? (i := 7) rfl)) (by decide +kernel) ⟨Nat.le_of_ble_eq_true rfl, Nat.le_of_ble_eq_true rfl⟩, rfl, hts _ (List.mem_of_getElem? (i := 27) rfl)⟩ ⟨h_blind, (h_pre C0 hW [.ref q113])⟩ rfl rfl hl.1 rfl (lv_room (by simp [va_rf_cat, va_c_ref, va_c_int, va_c_null])) dX9_init_30 ⟨by show _ ≤ MC; omega, by show _ ≤ MS; omega⟩) (fun S119 H locs h120 hW => ?_)
      obtain ⟨h121, hp⟩ := h120
      rw [h121] at hW
      replace hw := hp
      obtain ⟨a122, rfl, hw⟩ := hw
      obtain ⟨N123, g124, h125, h126, h128, hw⟩ := hw
      refine h_qast C0 hW 8 7 h125 rfl h128 rfl h126 dX9_init_33 (fun H locs hW => ?_)
      obtain ⟨S127, eS127⟩ : ∃ z : hS, z = upS S115 a122 (.inl (u.2.1 8, N123, .inr (.inr (.inr (.inr (va_up g124 (x1 : Int32).toNatClampNeg (some q113))))))) := ⟨_, rfl⟩
      rw [← eS127] at hW
      replace hw := hw S127 eS127
      obtain ⟨v129, ev129⟩ : ∃ y : Int32, y = x1 + 1 := ⟨_, rfl⟩
      replace hw := hw v129 ev129
      refine lv_iinc (v := v129) (lv' := [(1, .int v129), (0, .ref t0)]) hx hb dX9_init_34 hl (k := 1) rfl (by rw [ev129]; rfl) (by decide) rfl (fun ls hl9 => ?_)
      replace hl := hl9
      refine lv_goto (tgt := 15) hx hb dX9_init_37 (by decide) ?_
      exact ih v129 S127 (mc - 1) (ms - 1) _ _ hkn hw _ _ _ hW (lv_sub hl [1, 0] rfl)
set_option maxHeartbeats 4000000 in
set_option maxRecDepth 100000 in
theorem t_X9_init_0 (C0 : hX p s m args c cX9_init 2 RX9 wsX9_init D (gt u.2.1) A u.1 u.2.2) (hin : yX9_init.name = "<init>" → meth.name = "<init>") (t0 : Nat) (post : hS → Prop) (hret : ∀ (S' : hS) (pc : Nat) (lv : List (Nat × Value)) (k n : Nat), k ≤ MC → n ≤ MS → post S' → decode cX9_init pc = .ok (.return_, 1) → gG p l e (rm_X9_init MC MS) s m args below meth c Q D A 2 k n (hC X S') pc lv [])  : ∀ (S : hS) (mc ms k n : Nat), k + mc ≤ MC ∧ n + ms ≤ MS → w_X9_init u post t0   S mc ms → gG p l e (rm_X9_init MC MS) s m args below meth c Q D A 2 k n (hC X S) 0 [(0, .ref t0)] [] := by
  obtain ⟨⟨hx, hb, hml, ho, hts, hK, hA⟩, hR⟩ := id C0
  intro  S mc ms k n hkn hw H locs ls hW hl
  rw [w_X9_init] at hw
  refine lv_aload_n hx hb dX9_init_0 rfl (lv_at hl 0 rfl) ?_
  refine W.objInit hx hb ho (hts (.methodLink RX9 3 objectInit) (List.mem_of_getElem? (i := 1) rfl)) (hts (.instanceMethod objectInit) (List.mem_of_getElem? (i := 2) rfl)) (hts (.code objectInit ⟨#[0xb1]⟩ 1 none) (List.mem_of_getElem? (i := 3) rfl)) rfl (by rw [hml]; exact hl.1) rfl dX9_init_1 (Nat.le_of_ble_eq_true rfl) (Nat.le_of_ble_eq_true rfl) ?_
  refine W.eq (g2 := F0 m 4 ls []) rfl ?_
  refine lv_aload_n hx hb dX9_init_4 rfl (lv_at hl 0 rfl) ?_
  refine lv_bipush (v := 6) hx hb dX9_init_5 (by decide) ?_
  obtain ⟨N8, h9, h7, h4, h5, hw⟩ := hw
  refine h_newQ C0 hW 8 rfl (List.mem_of_getElem? (i := 4) rfl) (by decide +kernel) (N := N8) (by rw [h9]; exact nI_pos (by omega)) (by rw [h9]; exact nI_clamp (by omega)) h7 (by show _ ≤ MC; omega) (by show _ ≤ MS; omega) dX9_init_7 (fun q1 H h2 hW => ?_)
  obtain ⟨S3, eS3⟩ : ∃ z : hS, z = adS S q1 (.inl (u.2.1 8, N8, .inr (.inr (.inr (.inr (fun _ => none)))))) := ⟨_, rfl⟩
  rw [← eS3] at hW
  replace hw := hw q1 S3 h2 eS3
  have hkn : (k + 1) + (mc - 1) ≤ MC ∧ (n + N8) + (ms - N8) ≤ MS := by omega
  obtain ⟨fs10, h11, h12, hw⟩ := hw
  refine h_put C0 hW (T := TX9) (kf := 0) (ty := .array (.object "SettingsDrawer$Slot")) in_X9_init_RX9 h11 rfl (by decide) h12 tyX9 tyX9_ok nmX9 (List.mem_of_getElem? (i := 5) rfl) rfl (Or.inr ⟨rfl, hin rfl, rfl⟩) (by decide +kernel) rfl rfl dX9_init_10 rfl (fun H locs hW => ?_)
  obtain ⟨S13, eS13⟩ : ∃ z : hS, z = upS S3 t0 (.inr (10, fs10.set 0 (.ref q1))) := ⟨_, rfl⟩
  rw [← eS13] at hW
  replace hw := hw S13 eS13
  refine lv_iconst (v := 0) hx hb dX9_init_13 (by decide) ?_
  refine lv_istore_n (lv' := [(1, .int 0), (0, .ref t0)]) hx hb dX9_init_14 rfl hl (by decide) rfl (fun ls hl9 => ?_)
  replace hl := hl9
  obtain ⟨n14, hw⟩ := hw
  exact t_X9_init_15 C0 hin t0 post hret  n14 0 S13 (mc - 1) (ms - N8) _ _ hkn hw _ _ _ hW (lv_sub hl [1, 0] rfl)
set_option maxHeartbeats 4000000 in
set_option maxRecDepth 100000 in
theorem k_X9_init {l : Launch} {D : va_G} {u : hU} {X : va_W} {sz : Nat} (post : hS → Prop) (t0 : Nat) (S : hS) (mc ms : Nat) (hw : w_X9_init u post t0  S mc ms) : hMv l yX9_init wsX9_init (rm_X9_init mc ms) D (gt u.2.1) u.1 u.2.2 sz X S [.ref t0] post mc ms := by
  refine hMv_of (cc := cX9_init) (nL := 2) (own := RX9) (by decide) rfl rfl (Nat.le_of_ble_eq_true rfl) ?_
  intro p e s m args below meth c A Q C0 hin hret
  exact t_X9_init_0 C0 hin t0 post hret  S mc ms 0 0 ⟨by omega, by omega⟩ hw
abbrev rm_X9_lengthOrNothing : Room := { frames := 2, cells := 0, slots := 0, locals := 40 }
set_option maxHeartbeats 4000000 in
set_option maxRecDepth 100000 in
theorem t_X9_lengthOrNothing_0 (C0 : hX p s m args c cX9_lengthOrNothing 1 RX9 wsX9_lengthOrNothing D (gt u.2.1) A u.1 u.2.2) {S : hS}  (post : Int32 → Prop) (hret : ∀ (r : Int32) (S' : hS) (pc : Nat) (lv : List (Nat × Value)) (k n : Nat), k ≤ 0 → n ≤ 0 → (S' = S ∧ post r) → narrow .int (.int r) = .int r → decode cX9_lengthOrNothing pc = .ok (.ireturn, 1) → gG p l e (rm_X9_lengthOrNothing) s m args below meth c Q D A 1 k n (hC X S') pc lv [.int r])  : ∀ (p1 : Option Nat), w_X9_lengthOrNothing u post   p1 S → gG p l e (rm_X9_lengthOrNothing) s m args below meth c Q D A 1 0 0 (hC X S) 0 [(0, va_rf p1)] [] := by
  obtain ⟨⟨hx, hb, hml, ho, hts, hK, hA⟩, hR⟩ := id C0
  intro p1 hw H locs ls hW hl
  rw [w_X9_lengthOrNothing] at hw
  refine lv_aloadV_n hx hb dX9_lengthOrNothing_0 rfl (lv_at hl 0 rfl) ?_
  refine lv_ifnonnullV (tgt := 9) hx hb dX9_lengthOrNothing_1 (by decide) (fun a2 c1 => ?_) (fun c1 => ?_)
  · subst c1
    replace hw := hw.2 a2 rfl
    refine lv_aload_n hx hb dX9_lengthOrNothing_9 rfl (lv_at hl 0 rfl) ?_
    obtain ⟨h4, hw⟩ := hw
    refine h_goi C0 hW (va_runV (As := []) (rest := []) ⟨hx, hb, hml, ho, hts⟩ (k_J0_length_8a (l := l) (u := u) (X := X) (sz := H.size) _ a2  S  hw) (cwV 0 hts gX9_lengthOrNothing_J0_length_8abf5 rfl rfl rfl (by decide +kernel) ⟨Nat.le_of_ble_eq_true rfl, Nat.le_of_ble_eq_true rfl⟩) ⟨h_blind, (h_recvS C0 hW h4), (h_pre C0 hW [.ref a2])⟩ rfl rfl hl.1 rfl (lv_room (Nat.le_of_ble_eq_true rfl)) dX9_lengthOrNothing_10 ⟨Nat.le_refl _, Nat.le_refl _⟩) (fun r3 S5 H locs h6 hW => ?_)
    obtain ⟨h7, hp⟩ := h6
    rw [h7] at hW
    replace hw := hp
    exact hret r3 S _ _ 0 0 (Nat.le_refl _) (Nat.le_refl _) ⟨rfl, hw⟩ rfl dX9_lengthOrNothing_13 _ _ _ hW hl
  · subst c1
    replace hw := hw.1 rfl
    refine lv_bipush (v := (-2)) hx hb dX9_lengthOrNothing_4 (by decide) ?_
    refine lv_goto (tgt := 13) hx hb dX9_lengthOrNothing_6 (by decide) ?_
    exact hret (-2) S _ _ 0 0 (Nat.le_refl _) (Nat.le_refl _) ⟨rfl, hw⟩ rfl dX9_lengthOrNothing_13 _ _ _ hW hl
set_option maxHeartbeats 4000000 in
set_option maxRecDepth 100000 in
theorem k_X9_lengthOrNothing {l : Launch} {D : va_G} {u : hU} {X : va_W} {sz : Nat} (post : Int32 → Prop) (p1 : Option Nat) (S : hS) (hw : w_X9_lengthOrNothing u post  p1 S) : hMi l yX9_lengthOrNothing wsX9_lengthOrNothing rm_X9_lengthOrNothing D (gt u.2.1) u.1 u.2.2 sz X S [va_rf p1] (fun r S' => S' = S ∧ post r) 0 0 := by
  refine hMi_of (cc := cX9_lengthOrNothing) (nL := 1) (ty := .int) (own := RX9) (by decide) rfl rfl (by cases p1 <;> exact Nat.le_of_ble_eq_true rfl) ?_
  intro p e s m args below meth c A Q C0 hin hret
  have hfin := t_X9_lengthOrNothing_0 C0  post hret p1 hw
  intro H locs ls hW hl
  refine hfin H locs ls hW ?_
  cases p1 <;> exact hl
abbrev rm_X9_slotAt : Room := { frames := 1, cells := 0, slots := 0, locals := 21 }
theorem in_X9_slotAt_RX9 : ∀ w ∈ wsX90, w ∈ wsX9_slotAt := fun w hw9 => List.mem_cons_of_mem _ (List.mem_append_right _ hw9)
set_option maxHeartbeats 4000000 in
set_option maxRecDepth 100000 in
theorem t_X9_slotAt_0 (C0 : hX p s m args c cX9_slotAt 2 RX9 wsX9_slotAt D (gt u.2.1) A u.1 u.2.2) {S : hS} (t0 : Nat) (post : Option Nat → Prop) (hret : ∀ (r : Option Nat) (S' : hS) (pc : Nat) (lv : List (Nat × Value)) (k n : Nat), k ≤ 0 → n ≤ 0 → (S' = S ∧ post r) → decode cX9_slotAt pc = .ok (.areturn, 1) → gG p l e (rm_X9_slotAt) s m args below meth c Q D A 2 k n (hC X S') pc lv [va_rf r])  : ∀ (z1 : Int32), w_X9_slotAt u post t0  z1 S → gG p l e (rm_X9_slotAt) s m args below meth c Q D A 2 0 0 (hC X S) 0 [(0, .ref t0), (1, .int z1)] [] := by
  obtain ⟨⟨hx, hb, hml, ho, hts, hK, hA⟩, hR⟩ := id C0
  intro z1 hw H locs ls hW hl
  rw [w_X9_slotAt] at hw
  refine lv_iload_n hx hb dX9_slotAt_0 rfl (lv_at hl 1 rfl) ?_
  refine lv_bipush (v := 6) hx hb dX9_slotAt_1 (by decide) ?_
  refine g_calls (As := [.int z1, .int 6]) (rest := []) ⟨hx, hb, hml, ho, hts⟩ hl.1 (k_X9_isWithin (l := l) _ z1 6 hw) (va_cwS 2 hts gX9_slotAt_X9_isWithin rfl rfl rfl (by decide +kernel) ⟨Nat.le_of_ble_eq_true rfl, Nat.le_of_ble_eq_true rfl⟩) (Nat.le_of_ble_eq_true rfl) dX9_slotAt_3 rfl ⟨Nat.le_refl _, Nat.le_refl _⟩ (fun r1 hp => ?_)
  replace hw := hp
  refine lv_if_eq (tgt := 18) hx hb dX9_slotAt_6 (by decide) (fun c2 => ?_) (fun c2 => ?_)
  · replace hw := hw.1 c2
    refine lv_null hx hb dX9_slotAt_18 ?_
    exact hret none S _ _ 0 0 (Nat.le_refl _) (Nat.le_refl _) ⟨rfl, hw⟩ dX9_slotAt_19 _ _ _ hW hl
  · replace hw := hw.2 c2
    refine lv_aload_n hx hb dX9_slotAt_9 rfl (lv_at hl 0 rfl) ?_
    obtain ⟨o3, h4, hw⟩ := hw
    refine h_getR C0 hW (T := TX9) (kf := 0) in_X9_slotAt_RX9 h4 rfl (by decide) (List.mem_of_getElem? (i := 1) rfl) rfl dX9_slotAt_10 ?_
    refine lv_iload_n hx hb dX9_slotAt_13 rfl (lv_at hl 1 rfl) ?_
    obtain ⟨a5, rfl, hw⟩ := hw
    obtain ⟨N6, g7, h8, h9, hw⟩ := hw
    refine h_qald C0 hW 8 h8 rfl h9 dX9_slotAt_14 (fun o10 eo10 => ?_)
    replace hw := hw o10 eo10
    refine lv_goto (tgt := 19) hx hb dX9_slotAt_15 (by decide) ?_
    exact hret o10 S _ _ 0 0 (Nat.le_refl _) (Nat.le_refl _) ⟨rfl, hw⟩ dX9_slotAt_19 _ _ _ hW hl
set_option maxHeartbeats 4000000 in
set_option maxRecDepth 100000 in
theorem k_X9_slotAt {l : Launch} {D : va_G} {u : hU} {X : va_W} {sz : Nat} (post : Option Nat → Prop) (t0 : Nat) (z1 : Int32) (S : hS) (hw : w_X9_slotAt u post t0 z1 S) : hMq l yX9_slotAt wsX9_slotAt rm_X9_slotAt D (gt u.2.1) u.1 u.2.2 sz X S [.ref t0, .int z1] (fun r S' => S' = S ∧ post r) 0 0 := by
  refine hMq_of (cc := cX9_slotAt) (nL := 2) (ty := (.object "SettingsDrawer$Slot")) (own := RX9) (by decide) rfl rfl (Nat.le_of_ble_eq_true rfl) (Or.inl ⟨_, rfl⟩) ?_
  intro p e s m args below meth c A Q C0 hin hret
  exact t_X9_slotAt_0 C0 t0 post hret z1 hw
abbrev rm_X9_erase : Room := { frames := 3, cells := 0, slots := 0, locals := 60 }
theorem in_X9_erase_RX6 : ∀ w ∈ wsX60, w ∈ wsX9_erase := fun w hw9 => List.mem_cons_of_mem _ (List.mem_append_left _ (List.mem_append_left _ (List.mem_append_right _ hw9)))
set_option maxHeartbeats 4000000 in
set_option maxRecDepth 100000 in
theorem t_X9_erase_0 (C0 : hX p s m args c cX9_erase 4 RX9 wsX9_erase D (gt u.2.1) A u.1 u.2.2) (t0 : Nat) (post : Int32 → hS → Prop) (hret : ∀ (r : Int32) (S' : hS) (pc : Nat) (lv : List (Nat × Value)) (k n : Nat), k ≤ 0 → n ≤ 0 → post r S' → narrow .int (.int r) = .int r → decode cX9_erase pc = .ok (.ireturn, 1) → gG p l e (rm_X9_erase) s m args below meth c Q D A 4 k n (hC X S') pc lv [.int r])  : ∀ (z1 : Int32) (S : hS), w_X9_erase u post t0  z1 S → gG p l e (rm_X9_erase) s m args below meth c Q D A 4 0 0 (hC X S) 0 [(0, .ref t0), (1, .int z1)] [] := by
  obtain ⟨⟨hx, hb, hml, ho, hts, hK, hA⟩, hR⟩ := id C0
  intro z1 S hw H locs ls hW hl
  rw [w_X9_erase] at hw
  refine lv_aload_n hx hb dX9_erase_0 rfl (lv_at hl 0 rfl) ?_
  refine lv_iload_n hx hb dX9_erase_1 rfl (lv_at hl 1 rfl) ?_
  obtain ⟨h2, hw⟩ := hw
  refine h_goq C0 hW (va_runV (As := [.int z1]) (rest := []) ⟨hx, hb, hml, ho, hts⟩ (k_X9_slotAt (l := l) (u := u) (X := X) (sz := H.size) _ t0 z1 S  hw) (cwV 1 hts gX9_erase_X9_slotAt rfl rfl rfl (by decide +kernel) ⟨Nat.le_of_ble_eq_true rfl, Nat.le_of_ble_eq_true rfl⟩) ⟨h_blind, (h_recv C0 hW (ci := 10) rfl h2), (h_pre C0 hW [.ref t0, .int z1])⟩ rfl rfl hl.1 rfl (lv_room (Nat.le_of_ble_eq_true rfl)) dX9_erase_2 ⟨Nat.le_refl _, Nat.le_refl _⟩) (fun r1 S3 H locs h4 hW => ?_)
  obtain ⟨h5, hp⟩ := h4
  rw [h5] at hW
  replace hw := hp
  refine lv_astoreV_n (i := 2) (lv' := [(2, va_rf r1), (0, .ref t0), (1, .int z1)]) hx hb dX9_erase_5 rfl hl (by decide) rfl (fun ls hl9 => ?_)
  replace hl := hl9
  refine lv_aloadV_n hx hb dX9_erase_6 rfl (lv_at hl 0 rfl) ?_
  refine lv_ifnonnullV (tgt := 12) hx hb dX9_erase_7 (by decide) (fun a7 c6 => ?_) (fun c6 => ?_)
  · subst c6
    replace hw := hw.2 a7 rfl
    refine lv_aload_n hx hb dX9_erase_12 rfl (lv_at hl 0 rfl) ?_
    obtain ⟨o8, h9, hw⟩ := hw
    refine h_getRN C0 hW (host := RX9) (T := TX6) (kf := 0) in_X9_erase_RX6 h9 rfl (by decide) (by decide +kernel) rfl dX9_erase_13 ?_
    refine h_goi C0 hW (va_runS (As := [va_rf o8]) (rest := []) ⟨hx, hb, hml, ho, hts⟩ (k_X9_lengthOrNothing (l := l) (u := u) (X := X) (sz := H.size) _ o8 S  hw) (va_cwS 1 hts gX9_erase_X9_lengthOrNothing rfl rfl rfl (by decide +kernel) ⟨Nat.le_of_ble_eq_true rfl, Nat.le_of_ble_eq_true rfl⟩) ⟨h_blind, (h_pre C0 hW [va_rf o8])⟩ rfl rfl hl.1 rfl (lv_room (Nat.le_of_ble_eq_true rfl)) dX9_erase_16 ⟨Nat.le_refl _, Nat.le_refl _⟩) (fun r10 S11 H locs h12 hW => ?_)
    obtain ⟨h13, hp⟩ := h12
    rw [h13] at hW
    replace hw := hp
    refine lv_istore_n (lv' := [(3, .int r10), (2, .ref a7), (0, .ref t0), (1, .int z1)]) hx hb dX9_erase_19 rfl hl (by decide) rfl (fun ls hl9 => ?_)
    replace hl := hl9
    refine lv_aload_n hx hb dX9_erase_20 rfl (lv_at hl 1 rfl) ?_
    refine va_ldcS hx hb ho C0.2.2.2.1.1 dX9_erase_21 ?_
    obtain ⟨fs14, h15, h16, hw⟩ := hw
    refine h_putN C0 hW (host := RX9) (T := TX6) (kf := 0) (ty := .object "java/lang/String") in_X9_erase_RX6 h15 rfl (by decide) h16 tyX6 tyX6_ok nmX6 (by decide +kernel) rfl rfl (by decide +kernel) rfl rfl dX9_erase_23 (fun H locs hW => ?_)
    obtain ⟨S17, eS17⟩ : ∃ z : hS, z = upS S a7 (.inr (7, fs14.set 0 (.ref (u.1 0).1))) := ⟨_, rfl⟩
    rw [← eS17] at hW
    replace hw := hw S17 eS17
    refine lv_iload_n hx hb dX9_erase_26 rfl (lv_at hl 0 rfl) ?_
    exact hret r10 S17 _ _ 0 0 (Nat.le_refl _) (Nat.le_refl _) hw rfl dX9_erase_27 _ _ _ hW hl
  · subst c6
    replace hw := hw.1 rfl
    refine lv_iconst (v := (-1)) hx hb dX9_erase_10 (by decide) ?_
    exact hret (-1) S _ _ 0 0 (Nat.le_refl _) (Nat.le_refl _) hw rfl dX9_erase_11 _ _ _ hW hl
set_option maxHeartbeats 4000000 in
set_option maxRecDepth 100000 in
theorem k_X9_erase {l : Launch} {D : va_G} {u : hU} {X : va_W} {sz : Nat} (post : Int32 → hS → Prop) (t0 : Nat) (z1 : Int32) (S : hS) (hw : w_X9_erase u post t0 z1 S) : hMi l yX9_erase wsX9_erase rm_X9_erase D (gt u.2.1) u.1 u.2.2 sz X S [.ref t0, .int z1] post 0 0 := by
  refine hMi_of (cc := cX9_erase) (nL := 4) (ty := .int) (own := RX9) (by decide) rfl rfl (Nat.le_of_ble_eq_true rfl) ?_
  intro p e s m args below meth c A Q C0 hin hret
  exact t_X9_erase_0 C0 t0 post hret z1 S hw
abbrev rm_X9_putInto : Room := { frames := 2, cells := 0, slots := 0, locals := 40 }
theorem in_X9_putInto_RX6 : ∀ w ∈ wsX60, w ∈ wsX9_putInto := fun w hw9 => List.mem_cons_of_mem _ (List.mem_append_left _ (List.mem_append_right _ hw9))
set_option maxHeartbeats 4000000 in
set_option maxRecDepth 100000 in
theorem t_X9_putInto_0 (C0 : hX p s m args c cX9_putInto 2 RX9 wsX9_putInto D (gt u.2.1) A u.1 u.2.2)  (post : Int32 → hS → Prop) (hret : ∀ (r : Int32) (S' : hS) (pc : Nat) (lv : List (Nat × Value)) (k n : Nat), k ≤ 0 → n ≤ 0 → post r S' → narrow .int (.int r) = .int r → decode cX9_putInto pc = .ok (.ireturn, 1) → gG p l e (rm_X9_putInto) s m args below meth c Q D A 2 k n (hC X S') pc lv [.int r])  : ∀ (p1 : Option Nat) (p2 : Option Nat) (S : hS), w_X9_putInto u post   p1 p2 S → gG p l e (rm_X9_putInto) s m args below meth c Q D A 2 0 0 (hC X S) 0 [(0, va_rf p1), (1, va_rf p2)] [] := by
  obtain ⟨⟨hx, hb, hml, ho, hts, hK, hA⟩, hR⟩ := id C0
  intro p1 p2 S hw H locs ls hW hl
  rw [w_X9_putInto] at hw
  refine lv_aloadV_n hx hb dX9_putInto_0 rfl (lv_at hl 0 rfl) ?_
  refine lv_aloadV_n hx hb dX9_putInto_1 rfl (lv_at hl 1 rfl) ?_
  obtain ⟨a1, rfl, hw⟩ := hw
  obtain ⟨fs2, h3, h4, hw⟩ := hw
  refine h_putN C0 hW (host := RX9) (T := TX6) (kf := 0) (ty := .object "java/lang/String") in_X9_putInto_RX6 h3 rfl (by decide) h4 tyX6 tyX6_ok nmX6 (by decide +kernel) rfl rfl (by decide +kernel) (by cases p2 <;> rfl) (by cases p2 <;> rfl) dX9_putInto_2 (fun H locs hW => ?_)
  obtain ⟨S5, eS5⟩ : ∃ z : hS, z = upS S a1 (.inr (7, fs2.set 0 (va_rf p2))) := ⟨_, rfl⟩
  rw [← eS5] at hW
  replace hw := hw S5 eS5
  refine lv_aloadV_n hx hb dX9_putInto_5 rfl (lv_at hl 1 rfl) ?_
  obtain ⟨a6, rfl, hw⟩ := hw
  obtain ⟨h8, hw⟩ := hw
  refine h_goi C0 hW (va_runV (As := []) (rest := []) ⟨hx, hb, hml, ho, hts⟩ (k_J0_length_8a (l := l) (u := u) (X := X) (sz := H.size) _ a6  S5  hw) (cwV 0 hts gX9_putInto_J0_length_8abf5 rfl rfl rfl (by decide +kernel) ⟨Nat.le_of_ble_eq_true rfl, Nat.le_of_ble_eq_true rfl⟩) ⟨h_blind, (h_recvS C0 hW h8), (h_pre C0 hW [.ref a6])⟩ rfl rfl hl.1 rfl (lv_room (Nat.le_of_ble_eq_true rfl)) dX9_putInto_6 ⟨Nat.le_refl _, Nat.le_refl _⟩) (fun r7 S9 H locs h10 hW => ?_)
  obtain ⟨h11, hp⟩ := h10
  rw [h11] at hW
  replace hw := hp
  exact hret r7 S5 _ _ 0 0 (Nat.le_refl _) (Nat.le_refl _) hw rfl dX9_putInto_9 _ _ _ hW hl
set_option maxHeartbeats 4000000 in
set_option maxRecDepth 100000 in
theorem k_X9_putInto {l : Launch} {D : va_G} {u : hU} {X : va_W} {sz : Nat} (post : Int32 → hS → Prop) (p1 : Option Nat) (p2 : Option Nat) (S : hS) (hw : w_X9_putInto u post  p1 p2 S) : hMi l yX9_putInto wsX9_putInto rm_X9_putInto D (gt u.2.1) u.1 u.2.2 sz X S [va_rf p1, va_rf p2] post 0 0 := by
  refine hMi_of (cc := cX9_putInto) (nL := 2) (ty := .int) (own := RX9) (by decide) rfl rfl (by cases p1 <;> cases p2 <;> exact Nat.le_of_ble_eq_true rfl) ?_
  intro p e s m args below meth c A Q C0 hin hret
  have hfin := t_X9_putInto_0 C0  post hret p1 p2 S hw
  intro H locs ls hW hl
  refine hfin H locs ls hW ?_
  cases p1 <;> cases p2 <;> exact hl
end RAWM
