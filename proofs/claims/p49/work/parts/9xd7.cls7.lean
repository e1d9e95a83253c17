section RAWM
variable {p : Program} {l : Launch} {e : Env} {s : State} {m : MethodId} {args : Array Value} {below : List Frame} {meth : Method} {c : Code} {Q : State → Prop}
variable {D : va_G} {A : Nat → Prop} {u : hU} {X : va_W} {MC MS : Nat}
abbrev rm_X9_has : Room := { frames := 7, cells := 0, slots := 0, locals := 154 }
theorem in_X9_has_RX6 : ∀ w ∈ wsX60, w ∈ wsX9_has := fun w hw9 => List.mem_cons_of_mem _ (List.mem_append_left _ (List.mem_append_left _ (List.mem_append_left _ (List.mem_append_left _ (List.mem_append_right _ hw9)))))
theorem in_X9_has_RX9 : ∀ w ∈ wsX90, w ∈ wsX9_has := fun w hw9 => List.mem_cons_of_mem _ (List.mem_append_left _ (List.mem_append_left _ (List.mem_append_left _ (List.mem_append_left _ (List.mem_append_left _ (List.mem_append_right _ hw9))))))
set_option maxHeartbeats 4000000 in
set_option maxRecDepth 100000 in
theorem t_X9_has_0 (C0 : hX p s m args c cX9_has 5 RX9 wsX9_has D (gt u.2.1) A u.1 u.2.2) (t0 : Nat) (post : Int32 → hS → Prop) (hret : ∀ (r : Int32) (S' : hS) (pc : Nat) (lv : List (Nat × Value)) (k n : Nat), k ≤ 0 → n ≤ 0 → post r S' → narrow .int (.int r) = .int r → decode cX9_has pc = .ok (.ireturn, 1) → gG p l e (rm_X9_has) s m args below meth c Q D A 5 k n (hC X S') pc lv [.int r])  : ∀ (z1 : Int32) (z2 : Int32) (S : hS), w_X9_has u post t0  z1 z2 S → gG p l e (rm_X9_has) s m args below meth c Q D A 5 0 0 (hC X S) 0 [(0, .ref t0), (1, .int z1), (2, .int z2)] [] := by
  obtain ⟨⟨hx, hb, hml, ho, hts, hK, hA⟩, hR⟩ := id C0
  intro z1 z2 S hw H locs ls hW hl
  rw [w_X9_has] at hw
  refine lv_aload_n hx hb dX9_has_0 rfl (lv_at hl 0 rfl) ?_
  obtain ⟨o1, h2, hw⟩ := hw
  refine h_getR C0 hW (T := TX9) (kf := 2) in_X9_has_RX9 h2 rfl (by decide) (List.mem_of_getElem? (i := 1) rfl) rfl dX9_has_1 ?_
  refine lv_iload_n hx hb dX9_has_4 rfl (lv_at hl 1 rfl) ?_
  obtain ⟨a3, rfl, hw⟩ := hw
  obtain ⟨h5, hw⟩ := hw
  refine h_goq C0 hW (va_runV (As := [.int z1]) (rest := []) ⟨hx, hb, hml, ho, hts⟩ (k_X4_layerAt (l := l) (u := u) (X := X) (sz := H.size) _ a3 z1 S  hw) (cwV 1 hts gX9_has_X4_layerAt rfl rfl rfl (by decide +kernel) ⟨Nat.le_of_ble_eq_true rfl, Nat.le_of_ble_eq_true rfl⟩) ⟨h_blind, (h_recv C0 hW (ci := 5) rfl h5), (h_pre C0 hW [.ref a3, .int z1])⟩ rfl rfl hl.1 rfl (lv_room (Nat.le_of_ble_eq_true rfl)) dX9_has_5 ⟨Nat.le_refl _, Nat.le_refl _⟩) (fun r4 S6 H locs h7 hW => ?_)
  obtain ⟨h8, hp⟩ := h7
  rw [h8] at hW
  replace hw := hp
  refine lv_astoreV_n (i := 3) (lv' := [(3, va_rf r4), (0, .ref t0), (1, .int z1), (2, .int z2)]) hx hb dX9_has_8 rfl hl (by decide) rfl (fun ls hl9 => ?_)
  replace hl := hl9
  refine lv_aload_n hx hb dX9_has_9 rfl (lv_at hl 1 rfl) ?_
  refine lv_iload_n hx hb dX9_has_10 rfl (lv_at hl 3 rfl) ?_
  obtain ⟨h10, hw⟩ := hw
  refine h_goq C0 hW (va_runV (As := [.int z2]) (rest := []) ⟨hx, hb, hml, ho, hts⟩ (k_X9_slotAt (l := l) (u := u) (X := X) (sz := H.size) _ t0 z2 S  hw) (cwV 1 hts gX9_has_X9_slotAt rfl rfl rfl (by decide +kernel) ⟨Nat.le_of_ble_eq_true rfl, Nat.le_of_ble_eq_true rfl⟩) ⟨h_blind, (h_recv C0 hW (ci := 10) rfl h10), (h_pre C0 hW [.ref t0, .int z2])⟩ rfl rfl hl.1 rfl (lv_room (Nat.le_of_ble_eq_true rfl)) dX9_has_11 ⟨Nat.le_refl _, Nat.le_refl _⟩) (fun r9 S11 H locs h12 hW => ?_)
  obtain ⟨h13, hp⟩ := h12
  rw [h13] at hW
  replace hw := hp
  refine lv_astoreV (i := 4) (lv' := [(4, va_rf r9), (3, va_rf r4), (0, .ref t0), (1, .int z1), (2, .int z2)]) hx hb dX9_has_14 hl (by decide) (by show (4, va_rf r9) :: List.filter (fun q : Nat × Value => !(q.1 == 4) && !(q.1 + 1 == 4 && q.2.category == 2)) [(3, va_rf r4), (0, .ref t0), (1, .int z1), (2, .int z2)] = [(4, va_rf r9), (3, va_rf r4), (0, .ref t0), (1, .int z1), (2, .int z2)]; simp [va_rf_cat, va_c_ref, va_c_int, va_c_null]) (fun ls hl9 => ?_)
  replace hl := hl9
  refine lv_aloadV_n hx hb dX9_has_16 rfl (lv_at hl 1 rfl) ?_
  refine lv_ifnullV (tgt := 25) hx hb dX9_has_17 (by decide) (fun c14 => ?_) (fun a15 c14 => ?_)
  · subst c14
    replace hw := hw.1 rfl
    refine lv_iconst (v := (-1)) hx hb dX9_has_25 (by decide) ?_
    exact hret (-1) S _ _ 0 0 (Nat.le_refl _) (Nat.le_refl _) hw rfl dX9_has_26 _ _ _ hW hl
  · subst c14
    replace hw := hw.2 a15 rfl
    refine lv_aloadV hx hb dX9_has_20 (lv_at hl 0 rfl) ?_
    refine lv_ifnonnullV (tgt := 27) hx hb dX9_has_22 (by decide) (fun a17 c16 => ?_) (fun c16 => ?_)
    · subst c16
      replace hw := hw.2 a17 rfl
      refine lv_aload hx hb dX9_has_27 (lv_at hl 0 rfl) ?_
      obtain ⟨o18, h19, hw⟩ := hw
      refine h_getRN C0 hW (host := RX9) (T := TX6) (kf := 0) in_X9_has_RX6 h19 rfl (by decide) (by decide +kernel) rfl dX9_has_29 ?_
      refine lv_ifnonnullV (tgt := 40) hx hb dX9_has_32 (by decide) (fun a21 c20 => ?_) (fun c20 => ?_)
      · subst c20
        replace hw := hw.2 a21 rfl
        refine lv_aload_n hx hb dX9_has_40 rfl (lv_at hl 1 rfl) ?_
        refine lv_aload hx hb dX9_has_41 (lv_at hl 0 rfl) ?_
        obtain ⟨o26, h27, hw⟩ := hw
        refine h_getRN C0 hW (host := RX9) (T := TX6) (kf := 0) in_X9_has_RX6 h27 rfl (by decide) (by decide +kernel) rfl dX9_has_43 ?_
        obtain ⟨h29, hw⟩ := hw
        refine h_goq C0 hW (va_runV (As := [va_rf o26]) (rest := []) ⟨hx, hb, hml, ho, hts⟩ (k_X3_valueOf (l := l) (u := u) (X := X) (sz := H.size) _ a15 o26 S  hw) (cwV 1 hts gX9_has_X3_valueOf rfl rfl rfl (by decide +kernel) ⟨Nat.le_of_ble_eq_true rfl, Nat.le_of_ble_eq_true rfl⟩) ⟨h_blind, (h_recv C0 hW (ci := 4) rfl h29), (h_pre C0 hW [.ref a15, va_rf o26])⟩ rfl rfl hl.1 rfl (lv_room (Nat.le_of_ble_eq_true rfl)) dX9_has_46 ⟨Nat.le_refl _, Nat.le_refl _⟩) (fun r28 S30 H locs h31 hW => ?_)
        obtain ⟨h32, hp⟩ := h31
        rw [h32] at hW
        replace hw := hp
        refine lv_ifnullV (tgt := 56) hx hb dX9_has_49 (by decide) (fun c33 => ?_) (fun a34 c33 => ?_)
        · subst c33
          replace hw := hw.1 rfl
          refine lv_iconst (v := 0) hx hb dX9_has_56 (by decide) ?_
          exact hret 0 S _ _ 0 0 (Nat.le_refl _) (Nat.le_refl _) hw rfl dX9_has_57 _ _ _ hW hl
        · subst c33
          replace hw := hw.2 a34 rfl
          refine lv_iconst (v := 1) hx hb dX9_has_52 (by decide) ?_
          refine lv_goto (tgt := 57) hx hb dX9_has_53 (by decide) ?_
          exact hret 1 S _ _ 0 0 (Nat.le_refl _) (Nat.le_refl _) hw rfl dX9_has_57 _ _ _ hW hl
      · subst c20
        replace hw := hw.1 rfl
        refine lv_aload_n hx hb dX9_has_35 rfl (lv_at hl 2 rfl) ?_
        obtain ⟨h23, hw⟩ := hw
        refine h_goi C0 hW (va_runV (As := []) (rest := []) ⟨hx, hb, hml, ho, hts⟩ (k_X9_refuseNull (l := l) (u := u) (X := X) (sz := H.size) _ t0  S  hw) (cwV 0 hts gX9_has_X9_refuseNull rfl rfl rfl (by decide +kernel) ⟨Nat.le_of_ble_eq_true rfl, Nat.le_of_ble_eq_true rfl⟩) ⟨h_blind, (h_recv C0 hW (ci := 10) rfl h23), (h_pre C0 hW [.ref t0])⟩ rfl rfl hl.1 rfl (lv_room (Nat.le_of_ble_eq_true rfl)) dX9_has_36 ⟨Nat.le_refl _, Nat.le_refl _⟩) (fun r22 S24 H locs h25 hW => ?_)
        replace hw := h25
        exact hret r22 S24 _ _ 0 0 (Nat.le_refl _) (Nat.le_refl _) hw rfl dX9_has_39 _ _ _ hW hl
    · subst c16
      replace hw := hw.1 rfl
      refine lv_iconst (v := (-1)) hx hb dX9_has_25 (by decide) ?_
      exact hret (-1) S _ _ 0 0 (Nat.le_refl _) (Nat.le_refl _) hw rfl dX9_has_26 _ _ _ hW hl
set_option maxHeartbeats 4000000 in
set_option maxRecDepth 100000 in
theorem k_X9_has {l : Launch} {D : va_G} {u : hU} {X : va_W} {sz : Nat} (post : Int32 → hS → Prop) (t0 : Nat) (z1 : Int32) (z2 : Int32) (S : hS) (hw : w_X9_has u post t0 z1 z2 S) : hMi l yX9_has wsX9_has rm_X9_has D (gt u.2.1) u.1 u.2.2 sz X S [.ref t0, .int z1, .int z2] post 0 0 := by
  refine hMi_of (cc := cX9_has) (nL := 5) (ty := .int) (own := RX9) (by decide) rfl rfl (Nat.le_of_ble_eq_true rfl) ?_
  intro p e s m args below meth c A Q C0 hin hret
  exact t_X9_has_0 C0 t0 post hret z1 z2 S hw
abbrev rm_X9_layerOf : Room := { frames := 8, cells := 0, slots := 0, locals := 178 }
theorem in_X9_layerOf_RX6 : ∀ w ∈ wsX60, w ∈ wsX9_layerOf := fun w hw9 => List.mem_cons_of_mem _ (List.mem_append_left _ (List.mem_append_left _ (List.mem_append_left _ (List.mem_append_left _ (List.mem_append_right _ hw9)))))
theorem in_X9_layerOf_RX9 : ∀ w ∈ wsX90, w ∈ wsX9_layerOf := fun w hw9 => List.mem_cons_of_mem _ (List.mem_append_left _ (List.mem_append_left _ (List.mem_append_left _ (List.mem_append_left _ (List.mem_append_left _ (List.mem_append_right _ hw9))))))
set_option maxHeartbeats 4000000 in
set_option maxRecDepth 100000 in
theorem t_X9_layerOf_0 (C0 : hX p s m args c cX9_layerOf 4 RX9 wsX9_layerOf D (gt u.2.1) A u.1 u.2.2) (t0 : Nat) (post : Int32 → hS → Prop) (hret : ∀ (r : Int32) (S' : hS) (pc : Nat) (lv : List (Nat × Value)) (k n : Nat), k ≤ 0 → n ≤ 0 → post r S' → narrow .int (.int r) = .int r → decode cX9_layerOf pc = .ok (.ireturn, 1) → gG p l e (rm_X9_layerOf) s m args below meth c Q D A 4 k n (hC X S') pc lv [.int r])  : ∀ (z1 : Int32) (z2 : Int32) (S : hS), w_X9_layerOf u post t0  z1 z2 S → gG p l e (rm_X9_layerOf) s m args below meth c Q D A 4 0 0 (hC X S) 0 [(0, .ref t0), (1, .int z1), (2, .int z2)] [] := by
  obtain ⟨⟨hx, hb, hml, ho, hts, hK, hA⟩, hR⟩ := id C0
  intro z1 z2 S hw H locs ls hW hl
  rw [w_X9_layerOf] at hw
  refine lv_aload_n hx hb dX9_layerOf_0 rfl (lv_at hl 0 rfl) ?_
  refine lv_iload_n hx hb dX9_layerOf_1 rfl (lv_at hl 2 rfl) ?_
  obtain ⟨h2, hw⟩ := hw
  refine h_goq C0 hW (va_runV (As := [.int z2]) (rest := []) ⟨hx, hb, hml, ho, hts⟩ (k_X9_slotAt (l := l) (u := u) (X := X) (sz := H.size) _ t0 z2 S  hw) (cwV 1 hts gX9_layerOf_X9_slotAt rfl rfl rfl (by decide +kernel) ⟨Nat.le_of_ble_eq_true rfl, Nat.le_of_ble_eq_true rfl⟩) ⟨h_blind, (h_recv C0 hW (ci := 10) rfl h2), (h_pre C0 hW [.ref t0, .int z2])⟩ rfl rfl hl.1 rfl (lv_room (Nat.le_of_ble_eq_true rfl)) dX9_layerOf_2 ⟨Nat.le_refl _, Nat.le_refl _⟩) (fun r1 S3 H locs h4 hW => ?_)
  obtain ⟨h5, hp⟩ := h4
  rw [h5] at hW
  replace hw := hp
  refine lv_astoreV_n (i := 3) (lv' := [(3, va_rf r1), (0, .ref t0), (1, .int z1), (2, .int z2)]) hx hb dX9_layerOf_5 rfl hl (by decide) rfl (fun ls hl9 => ?_)
  replace hl := hl9
  refine lv_aload_n hx hb dX9_layerOf_6 rfl (lv_at hl 1 rfl) ?_
  obtain ⟨o6, h7, hw⟩ := hw
  refine h_getR C0 hW (T := TX9) (kf := 2) in_X9_layerOf_RX9 h7 rfl (by decide) (List.mem_of_getElem? (i := 1) rfl) rfl dX9_layerOf_7 ?_
  refine lv_iload_n hx hb dX9_layerOf_10 rfl (lv_at hl 2 rfl) ?_
  obtain ⟨a8, rfl, hw⟩ := hw
  obtain ⟨h10, hw⟩ := hw
  refine h_goq C0 hW (va_runV (As := [.int z1]) (rest := []) ⟨hx, hb, hml, ho, hts⟩ (k_X4_layerAt (l := l) (u := u) (X := X) (sz := H.size) _ a8 z1 S  hw) (cwV 1 hts gX9_layerOf_X4_layerAt rfl rfl rfl (by decide +kernel) ⟨Nat.le_of_ble_eq_true rfl, Nat.le_of_ble_eq_true rfl⟩) ⟨h_blind, (h_recv C0 hW (ci := 5) rfl h10), (h_pre C0 hW [.ref a8, .int z1])⟩ rfl rfl hl.1 rfl (lv_room (Nat.le_of_ble_eq_true rfl)) dX9_layerOf_11 ⟨Nat.le_refl _, Nat.le_refl _⟩) (fun r9 S11 H locs h12 hW => ?_)
  obtain ⟨h13, hp⟩ := h12
  rw [h13] at hW
  replace hw := hp
  refine lv_ifnullV (tgt := 21) hx hb dX9_layerOf_14 (by decide) (fun c14 => ?_) (fun a15 c14 => ?_)
  · subst c14
    replace hw := hw.1 rfl
    refine lv_iconst (v := (-1)) hx hb dX9_layerOf_21 (by decide) ?_
    exact hret (-1) S _ _ 0 0 (Nat.le_refl _) (Nat.le_refl _) hw rfl dX9_layerOf_22 _ _ _ hW hl
  · subst c14
    replace hw := hw.2 a15 rfl
    refine lv_aloadV_n hx hb dX9_layerOf_17 rfl (lv_at hl 0 rfl) ?_
    refine lv_ifnonnullV (tgt := 23) hx hb dX9_layerOf_18 (by decide) (fun a17 c16 => ?_) (fun c16 => ?_)
    · subst c16
      replace hw := hw.2 a17 rfl
      refine lv_aload_n hx hb dX9_layerOf_23 rfl (lv_at hl 0 rfl) ?_
      obtain ⟨o18, h19, hw⟩ := hw
      refine h_getRN C0 hW (host := RX9) (T := TX6) (kf := 0) in_X9_layerOf_RX6 h19 rfl (by decide) (by decide +kernel) rfl dX9_layerOf_24 ?_
      refine lv_ifnonnullV (tgt := 35) hx hb dX9_layerOf_27 (by decide) (fun a21 c20 => ?_) (fun c20 => ?_)
      · subst c20
        replace hw := hw.2 a21 rfl
        refine lv_aload_n hx hb dX9_layerOf_35 rfl (lv_at hl 1 rfl) ?_
        obtain ⟨o26, h27, hw⟩ := hw
        refine h_getR C0 hW (T := TX9) (kf := 2) in_X9_layerOf_RX9 h27 rfl (by decide) (List.mem_of_getElem? (i := 1) rfl) rfl dX9_layerOf_36 ?_
        refine lv_iload_n hx hb dX9_layerOf_39 rfl (lv_at hl 2 rfl) ?_
        refine lv_aload_n hx hb dX9_layerOf_40 rfl (lv_at hl 0 rfl) ?_
        obtain ⟨o28, h29, hw⟩ := hw
        refine h_getRN C0 hW (host := RX9) (T := TX6) (kf := 0) in_X9_layerOf_RX6 h29 rfl (by decide) (by decide +kernel) rfl dX9_layerOf_41 ?_
        obtain ⟨a30, rfl, hw⟩ := hw
        obtain ⟨h32, hw⟩ := hw
        refine h_goi C0 hW (va_runV (As := [.int z1, va_rf o28]) (rest := []) ⟨hx, hb, hml, ho, hts⟩ (k_X4_layerHaving (l := l) (u := u) (X := X) (sz := H.size) _ a30 z1 o28 S  hw) (cwV 2 hts gX9_layerOf_X4_layerHaving rfl rfl rfl (by decide +kernel) ⟨Nat.le_of_ble_eq_true rfl, Nat.le_of_ble_eq_true rfl⟩) ⟨h_blind, (h_recv C0 hW (ci := 5) rfl h32), (h_pre C0 hW [.ref a30, .int z1, va_rf o28])⟩ rfl rfl hl.1 rfl (lv_room (Nat.le_of_ble_eq_true rfl)) dX9_layerOf_44 ⟨Nat.le_refl _, Nat.le_refl _⟩) (fun r31 S33 H locs h34 hW => ?_)
        obtain ⟨h35, hp⟩ := h34
        rw [h35] at hW
        replace hw := hp
        exact hret r31 S _ _ 0 0 (Nat.le_refl _) (Nat.le_refl _) hw rfl dX9_layerOf_47 _ _ _ hW hl
      · subst c20
        replace hw := hw.1 rfl
        refine lv_aload_n hx hb dX9_layerOf_30 rfl (lv_at hl 1 rfl) ?_
        obtain ⟨h23, hw⟩ := hw
        refine h_goi C0 hW (va_runV (As := []) (rest := []) ⟨hx, hb, hml, ho, hts⟩ (k_X9_refuseNull (l := l) (u := u) (X := X) (sz := H.size) _ t0  S  hw) (cwV 0 hts gX9_layerOf_X9_refuseNull rfl rfl rfl (by decide +kernel) ⟨Nat.le_of_ble_eq_true rfl, Nat.le_of_ble_eq_true rfl⟩) ⟨h_blind, (h_recv C0 hW (ci := 10) rfl h23), (h_pre C0 hW [.ref t0])⟩ rfl rfl hl.1 rfl (lv_room (Nat.le_of_ble_eq_true rfl)) dX9_layerOf_31 ⟨Nat.le_refl _, Nat.le_refl _⟩) (fun r22 S24 H locs h25 hW => ?_)
        replace hw := h25
        exact hret r22 S24 _ _ 0 0 (Nat.le_refl _) (Nat.le_refl _) hw rfl dX9_layerOf_34 _ _ _ hW hl
    · subst c16
      replace hw := hw.1 rfl
      refine lv_iconst (v := (-1)) hx hb dX9_layerOf_21 (by decide) ?_
      exact hret (-1) S _ _ 0 0 (Nat.le_refl _) (Nat.le_refl _) hw rfl dX9_layerOf_22 _ _ _ hW hl
set_option maxHeartbeats 4000000 in
set_option maxRecDepth 100000 in
theorem k_X9_layerOf {l : Launch} {D : va_G} {u : hU} {X : va_W} {sz : Nat} (post : Int32 → hS → Prop) (t0 : Nat) (z1 : Int32) (z2 : Int32) (S : hS) (hw : w_X9_layerOf u post t0 z1 z2 S) : hMi l yX9_layerOf wsX9_layerOf rm_X9_layerOf D (gt u.2.1) u.1 u.2.2 sz X S [.ref t0, .int z1, .int z2] post 0 0 := by
  refine hMi_of (cc := cX9_layerOf) (nL := 4) (ty := .int) (own := RX9) (by decide) rfl rfl (Nat.le_of_ble_eq_true rfl) ?_
  intro p e s m args below meth c A Q C0 hin hret
  exact t_X9_layerOf_0 C0 t0 post hret z1 z2 S hw
abbrev rm_X9_set (MC MS : Nat) : Room := { frames := 7, cells := MC, slots := MS, locals := 157 }
theorem in_X9_set_RX6 : ∀ w ∈ wsX60, w ∈ wsX9_set := fun w hw9 => List.mem_cons_of_mem _ (List.mem_append_left _ (List.mem_append_left _ (List.mem_append_left _ (List.mem_append_left _ (List.mem_append_right _ hw9)))))
theorem in_X9_set_RX9 : ∀ w ∈ wsX90, w ∈ wsX9_set := fun w hw9 => List.mem_cons_of_mem _ (List.mem_append_left _ (List.mem_append_left _ (List.mem_append_left _ (List.mem_append_left _ (List.mem_append_left _ (List.mem_append_right _ hw9))))))
set_option maxHeartbeats 4000000 in
set_option maxRecDepth 100000 in
theorem t_X9_set_0 (C0 : hX p s m args c cX9_set 10 RX9 wsX9_set D (gt u.2.1) A u.1 u.2.2) (t0 : Nat) (post : Int32 → hS → Prop) (hret : ∀ (r : Int32) (S' : hS) (pc : Nat) (lv : List (Nat × Value)) (k n : Nat), k ≤ MC → n ≤ MS → post r S' → narrow .int (.int r) = .int r → decode cX9_set pc = .ok (.ireturn, 1) → gG p l e (rm_X9_set MC MS) s m args below meth c Q D A 10 k n (hC X S') pc lv [.int r])  : ∀ (z1 : Int32) (z2 : Int32) (z3 : Int32) (z4 : Int32) (S : hS) (mc ms k n : Nat), k + mc ≤ MC ∧ n + ms ≤ MS → w_X9_set u post t0  z1 z2 z3 z4 S mc ms → gG p l e (rm_X9_set MC MS) s m args below meth c Q D A 10 k n (hC X S) 0 [(0, .ref t0), (1, .int z1), (2, .int z2), (3, .int z3), (4, .int z4)] [] := by
  obtain ⟨⟨hx, hb, hml, ho, hts, hK, hA⟩, hR⟩ := id C0
  intro z1 z2 z3 z4 S mc ms k n hkn hw H locs ls hW hl
  rw [w_X9_set] at hw
  refine lv_aload_n hx hb dX9_set_0 rfl (lv_at hl 0 rfl) ?_
  obtain ⟨o1, h2, hw⟩ := hw
  refine h_getR C0 hW (T := TX9) (kf := 2) in_X9_set_RX9 h2 rfl (by decide) (List.mem_of_getElem? (i := 1) rfl) rfl dX9_set_1 ?_
  refine lv_iload_n hx hb dX9_set_4 rfl (lv_at hl 1 rfl) ?_
  obtain ⟨a3, rfl, hw⟩ := hw
  obtain ⟨h5, hw⟩ := hw
  refine h_goq C0 hW (va_runV (As := [.int z1]) (rest := []) ⟨hx, hb, hml, ho, hts⟩ (k_X4_layerAt (l := l) (u := u) (X := X) (sz := H.size) _ a3 z1 S  hw) (cwV 1 hts gX9_set_X4_layerAt rfl rfl rfl (by decide +kernel) ⟨Nat.le_of_ble_eq_true rfl, Nat.le_of_ble_eq_true rfl⟩) ⟨h_blind, (h_recv C0 hW (ci := 5) rfl h5), (h_pre C0 hW [.ref a3, .int z1])⟩ rfl rfl hl.1 rfl (lv_room (Nat.le_of_ble_eq_true rfl)) dX9_set_5 ⟨by show _ ≤ MC; omega, by show _ ≤ MS; omega⟩) (fun r4 S6 H locs h7 hW => ?_)
  obtain ⟨h8, hp⟩ := h7
  rw [h8] at hW
  replace hw := hp
  refine lv_astoreV (i := 5) (lv' := [(5, va_rf r4), (0, .ref t0), (1, .int z1), (2, .int z2), (3, .int z3), (4, .int z4)]) hx hb dX9_set_8 hl (by decide) rfl (fun ls hl9 => ?_)
  replace hl := hl9
  refine lv_aload_n hx hb dX9_set_10 rfl (lv_at hl 1 rfl) ?_
  refine lv_iload_n hx hb dX9_set_11 rfl (lv_at hl 3 rfl) ?_
  obtain ⟨h10, hw⟩ := hw
  refine h_goq C0 hW (va_runV (As := [.int z2]) (rest := []) ⟨hx, hb, hml, ho, hts⟩ (k_X9_slotAt (l := l) (u := u) (X := X) (sz := H.size) _ t0 z2 S  hw) (cwV 1 hts gX9_set_X9_slotAt rfl rfl rfl (by decide +kernel) ⟨Nat.le_of_ble_eq_true rfl, Nat.le_of_ble_eq_true rfl⟩) ⟨h_blind, (h_recv C0 hW (ci := 10) rfl h10), (h_pre C0 hW [.ref t0, .int z2])⟩ rfl rfl hl.1 rfl (lv_room (Nat.le_of_ble_eq_true rfl)) dX9_set_12 ⟨by show _ ≤ MC; omega, by show _ ≤ MS; omega⟩) (fun r9 S11 H locs h12 hW => ?_)
  obtain ⟨h13, hp⟩ := h12
  rw [h13] at hW
  replace hw := hp
  refine lv_astoreV (i := 6) (lv' := [(6, va_rf r9), (5, va_rf r4), (0, .ref t0), (1, .int z1), (2, .int z2), (3, .int z3), (4, .int z4)]) hx hb dX9_set_15 hl (by decide) (by show (6, va_rf r9) :: List.filter (fun q : Nat × Value => !(q.1 == 6) && !(q.1 + 1 == 6 && q.2.category == 2)) [(5, va_rf r4), (0, .ref t0), (1, .int z1), (2, .int z2), (3, .int z3), (4, .int z4)] = [(6, va_rf r9), (5, va_rf r4), (0, .ref t0), (1, .int z1), (2, .int z2), (3, .int z3), (4, .int z4)]; simp [va_rf_cat, va_c_ref, va_c_int, va_c_null]) (fun ls hl9 => ?_)
  replace hl := hl9
  refine lv_aload_n hx hb dX9_set_17 rfl (lv_at hl 2 rfl) ?_
  refine lv_iload_n hx hb dX9_set_18 rfl (lv_at hl 5 rfl) ?_
  obtain ⟨h15, hw⟩ := hw
  refine h_goq C0 hW (va_runV (As := [.int z3]) (rest := []) ⟨hx, hb, hml, ho, hts⟩ (k_X9_slotAt (l := l) (u := u) (X := X) (sz := H.size) _ t0 z3 S  hw) (cwV 1 hts gX9_set_X9_slotAt rfl rfl rfl (by decide +kernel) ⟨Nat.le_of_ble_eq_true rfl, Nat.le_of_ble_eq_true rfl⟩) ⟨h_blind, (h_recv C0 hW (ci := 10) rfl h15), (h_pre C0 hW [.ref t0, .int z3])⟩ rfl rfl hl.1 rfl (lv_room (Nat.le_of_ble_eq_true rfl)) dX9_set_19 ⟨by show _ ≤ MC; omega, by show _ ≤ MS; omega⟩) (fun r14 S16 H locs h17 hW => ?_)
  obtain ⟨h18, hp⟩ := h17
  rw [h18] at hW
  replace hw := hp
  refine lv_astoreV (i := 7) (lv' := [(7, va_rf r14), (6, va_rf r9), (5, va_rf r4), (0, .ref t0), (1, .int z1), (2, .int z2), (3, .int z3), (4, .int z4)]) hx hb dX9_set_22 hl (by decide) (by show (7, va_rf r14) :: List.filter (fun q : Nat × Value => !(q.1 == 7) && !(q.1 + 1 == 7 && q.2.category == 2)) [(6, va_rf r9), (5, va_rf r4), (0, .ref t0), (1, .int z1), (2, .int z2), (3, .int z3), (4, .int z4)] = [(7, va_rf r14), (6, va_rf r9), (5, va_rf r4), (0, .ref t0), (1, .int z1), (2, .int z2), (3, .int z3), (4, .int z4)]; simp [va_rf_cat, va_c_ref, va_c_int, va_c_null]) (fun ls hl9 => ?_)
  replace hl := hl9
  refine lv_aload_n hx hb dX9_set_24 rfl (lv_at hl 3 rfl) ?_
  refine lv_iload hx hb dX9_set_25 (lv_at hl 7 rfl) ?_
  obtain ⟨h20, hw⟩ := hw
  refine h_goq C0 hW (va_runV (As := [.int z4]) (rest := []) ⟨hx, hb, hml, ho, hts⟩ (k_X9_slotAt (l := l) (u := u) (X := X) (sz := H.size) _ t0 z4 S  hw) (cwV 1 hts gX9_set_X9_slotAt rfl rfl rfl (by decide +kernel) ⟨Nat.le_of_ble_eq_true rfl, Nat.le_of_ble_eq_true rfl⟩) ⟨h_blind, (h_recv C0 hW (ci := 10) rfl h20), (h_pre C0 hW [.ref t0, .int z4])⟩ rfl rfl hl.1 rfl (lv_room (Nat.le_of_ble_eq_true rfl)) dX9_set_27 ⟨by show _ ≤ MC; omega, by show _ ≤ MS; omega⟩) (fun r19 S21 H locs h22 hW => ?_)
  obtain ⟨h23, hp⟩ := h22
  rw [h23] at hW
  replace hw := hp
  refine lv_astoreV (i := 8) (lv' := [(8, va_rf r19), (7, va_rf r14), (6, va_rf r9), (5, va_rf r4), (0, .ref t0), (1, .int z1), (2, .int z2), (3, .int z3), (4, .int z4)]) hx hb dX9_set_30 hl (by decide) (by show (8, va_rf r19) :: List.filter (fun q : Nat × Value => !(q.1 == 8) && !(q.1 + 1 == 8 && q.2.category == 2)) [(7, va_rf r14), (6, va_rf r9), (5, va_rf r4), (0, .ref t0), (1, .int z1), (2, .int z2), (3, .int z3), (4, .int z4)] = [(8, va_rf r19), (7, va_rf r14), (6, va_rf r9), (5, va_rf r4), (0, .ref t0), (1, .int z1), (2, .int z2), (3, .int z3), (4, .int z4)]; simp [va_rf_cat, va_c_ref, va_c_int, va_c_null]) (fun ls hl9 => ?_)
  replace hl := hl9
  refine lv_aloadV hx hb dX9_set_32 (lv_at hl 3 rfl) ?_
  refine lv_ifnullV (tgt := 52) hx hb dX9_set_34 (by decide) (fun c24 => ?_) (fun a25 c24 => ?_)
  · subst c24
    replace hw := hw.1 rfl
    refine lv_iconst (v := (-1)) hx hb dX9_set_52 (by decide) ?_
    exact hret (-1) S _ _ _ _ (by omega) (by omega) hw rfl dX9_set_53 _ _ _ hW hl
  · subst c24
    replace hw := hw.2 a25 rfl
    refine lv_aloadV hx hb dX9_set_37 (lv_at hl 2 rfl) ?_
    refine lv_ifnullV (tgt := 52) hx hb dX9_set_39 (by decide) (fun c26 => ?_) (fun a27 c26 => ?_)
    · subst c26
      replace hw := hw.1 rfl
      refine lv_iconst (v := (-1)) hx hb dX9_set_52 (by decide) ?_
      exact hret (-1) S _ _ _ _ (by omega) (by omega) hw rfl dX9_set_53 _ _ _ hW hl
    · subst c26
      replace hw := hw.2 a27 rfl
      refine lv_aloadV hx hb dX9_set_42 (lv_at hl 1 rfl) ?_
      refine lv_ifnullV (tgt := 52) hx hb dX9_set_44 (by decide) (fun c28 => ?_) (fun a29 c28 => ?_)
      · subst c28
        replace hw := hw.1 rfl
        refine lv_iconst (v := (-1)) hx hb dX9_set_52 (by decide) ?_
        exact hret (-1) S _ _ _ _ (by omega) (by omega) hw rfl dX9_set_53 _ _ _ hW hl
      · subst c28
        replace hw := hw.2 a29 rfl
        refine lv_aloadV hx hb dX9_set_47 (lv_at hl 0 rfl) ?_
        refine lv_ifnonnullV (tgt := 54) hx hb dX9_set_49 (by decide) (fun a31 c30 => ?_) (fun c30 => ?_)
        · subst c30
          replace hw := hw.2 a31 rfl
          refine lv_aload hx hb dX9_set_54 (lv_at hl 1 rfl) ?_
          obtain ⟨o32, h33, hw⟩ := hw
          refine h_getRN C0 hW (host := RX9) (T := TX6) (kf := 0) in_X9_set_RX6 h33 rfl (by decide) (by decide +kernel) rfl dX9_set_56 ?_
          refine lv_ifnonnullV (tgt := 65) hx hb dX9_set_59 (by decide) (fun a35 c34 => ?_) (fun c34 => ?_)
          · subst c34
            replace hw := hw.2 a35 rfl
            refine lv_aload hx hb dX9_set_65 (lv_at hl 2 rfl) ?_
            obtain ⟨o36, h37, hw⟩ := hw
            refine h_getRN C0 hW (host := RX9) (T := TX6) (kf := 0) in_X9_set_RX6 h37 rfl (by decide) (by decide +kernel) rfl dX9_set_67 ?_
            refine lv_ifnonnullV (tgt := 78) hx hb dX9_set_70 (by decide) (fun a39 c38 => ?_) (fun c38 => ?_)
            · subst c38
              replace hw := hw.2 a39 rfl
              refine lv_aload hx hb dX9_set_78 (lv_at hl 3 rfl) ?_
              refine lv_aload hx hb dX9_set_80 (lv_at hl 2 rfl) ?_
              obtain ⟨o44, h45, hw⟩ := hw
              refine h_getRN C0 hW (host := RX9) (T := TX6) (kf := 0) in_X9_set_RX6 h45 rfl (by decide) (by decide +kernel) rfl dX9_set_82 ?_
              obtain ⟨h47, hw⟩ := hw
              refine h_goq C0 hW (va_runV (As := [va_rf o44]) (rest := []) ⟨hx, hb, hml, ho, hts⟩ (k_X3_valueOf (l := l) (u := u) (X := X) (sz := H.size) _ a25 o44 S  hw) (cwV 1 hts gX9_set_X3_valueOf rfl rfl rfl (by decide +kernel) ⟨Nat.le_of_ble_eq_true rfl, Nat.le_of_ble_eq_true rfl⟩) ⟨h_blind, (h_recv C0 hW (ci := 4) rfl h47), (h_pre C0 hW [.ref a25, va_rf o44])⟩ rfl rfl hl.1 rfl (lv_room (Nat.le_of_ble_eq_true rfl)) dX9_set_85 ⟨by show _ ≤ MC; omega, by show _ ≤ MS; omega⟩) (fun r46 S48 H locs h49 hW => ?_)
              obtain ⟨h50, hp⟩ := h49
              rw [h50] at hW
              replace hw := hp
              refine lv_astoreV (i := 9) (lv' := [(9, va_rf r46), (8, .ref a31), (7, .ref a29), (6, .ref a27), (5, .ref a25), (0, .ref t0), (1, .int z1), (2, .int z2), (3, .int z3), (4, .int z4)]) hx hb dX9_set_88 hl (by decide) rfl (fun ls hl9 => ?_)
              replace hl := hl9
              refine lv_aload hx hb dX9_set_90 (lv_at hl 4 rfl) ?_
              refine lv_aload hx hb dX9_set_92 (lv_at hl 3 rfl) ?_
              obtain ⟨o51, h52, hw⟩ := hw
              refine h_getRN C0 hW (host := RX9) (T := TX6) (kf := 0) in_X9_set_RX6 h52 rfl (by decide) (by decide +kernel) rfl dX9_set_94 ?_
              refine lv_aload hx hb dX9_set_97 (lv_at hl 2 rfl) ?_
              obtain ⟨o53, h54, hw⟩ := hw
              refine h_getRN C0 hW (host := RX9) (T := TX6) (kf := 0) in_X9_set_RX6 h54 rfl (by decide) (by decide +kernel) rfl dX9_set_99 ?_
              obtain ⟨h60, k56, n57, h58, h59, hw⟩ := hw
              refine h_goi C0 hW (va_runV (As := [va_rf o51, va_rf o53]) (rest := []) ⟨hx, hb, hml, ho, hts⟩ (k_X3_put (l := l) (u := u) (X := X) (sz := H.size) _ a25 o51 o53 S k56 n57 hw) (cwV 2 hts gX9_set_X3_put rfl rfl rfl (by decide +kernel) ⟨Nat.le_of_ble_eq_true rfl, Nat.le_of_ble_eq_true rfl⟩) ⟨h_blind, (h_recv C0 hW (ci := 4) rfl h60), (h_pre C0 hW [.ref a25, va_rf o51, va_rf o53])⟩ rfl rfl hl.1 rfl (lv_room (Nat.le_of_ble_eq_true rfl)) dX9_set_102 ⟨by show _ ≤ MC; omega, by show _ ≤ MS; omega⟩) (fun r55 S61 H locs h62 hW => ?_)
              replace hw := h62
              have hkn : (k + k56) + (mc - k56) ≤ MC ∧ (n + n57) + (ms - n57) ≤ MS := by omega
              refine lv_if_ne (tgt := 111) hx hb dX9_set_105 (by decide) (fun c63 => ?_) (fun c63 => ?_)
              · replace hw := hw.1 c63
                refine lv_aload hx hb dX9_set_111 (lv_at hl 1 rfl) ?_
                refine lv_aloadV hx hb dX9_set_113 (lv_at hl 0 rfl) ?_
                obtain ⟨fs64, h65, h66, hw⟩ := hw
                refine h_putN C0 hW (host := RX9) (T := TX6) (kf := 0) (ty := .object "java/lang/String") in_X9_set_RX6 h65 rfl (by decide) h66 tyX6 tyX6_ok nmX6 (by decide +kernel) rfl rfl (by decide +kernel) (by cases r46 <;> rfl) (by cases r46 <;> rfl) dX9_set_115 (fun H locs hW => ?_)
                obtain ⟨S67, eS67⟩ : ∃ z : hS, z = upS S61 a31 (.inr (7, fs64.set 0 (va_rf r46))) := ⟨_, rfl⟩
                rw [← eS67] at hW
                replace hw := hw S67 eS67
                refine lv_aload hx hb dX9_set_118 (lv_at hl 4 rfl) ?_
                obtain ⟨h69, hw⟩ := hw
                refine h_goi C0 hW (va_runV (As := []) (rest := []) ⟨hx, hb, hml, ho, hts⟩ (k_X3_entryCount (l := l) (u := u) (X := X) (sz := H.size) _ a25  S67  hw) (cwV 0 hts gX9_set_X3_entryCount rfl rfl rfl (by decide +kernel) ⟨Nat.le_of_ble_eq_true rfl, Nat.le_of_ble_eq_true rfl⟩) ⟨h_blind, (h_recv C0 hW (ci := 4) rfl h69), (h_pre C0 hW [.ref a25])⟩ rfl rfl hl.1 rfl (lv_room (Nat.le_of_ble_eq_true rfl)) dX9_set_120 ⟨by show _ ≤ MC; omega, by show _ ≤ MS; omega⟩) (fun r68 S70 H locs h71 hW => ?_)
                obtain ⟨h72, hp⟩ := h71
                rw [h72] at hW
                replace hw := hp
                exact hret r68 S67 _ _ _ _ (by omega) (by omega) hw rfl dX9_set_123 _ _ _ hW hl
              · replace hw := hw.2 c63
                refine lv_bipush (v := (-3)) hx hb dX9_set_108 (by decide) ?_
                exact hret (-3) S61 _ _ _ _ (by omega) (by omega) hw rfl dX9_set_110 _ _ _ hW hl
            · subst c38
              replace hw := hw.1 rfl
              refine lv_aload_n hx hb dX9_set_73 rfl (lv_at hl 4 rfl) ?_
              obtain ⟨h41, hw⟩ := hw
              refine h_goi C0 hW (va_runV (As := []) (rest := []) ⟨hx, hb, hml, ho, hts⟩ (k_X9_refuseNull (l := l) (u := u) (X := X) (sz := H.size) _ t0  S  hw) (cwV 0 hts gX9_set_X9_refuseNull rfl rfl rfl (by decide +kernel) ⟨Nat.le_of_ble_eq_true rfl, Nat.le_of_ble_eq_true rfl⟩) ⟨h_blind, (h_recv C0 hW (ci := 10) rfl h41), (h_pre C0 hW [.ref t0])⟩ rfl rfl hl.1 rfl (lv_room (Nat.le_of_ble_eq_true rfl)) dX9_set_74 ⟨by show _ ≤ MC; omega, by show _ ≤ MS; omega⟩) (fun r40 S42 H locs h43 hW => ?_)
              replace hw := h43
              exact hret r40 S42 _ _ _ _ (by omega) (by omega) hw rfl dX9_set_77 _ _ _ hW hl
          · subst c34
            replace hw := hw.1 rfl
            refine lv_bipush (v := (-2)) hx hb dX9_set_62 (by decide) ?_
            exact hret (-2) S _ _ _ _ (by omega) (by omega) hw rfl dX9_set_64 _ _ _ hW hl
        · subst c30
          replace hw := hw.1 rfl
          refine lv_iconst (v := (-1)) hx hb dX9_set_52 (by decide) ?_
          exact hret (-1) S _ _ _ _ (by omega) (by omega) hw rfl dX9_set_53 _ _ _ hW hl
set_option maxHeartbeats 4000000 in
set_option maxRecDepth 100000 in
theorem k_X9_set {l : Launch} {D : va_G} {u : hU} {X : va_W} {sz : Nat} (post : Int32 → hS → Prop) (t0 : Nat) (z1 : Int32) (z2 : Int32) (z3 : Int32) (z4 : Int32) (S : hS) (mc ms : Nat) (hw : w_X9_set u post t0 z1 z2 z3 z4 S mc ms) : hMi l yX9_set wsX9_set (rm_X9_set mc ms) D (gt u.2.1) u.1 u.2.2 sz X S [.ref t0, .int z1, .int z2, .int z3, .int z4] post mc ms := by
  refine hMi_of (cc := cX9_set) (nL := 10) (ty := .int) (own := RX9) (by decide) rfl rfl (Nat.le_of_ble_eq_true rfl) ?_
  intro p e s m args below meth c A Q C0 hin hret
  exact t_X9_set_0 C0 t0 post hret z1 z2 z3 z4 S mc ms 0 0 ⟨by omega, by omega⟩ hw
abbrev rm_X9_empty : Room := { frames := 2, cells := 0, slots := 0, locals := 42 }
theorem in_X9_empty_RX9 : ∀ w ∈ wsX90, w ∈ wsX9_empty := fun w hw9 => List.mem_cons_of_mem _ (List.mem_append_left _ (List.mem_append_left _ (List.mem_append_right _ hw9)))
set_option maxHeartbeats 4000000 in
set_option maxRecDepth 100000 in
theorem t_X9_empty_0 (C0 : hX p s m args c cX9_empty 4 RX9 wsX9_empty D (gt u.2.1) A u.1 u.2.2) (t0 : Nat) (post : Int32 → hS → Prop) (hret : ∀ (r : Int32) (S' : hS) (pc : Nat) (lv : List (Nat × Value)) (k n : Nat), k ≤ 0 → n ≤ 0 → post r S' → narrow .int (.int r) = .int r → decode cX9_empty pc = .ok (.ireturn, 1) → gG p l e (rm_X9_empty) s m args below meth c Q D A 4 k n (hC X S') pc lv [.int r])  : ∀ (z1 : Int32) (S : hS), w_X9_empty u post t0  z1 S → gG p l e (rm_X9_empty) s m args below meth c Q D A 4 0 0 (hC X S) 0 [(0, .ref t0), (1, .int z1)] [] := by
  obtain ⟨⟨hx, hb, hml, ho, hts, hK, hA⟩, hR⟩ := id C0
  intro z1 S hw H locs ls hW hl
  rw [w_X9_empty] at hw
  refine lv_aload_n hx hb dX9_empty_0 rfl (lv_at hl 0 rfl) ?_
  obtain ⟨o1, h2, hw⟩ := hw
  refine h_getR C0 hW (T := TX9) (kf := 2) in_X9_empty_RX9 h2 rfl (by decide) (List.mem_of_getElem? (i := 1) rfl) rfl dX9_empty_1 ?_
  refine lv_iload_n hx hb dX9_empty_4 rfl (lv_at hl 1 rfl) ?_
  obtain ⟨a3, rfl, hw⟩ := hw
  obtain ⟨h5, hw⟩ := hw
  refine h_goq C0 hW (va_runV (As := [.int z1]) (rest := []) ⟨hx, hb, hml, ho, hts⟩ (k_X4_layerAt (l := l) (u := u) (X := X) (sz := H.size) _ a3 z1 S  hw) (cwV 1 hts gX9_empty_X4_layerAt rfl rfl rfl (by decide +kernel) ⟨Nat.le_of_ble_eq_true rfl, Nat.le_of_ble_eq_true rfl⟩) ⟨h_blind, (h_recv C0 hW (ci := 5) rfl h5), (h_pre C0 hW [.ref a3, .int z1])⟩ rfl rfl hl.1 rfl (lv_room (Nat.le_of_ble_eq_true rfl)) dX9_empty_5 ⟨Nat.le_refl _, Nat.le_refl _⟩) (fun r4 S6 H locs h7 hW => ?_)
  obtain ⟨h8, hp⟩ := h7
  rw [h8] at hW
  replace hw := hp
  refine lv_astoreV_n (i := 2) (lv' := [(2, va_rf r4), (0, .ref t0), (1, .int z1)]) hx hb dX9_empty_8 rfl hl (by decide) rfl (fun ls hl9 => ?_)
  replace hl := hl9
  refine lv_aloadV_n hx hb dX9_empty_9 rfl (lv_at hl 0 rfl) ?_
  refine lv_ifnonnullV (tgt := 15) hx hb dX9_empty_10 (by decide) (fun a10 c9 => ?_) (fun c9 => ?_)
  · subst c9
    replace hw := hw.2 a10 rfl
    refine lv_aload_n hx hb dX9_empty_15 rfl (lv_at hl 0 rfl) ?_
    obtain ⟨h12, hw⟩ := hw
    refine h_goi C0 hW (va_runV (As := []) (rest := []) ⟨hx, hb, hml, ho, hts⟩ (k_X3_entryCount (l := l) (u := u) (X := X) (sz := H.size) _ a10  S  hw) (cwV 0 hts gX9_empty_X3_entryCount rfl rfl rfl (by decide +kernel) ⟨Nat.le_of_ble_eq_true rfl, Nat.le_of_ble_eq_true rfl⟩) ⟨h_blind, (h_recv C0 hW (ci := 4) rfl h12), (h_pre C0 hW [.ref a10])⟩ rfl rfl hl.1 rfl (lv_room (Nat.le_of_ble_eq_true rfl)) dX9_empty_16 ⟨Nat.le_refl _, Nat.le_refl _⟩) (fun r11 S13 H locs h14 hW => ?_)
    obtain ⟨h15, hp⟩ := h14
    rw [h15] at hW
    replace hw := hp
    refine lv_istore_n (lv' := [(3, .int r11), (2, .ref a10), (0, .ref t0), (1, .int z1)]) hx hb dX9_empty_19 rfl hl (by decide) rfl (fun ls hl9 => ?_)
    replace hl := hl9
    refine lv_aload_n hx hb dX9_empty_20 rfl (lv_at hl 1 rfl) ?_
    obtain ⟨h17, hw⟩ := hw
    refine h_gov C0 hW (va_runV (As := []) (rest := []) ⟨hx, hb, hml, ho, hts⟩ (k_X3_removeAll (l := l) (u := u) (X := X) (sz := H.size) _ a10  S  hw) (cwV 0 hts gX9_empty_X3_removeAll rfl rfl rfl (by decide +kernel) ⟨Nat.le_of_ble_eq_true rfl, Nat.le_of_ble_eq_true rfl⟩) ⟨h_blind, (h_recv C0 hW (ci := 4) rfl h17), (h_pre C0 hW [.ref a10])⟩ rfl rfl hl.1 rfl (lv_room (Nat.le_of_ble_eq_true rfl)) dX9_empty_21 ⟨Nat.le_refl _, Nat.le_refl _⟩) (fun S18 H locs h19 hW => ?_)
    replace hw := h19
    refine lv_iload_n hx hb dX9_empty_24 rfl (lv_at hl 0 rfl) ?_
    exact hret r11 S18 _ _ 0 0 (Nat.le_refl _) (Nat.le_refl _) hw rfl dX9_empty_25 _ _ _ hW hl
  · subst c9
    replace hw := hw.1 rfl
    refine lv_iconst (v := (-1)) hx hb dX9_empty_13 (by decide) ?_
    exact hret (-1) S _ _ 0 0 (Nat.le_refl _) (Nat.le_refl _) hw rfl dX9_empty_14 _ _ _ hW hl
set_option maxHeartbeats 4000000 in
set_option maxRecDepth 100000 in
theorem k_X9_empty {l : Launch} {D : va_G} {u : hU} {X : va_W} {sz : Nat} (post : Int32 → hS → Prop) (t0 : Nat) (z1 : Int32) (S : hS) (hw : w_X9_empty u post t0 z1 S) : hMi l yX9_empty wsX9_empty rm_X9_empty D (gt u.2.1) u.1 u.2.2 sz X S [.ref t0, .int z1] post 0 0 := by
  refine hMi_of (cc := cX9_empty) (nL := 4) (ty := .int) (own := RX9) (by decide) rfl rfl (Nat.le_of_ble_eq_true rfl) ?_
  intro p e s m args below meth c A Q C0 hin hret
  exact t_X9_empty_0 C0 t0 post hret z1 S hw
abbrev rm_X9_size : Room := { frames := 2, cells := 0, slots := 0, locals := 42 }
theorem in_X9_size_RX9 : ∀ w ∈ wsX90, w ∈ wsX9_size := fun w hw9 => List.mem_cons_of_mem _ (List.mem_append_left _ (List.mem_append_left _ (List.mem_append_right _ hw9)))
set_option maxHeartbeats 4000000 in
set_option maxRecDepth 100000 in
theorem t_X9_size_0 (C0 : hX p s m args c cX9_size 3 RX9 wsX9_size D (gt u.2.1) A u.1 u.2.2) {S : hS} (t0 : Nat) (post : Int32 → Prop) (hret : ∀ (r : Int32) (S' : hS) (pc : Nat) (lv : List (Nat × Value)) (k n : Nat), k ≤ 0 → n ≤ 0 → (S' = S ∧ post r) → narrow .int (.int r) = .int r → decode cX9_size pc = .ok (.ireturn, 1) → gG p l e (rm_X9_size) s m args below meth c Q D A 3 k n (hC X S') pc lv [.int r])  : ∀ (z1 : Int32), w_X9_size u post t0  z1 S → gG p l e (rm_X9_size) s m args below meth c Q D A 3 0 0 (hC X S) 0 [(0, .ref t0), (1, .int z1)] [] := by
  obtain ⟨⟨hx, hb, hml, ho, hts, hK, hA⟩, hR⟩ := id C0
  intro z1 hw H locs ls hW hl
  rw [w_X9_size] at hw
  refine lv_aload_n hx hb dX9_size_0 rfl (lv_at hl 0 rfl) ?_
  obtain ⟨o1, h2, hw⟩ := hw
  refine h_getR C0 hW (T := TX9) (kf := 2) in_X9_size_RX9 h2 rfl (by decide) (List.mem_of_getElem? (i := 1) rfl) rfl dX9_size_1 ?_
  refine lv_iload_n hx hb dX9_size_4 rfl (lv_at hl 1 rfl) ?_
  obtain ⟨a3, rfl, hw⟩ := hw
  obtain ⟨h5, hw⟩ := hw
  refine h_goq C0 hW (va_runV (As := [.int z1]) (rest := []) ⟨hx, hb, hml, ho, hts⟩ (k_X4_layerAt (l := l) (u := u) (X := X) (sz := H.size) _ a3 z1 S  hw) (cwV 1 hts gX9_size_X4_layerAt rfl rfl rfl (by decide +kernel) ⟨Nat.le_of_ble_eq_true rfl, Nat.le_of_ble_eq_true rfl⟩) ⟨h_blind, (h_recv C0 hW (ci := 5) rfl h5), (h_pre C0 hW [.ref a3, .int z1])⟩ rfl rfl hl.1 rfl (lv_room (Nat.le_of_ble_eq_true rfl)) dX9_size_5 ⟨Nat.le_refl _, Nat.le_refl _⟩) (fun r4 S6 H locs h7 hW => ?_)
  obtain ⟨h8, hp⟩ := h7
  rw [h8] at hW
  replace hw := hp
  refine lv_astoreV_n (i := 2) (lv' := [(2, va_rf r4), (0, .ref t0), (1, .int z1)]) hx hb dX9_size_8 rfl hl (by decide) rfl (fun ls hl9 => ?_)
  replace hl := hl9
  refine lv_aloadV_n hx hb dX9_size_9 rfl (lv_at hl 0 rfl) ?_
  refine lv_ifnonnullV (tgt := 15) hx hb dX9_size_10 (by decide) (fun a10 c9 => ?_) (fun c9 => ?_)
  · subst c9
    replace hw := hw.2 a10 rfl
    refine lv_aload_n hx hb dX9_size_15 rfl (lv_at hl 0 rfl) ?_
    obtain ⟨h12, hw⟩ := hw
    refine h_goi C0 hW (va_runV (As := []) (rest := []) ⟨hx, hb, hml, ho, hts⟩ (k_X3_entryCount (l := l) (u := u) (X := X) (sz := H.size) _ a10  S  hw) (cwV 0 hts gX9_size_X3_entryCount rfl rfl rfl (by decide +kernel) ⟨Nat.le_of_ble_eq_true rfl, Nat.le_of_ble_eq_true rfl⟩) ⟨h_blind, (h_recv C0 hW (ci := 4) rfl h12), (h_pre C0 hW [.ref a10])⟩ rfl rfl hl.1 rfl (lv_room (Nat.le_of_ble_eq_true rfl)) dX9_size_16 ⟨Nat.le_refl _, Nat.le_refl _⟩) (fun r11 S13 H locs h14 hW => ?_)
    obtain ⟨h15, hp⟩ := h14
    rw [h15] at hW
    replace hw := hp
    exact hret r11 S _ _ 0 0 (Nat.le_refl _) (Nat.le_refl _) ⟨rfl, hw⟩ rfl dX9_size_19 _ _ _ hW hl
  · subst c9
    replace hw := hw.1 rfl
    refine lv_iconst (v := (-1)) hx hb dX9_size_13 (by decide) ?_
    exact hret (-1) S _ _ 0 0 (Nat.le_refl _) (Nat.le_refl _) ⟨rfl, hw⟩ rfl dX9_size_14 _ _ _ hW hl
set_option maxHeartbeats 4000000 in
set_option maxRecDepth 100000 in
theorem k_X9_size {l : Launch} {D : va_G} {u : hU} {X : va_W} {sz : Nat} (post : Int32 → Prop) (t0 : Nat) (z1 : Int32) (S : hS) (hw : w_X9_size u post t0 z1 S) : hMi l yX9_size wsX9_size rm_X9_size D (gt u.2.1) u.1 u.2.2 sz X S [.ref t0, .int z1] (fun r S' => S' = S ∧ post r) 0 0 := by
  refine hMi_of (cc := cX9_size) (nL := 3) (ty := .int) (own := RX9) (by decide) rfl rfl (Nat.le_of_ble_eq_true rfl) ?_
  intro p e s m args below meth c A Q C0 hin hret
  exact t_X9_size_0 C0 t0 post hret z1 hw
abbrev rm_X9_names (MC MS : Nat) : Room := { frames := 6, cells := MC, slots := MS, locals := 132 }
theorem in_X9_names_RX5 : ∀ w ∈ wsX50, w ∈ wsX9_names := fun w hw9 => List.mem_cons_of_mem _ (List.mem_append_left _ (List.mem_append_left _ (List.mem_append_left _ (List.mem_append_left _ (List.mem_append_right _ hw9)))))
theorem in_X9_names_RX9 : ∀ w ∈ wsX90, w ∈ wsX9_names := fun w hw9 => List.mem_cons_of_mem _ (List.mem_append_left _ (List.mem_append_left _ (List.mem_append_left _ (List.mem_append_left _ (List.mem_append_left _ (List.mem_append_right _ hw9))))))
set_option maxHeartbeats 4000000 in
set_option maxRecDepth 100000 in
theorem t_X9_names_28 (C0 : hX p s m args c cX9_names 4 RX9 wsX9_names D (gt u.2.1) A u.1 u.2.2) (t0 : Nat) (post : Int32 → hS → Prop) (hret : ∀ (r : Int32) (S' : hS) (pc : Nat) (lv : List (Nat × Value)) (k n : Nat), k ≤ MC → n ≤ MS → post r S' → narrow .int (.int r) = .int r → decode cX9_names pc = .ok (.ireturn, 1) → gG p l e (rm_X9_names MC MS) s m args below meth c Q D A 4 k n (hC X S') pc lv [.int r])  : ∀ (nf : Nat) (x2 : Nat) (x3 : Int32) (S : hS) (mc ms k n : Nat), k + mc ≤ MC ∧ n + ms ≤ MS → w_X9_names_28 u post t0  nf x2 x3 S mc ms → gG p l e (rm_X9_names MC MS) s m args below meth c Q D A 4 k n (hC X S) 28 [(0, .ref t0), (2, .ref x2), (3, .int x3)] [] := by
  obtain ⟨⟨hx, hb, hml, ho, hts, hK, hA⟩, hR⟩ := id C0
  intro nf
  induction nf with
  | zero => intro x2 x3 S mc ms k n hkn hw; exact hw.elim
  | succ nf ih =>
    intro x2 x3 S mc ms k n hkn hw H locs ls hW hl
    rw [w_X9_names_28] at hw
    refine lv_iload_n hx hb dX9_names_28 rfl (lv_at hl 2 rfl) ?_
    refine lv_sipush (v := 160) hx hb dX9_names_29 (by decide) ?_
    refine lv_icmp_ge (tgt := 48) hx hb dX9_names_32 (by decide) (fun c26 => ?_) (fun c26 => ?_)
    · replace hw := hw.1 c26
      refine lv_iload_n hx hb dX9_names_48 rfl (lv_at hl 2 rfl) ?_
      exact hret x3 S _ _ _ _ (by omega) (by omega) hw rfl dX9_names_49 _ _ _ hW hl
    · replace hw := hw.2 c26
      refine lv_aload_n hx hb dX9_names_35 rfl (lv_at hl 1 rfl) ?_
      obtain ⟨h28, hw⟩ := hw
      refine h_goq C0 hW (va_runV (As := []) (rest := []) ⟨hx, hb, hml, ho, hts⟩ (k_X5_nextName (l := l) (u := u) (X := X) (sz := H.size) _ x2  S  hw) (cwV 0 hts gX9_names_X5_nextName rfl rfl rfl (by decide +kernel) ⟨Nat.le_of_ble_eq_true rfl, Nat.le_of_ble_eq_true rfl⟩) ⟨h_blind, (h_recv C0 hW (ci := 6) rfl h28), (h_pre C0 hW [.ref x2])⟩ rfl rfl hl.1 rfl (lv_room (Nat.le_of_ble_eq_true rfl)) dX9_names_36 ⟨by show _ ≤ MC; omega, by show _ ≤ MS; omega⟩) (fun r27 S29 H locs h30 hW => ?_)
      replace hw := h30
      refine lv_ifnullV (tgt := 48) hx hb dX9_names_39 (by decide) (fun c31 => ?_) (fun a32 c31 => ?_)
      · subst c31
        replace hw := hw.1 rfl
        refine lv_iload_n hx hb dX9_names_48 rfl (lv_at hl 2 rfl) ?_
        exact hret x3 S29 _ _ _ _ (by omega) (by omega) hw rfl dX9_names_49 _ _ _ hW hl
      · subst c31
        replace hw := hw.2 a32 rfl
        obtain ⟨v33, ev33⟩ : ∃ y : Int32, y = x3 + 1 := ⟨_, rfl⟩
        replace hw := hw v33 ev33
        refine lv_iinc (v := v33) (lv' := [(3, .int v33), (0, .ref t0), (2, .ref x2)]) hx hb dX9_names_42 hl (k := 2) rfl (by rw [ev33]; rfl) (by decide) rfl (fun ls hl9 => ?_)
        replace hl := hl9
        refine lv_goto (tgt := 28) hx hb dX9_names_45 (by decide) ?_
        exact ih x2 v33 S29 mc ms _ _ hkn hw _ _ _ hW (lv_sub hl [1, 2, 0] rfl)
set_option maxHeartbeats 4000000 in
set_option maxRecDepth 100000 in
theorem t_X9_names_0 (C0 : hX p s m args c cX9_names 4 RX9 wsX9_names D (gt u.2.1) A u.1 u.2.2) (t0 : Nat) (post : Int32 → hS → Prop) (hret : ∀ (r : Int32) (S' : hS) (pc : Nat) (lv : List (Nat × Value)) (k n : Nat), k ≤ MC → n ≤ MS → post r S' → narrow .int (.int r) = .int r → decode cX9_names pc = .ok (.ireturn, 1) → gG p l e (rm_X9_names MC MS) s m args below meth c Q D A 4 k n (hC X S') pc lv [.int r])  : ∀ (z1 : Int32) (S : hS) (mc ms k n : Nat), k + mc ≤ MC ∧ n + ms ≤ MS → w_X9_names u post t0  z1 S mc ms → gG p l e (rm_X9_names MC MS) s m args below meth c Q D A 4 k n (hC X S) 0 [(0, .ref t0), (1, .int z1)] [] := by
  obtain ⟨⟨hx, hb, hml, ho, hts, hK, hA⟩, hR⟩ := id C0
  intro z1 S mc ms k n hkn hw H locs ls hW hl
  rw [w_X9_names] at hw
  refine lv_aload_n hx hb dX9_names_0 rfl (lv_at hl 0 rfl) ?_
  obtain ⟨o1, h2, hw⟩ := hw
  refine h_getR C0 hW (T := TX9) (kf := 2) in_X9_names_RX9 h2 rfl (by decide) (List.mem_of_getElem? (i := 1) rfl) rfl dX9_names_1 ?_
  refine lv_iload_n hx hb dX9_names_4 rfl (lv_at hl 1 rfl) ?_
  obtain ⟨a3, rfl, hw⟩ := hw
  obtain ⟨h5, hw⟩ := hw
  refine h_goq C0 hW (va_runV (As := [.int z1]) (rest := []) ⟨hx, hb, hml, ho, hts⟩ (k_X4_layerAt (l := l) (u := u) (X := X) (sz := H.size) _ a3 z1 S  hw) (cwV 1 hts gX9_names_X4_layerAt rfl rfl rfl (by decide +kernel) ⟨Nat.le_of_ble_eq_true rfl, Nat.le_of_ble_eq_true rfl⟩) ⟨h_blind, (h_recv C0 hW (ci := 5) rfl h5), (h_pre C0 hW [.ref a3, .int z1])⟩ rfl rfl hl.1 rfl (lv_room (Nat.le_of_ble_eq_true rfl)) dX9_names_5 ⟨by show _ ≤ MC; omega, by show _ ≤ MS; omega⟩) (fun r4 S6 H locs h7 hW => ?_)
  obtain ⟨h8, hp⟩ := h7
  rw [h8] at hW
  replace hw := hp
  refine lv_ifnonnullV (tgt := 13) hx hb dX9_names_8 (by decide) (fun a10 c9 => ?_) (fun c9 => ?_)
  · subst c9
    replace hw := hw.2 a10 rfl
    obtain ⟨h14, h15, hw⟩ := hw
    refine h_new C0 hW (ci := 6) (fs := [.null, .int 0, .null]) in_X9_names_RX5 rfl tyX5 tyX5_ok (List.mem_of_getElem? (i := 2) rfl) (List.mem_of_getElem? (i := 3) rfl) (List.mem_of_getElem? (i := 4) rfl) (fun j hj => by rcases (show j = 0 ∨ j = 1 ∨ j = 2 by omega) with rfl | rfl | rfl <;> rfl) (by show _ ≤ MC; omega) (by show _ ≤ MS; omega) dX9_names_13 (fun q11 H h12 hW => ?_)
    obtain ⟨S13, eS13⟩ : ∃ z : hS, z = adS S q11 (.inr (6, [.null, .int 0, .null])) := ⟨_, rfl⟩
    rw [← eS13] at hW
    replace hw := hw q11 S13 h12 eS13
    have hkn : (k + 1) + (mc - 1) ≤ MC ∧ (n + 3) + (ms - 3) ≤ MS := by omega
    refine lv_dup hx hb dX9_names_16 rfl ?_
    refine lv_aload_n hx hb dX9_names_17 rfl (lv_at hl 0 rfl) ?_
    obtain ⟨o16, h17, hw⟩ := hw
    refine h_getR C0 hW (T := TX9) (kf := 2) in_X9_names_RX9 h17 rfl (by decide) (List.mem_of_getElem? (i := 1) rfl) rfl dX9_names_18 ?_
    refine lv_iload_n hx hb dX9_names_21 rfl (lv_at hl 1 rfl) ?_
    obtain ⟨k19, n20, h21, h22, hw⟩ := hw
    refine h_gov C0 hW (va_runI (As := [va_rf o16, .int z1]) (rest := [.ref q11]) ⟨hx, hb, hml, ho, hts⟩ (k_X5_init (l := l) (u := u) (X := X) (sz := H.size) _ q11 o16 z1 S13 k19 n20 hw) (cwI 2 hts gX9_names_X5_init rfl rfl rfl (hts _ (List.mem_of_getElem? (i := 4) rfl)) (hts _ (List.mem_of_getElem? (i := 14) rfl)) (hts _ (List.mem_of_getElem? (i := 15) rfl)) rfl (by decide +kernel) ⟨Nat.le_of_ble_eq_true rfl, Nat.le_of_ble_eq_true rfl⟩) ⟨h_blind, (h_pre C0 hW [.ref q11, va_rf o16, .int z1])⟩ rfl rfl hl.1 rfl (lv_room (Nat.le_of_ble_eq_true rfl)) dX9_names_22 ⟨by show _ ≤ MC; omega, by show _ ≤ MS; omega⟩) (fun S23 H locs h24 hW => ?_)
    replace hw := h24
    have hkn : ((k + 1) + k19) + ((mc - 1) - k19) ≤ MC ∧ ((n + 3) + n20) + ((ms - 3) - n20) ≤ MS := by omega
    refine lv_astore_n (i := 2) (lv' := [(2, .ref q11), (0, .ref t0), (1, .int z1)]) hx hb dX9_names_25 rfl hl (by decide) rfl (fun ls hl9 => ?_)
    replace hl := hl9
    refine lv_iconst (v := 0) hx hb dX9_names_26 (by decide) ?_
    refine lv_istore_n (lv' := [(3, .int 0), (2, .ref q11), (0, .ref t0), (1, .int z1)]) hx hb dX9_names_27 rfl hl (by decide) rfl (fun ls hl9 => ?_)
    replace hl := hl9
    obtain ⟨n25, hw⟩ := hw
    exact t_X9_names_28 C0 t0 post hret  n25 q11 0 S23 ((mc - 1) - k19) ((ms - 3) - n20) _ _ hkn hw _ _ _ hW (lv_sub hl [2, 1, 0] rfl)
  · subst c9
    replace hw := hw.1 rfl
    refine lv_iconst (v := (-1)) hx hb dX9_names_11 (by decide) ?_
    exact hret (-1) S _ _ _ _ (by omega) (by omega) hw rfl dX9_names_12 _ _ _ hW hl
set_option maxHeartbeats 4000000 in
set_option maxRecDepth 100000 in
theorem k_X9_names {l : Launch} {D : va_G} {u : hU} {X : va_W} {sz : Nat} (post : Int32 → hS → Prop) (t0 : Nat) (z1 : Int32) (S : hS) (mc ms : Nat) (hw : w_X9_names u post t0 z1 S mc ms) : hMi l yX9_names wsX9_names (rm_X9_names mc ms) D (gt u.2.1) u.1 u.2.2 sz X S [.ref t0, .int z1] post mc ms := by
  refine hMi_of (cc := cX9_names) (nL := 4) (ty := .int) (own := RX9) (by decide) rfl rfl (Nat.le_of_ble_eq_true rfl) ?_
  intro p e s m args below meth c A Q C0 hin hret
  exact t_X9_names_0 C0 t0 post hret z1 S mc ms 0 0 ⟨by omega, by omega⟩ hw
abbrev rm_X9_name (MC MS : Nat) : Room := { frames := 6, cells := MC, slots := MS, locals := 132 }
theorem in_X9_name_RX5 : ∀ w ∈ wsX50, w ∈ wsX9_name := fun w hw9 => List.mem_cons_of_mem _ (List.mem_append_left _ (List.mem_append_left _ (List.mem_append_left _ (List.mem_append_left _ (List.mem_append_left _ (List.mem_append_right _ hw9))))))
theorem in_X9_name_RX9 : ∀ w ∈ wsX90, w ∈ wsX9_name := fun w hw9 => List.mem_cons_of_mem _ (List.mem_append_left _ (List.mem_append_left _ (List.mem_append_left _ (List.mem_append_left _ (List.mem_append_left _ (List.mem_append_left _ (List.mem_append_right _ hw9)))))))
set_option maxHeartbeats 4000000 in
set_option maxRecDepth 100000 in
theorem t_X9_name_87 (C0 : hX p s m args c cX9_name 8 RX9 wsX9_name D (gt u.2.1) A u.1 u.2.2) (t0 : Nat) (post : Int32 → hS → Prop) (hret : ∀ (r : Int32) (S' : hS) (pc : Nat) (lv : List (Nat × Value)) (k n : Nat), k ≤ MC → n ≤ MS → post r S' → narrow .int (.int r) = .int r → decode cX9_name pc = .ok (.ireturn, 1) → gG p l e (rm_X9_name MC MS) s m args below meth c Q D A 8 k n (hC X S') pc lv [.int r])  : ∀ (x4 : Nat) (x6 : Option Nat) (S : hS) (mc ms k n : Nat), k + mc ≤ MC ∧ n + ms ≤ MS → w_X9_name_87 u post t0  x4 x6 S mc ms → gG p l e (rm_X9_name MC MS) s m args below meth c Q D A 8 k n (hC X S) 87 [(0, .ref t0), (4, .ref x4), (6, va_rf x6)] [] := by
  obtain ⟨⟨hx, hb, hml, ho, hts, hK, hA⟩, hR⟩ := id C0
  intro x4 x6 S mc ms k n hkn hw H locs ls hW hl
  rw [w_X9_name_87] at hw
  refine lv_aloadV hx hb dX9_name_87 (lv_at hl 2 rfl) ?_
  refine lv_ifnonnullV (tgt := 95) hx hb dX9_name_89 (by decide) (fun a48 c47 => ?_) (fun c47 => ?_)
  · subst c47
    replace hw := hw.2 a48 rfl
    refine lv_aload hx hb dX9_name_95 (lv_at hl 1 rfl) ?_
    refine lv_aload hx hb dX9_name_97 (lv_at hl 2 rfl) ?_
    refine h_goi C0 hW (va_runS (As := [.ref x4, .ref a48]) (rest := []) ⟨hx, hb, hml, ho, hts⟩ (k_X9_putInto (l := l) (u := u) (X := X) (sz := H.size) _ (some x4) (some a48) S  hw) (va_cwS 2 hts gX9_name_X9_putInto rfl rfl rfl (by decide +kernel) ⟨Nat.le_of_ble_eq_true rfl, Nat.le_of_ble_eq_true rfl⟩) ⟨h_blind, (h_pre C0 hW [.ref x4, .ref a48])⟩ rfl rfl hl.1 rfl (lv_room (Nat.le_of_ble_eq_true rfl)) dX9_name_99 ⟨by show _ ≤ MC; omega, by show _ ≤ MS; omega⟩) (fun r49 S50 H locs h51 hW => ?_)
    replace hw := h51
    exact hret r49 S50 _ _ _ _ (by omega) (by omega) hw rfl dX9_name_102 _ _ _ hW hl
  · subst c47
    replace hw := hw.1 rfl
    refine lv_bipush (v := (-5)) hx hb dX9_name_92 (by decide) ?_
    exact hret (-5) S _ _ _ _ (by omega) (by omega) hw rfl dX9_name_94 _ _ _ hW hl
set_option maxHeartbeats 4000000 in
set_option maxRecDepth 100000 in
theorem t_X9_name_63 (C0 : hX p s m args c cX9_name 8 RX9 wsX9_name D (gt u.2.1) A u.1 u.2.2) (t0 : Nat) (post : Int32 → hS → Prop) (hret : ∀ (r : Int32) (S' : hS) (pc : Nat) (lv : List (Nat × Value)) (k n : Nat), k ≤ MC → n ≤ MS → post r S' → narrow .int (.int r) = .int r → decode cX9_name pc = .ok (.ireturn, 1) → gG p l e (rm_X9_name MC MS) s m args below meth c Q D A 8 k n (hC X S') pc lv [.int r])  : ∀ (nf : Nat) (x2 : Int32) (x4 : Nat) (x5 : Nat) (x6 : Option Nat) (x7 : Int32) (S : hS) (mc ms k n : Nat), k + mc ≤ MC ∧ n + ms ≤ MS → w_X9_name_63 u post t0  nf x2 x4 x5 x6 x7 S mc ms → gG p l e (rm_X9_name MC MS) s m args below meth c Q D A 8 k n (hC X S) 63 [(0, .ref t0), (2, .int x2), (4, .ref x4), (5, .ref x5), (6, va_rf x6), (7, .int x7)] [] := by
  obtain ⟨⟨hx, hb, hml, ho, hts, hK, hA⟩, hR⟩ := id C0
  intro nf
  induction nf with
  | zero => intro x2 x4 x5 x6 x7 S mc ms k n hkn hw; exact hw.elim
  | succ nf ih =>
    intro x2 x4 x5 x6 x7 S mc ms k n hkn hw H locs ls hW hl
    rw [w_X9_name_63] at hw
    refine lv_iload hx hb dX9_name_63 (lv_at hl 5 rfl) ?_
    refine lv_iload_n hx hb dX9_name_65 rfl (lv_at hl 1 rfl) ?_
    refine lv_icmp_ge (tgt := 87) hx hb dX9_name_66 (by decide) (fun c39 => ?_) (fun c39 => ?_)
    · replace hw := hw.1 c39
      exact t_X9_name_87 C0 t0 post hret  x4 x6 S mc ms _ _ hkn hw _ _ _ hW (lv_sub hl [0, 2, 4] rfl)
    · replace hw := hw.2 c39
      refine lv_aloadV hx hb dX9_name_69 (lv_at hl 4 rfl) ?_
      refine lv_ifnullV (tgt := 87) hx hb dX9_name_71 (by decide) (fun c40 => ?_) (fun a41 c40 => ?_)
      · subst c40
        replace hw := hw.1 rfl
        exact t_X9_name_87 C0 t0 post hret  x4 none S mc ms _ _ hkn hw _ _ _ hW (lv_sub hl [0, 2, 4] rfl)
      · subst c40
        replace hw := hw.2 a41 rfl
        refine lv_aload hx hb dX9_name_74 (lv_at hl 3 rfl) ?_
        obtain ⟨h43, hw⟩ := hw
        refine h_goq C0 hW (va_runV (As := []) (rest := []) ⟨hx, hb, hml, ho, hts⟩ (k_X5_nextName (l := l) (u := u) (X := X) (sz := H.size) _ x5  S  hw) (cwV 0 hts gX9_name_X5_nextName rfl rfl rfl (by decide +kernel) ⟨Nat.le_of_ble_eq_true rfl, Nat.le_of_ble_eq_true rfl⟩) ⟨h_blind, (h_recv C0 hW (ci := 6) rfl h43), (h_pre C0 hW [.ref x5])⟩ rfl rfl hl.1 rfl (lv_room (Nat.le_of_ble_eq_true rfl)) dX9_name_76 ⟨by show _ ≤ MC; omega, by show _ ≤ MS; omega⟩) (fun r42 S44 H locs h45 hW => ?_)
        replace hw := h45
        refine lv_astoreV (i := 6) (lv' := [(6, va_rf r42), (0, .ref t0), (2, .int x2), (4, .ref x4), (5, .ref x5), (7, .int x7)]) hx hb dX9_name_79 hl (by decide) rfl (fun ls hl9 => ?_)
        replace hl := hl9
        obtain ⟨v46, ev46⟩ : ∃ y : Int32, y = x7 + 1 := ⟨_, rfl⟩
        replace hw := hw v46 ev46
        refine lv_iinc (v := v46) (lv' := [(7, .int v46), (6, va_rf r42), (0, .ref t0), (2, .int x2), (4, .ref x4), (5, .ref x5)]) hx hb dX9_name_81 hl (k := 5) rfl (by rw [ev46]; rfl) (by decide) (by show (7, .int v46) :: List.filter (fun q : Nat × Value => !(q.1 == 7) && !(q.1 + 1 == 7 && q.2.category == 2)) [(6, va_rf r42), (0, .ref t0), (2, .int x2), (4, .ref x4), (5, .ref x5), (7, .int x7)] = [(7, .int v46), (6, va_rf r42), (0, .ref t0), (2, .int x2), (4, .ref x4), (5, .ref x5)]; simp [va_rf_cat, va_c_ref, va_c_int, va_c_null]) (fun ls hl9 => ?_)
        replace hl := hl9
        refine lv_goto (tgt := 63) hx hb dX9_name_84 (by decide) ?_
        exact ih x2 x4 x5 r42 v46 S44 mc ms _ _ hkn hw _ _ _ hW (lv_sub hl [2, 3, 4, 5, 1, 0] rfl)
set_option maxHeartbeats 4000000 in
set_option maxRecDepth 100000 in
theorem t_X9_name_0 (C0 : hX p s m args c cX9_name 8 RX9 wsX9_name D (gt u.2.1) A u.1 u.2.2) (t0 : Nat) (post : Int32 → hS → Prop) (hret : ∀ (r : Int32) (S' : hS) (pc : Nat) (lv : List (Nat × Value)) (k n : Nat), k ≤ MC → n ≤ MS → post r S' → narrow .int (.int r) = .int r → decode cX9_name pc = .ok (.ireturn, 1) → gG p l e (rm_X9_name MC MS) s m args below meth c Q D A 8 k n (hC X S') pc lv [.int r])  : ∀ (z1 : Int32) (z2 : Int32) (z3 : Int32) (S : hS) (mc ms k n : Nat), k + mc ≤ MC ∧ n + ms ≤ MS → w_X9_name u post t0  z1 z2 z3 S mc ms → gG p l e (rm_X9_name MC MS) s m args below meth c Q D A 8 k n (hC X S) 0 [(0, .ref t0), (1, .int z1), (2, .int z2), (3, .int z3)] [] := by
  obtain ⟨⟨hx, hb, hml, ho, hts, hK, hA⟩, hR⟩ := id C0
  intro z1 z2 z3 S mc ms k n hkn hw H locs ls hW hl
  rw [w_X9_name] at hw
  refine lv_aload_n hx hb dX9_name_0 rfl (lv_at hl 0 rfl) ?_
  refine lv_iload_n hx hb dX9_name_1 rfl (lv_at hl 3 rfl) ?_
  obtain ⟨h2, hw⟩ := hw
  refine h_goq C0 hW (va_runV (As := [.int z3]) (rest := []) ⟨hx, hb, hml, ho, hts⟩ (k_X9_slotAt (l := l) (u := u) (X := X) (sz := H.size) _ t0 z3 S  hw) (cwV 1 hts gX9_name_X9_slotAt rfl rfl rfl (by decide +kernel) ⟨Nat.le_of_ble_eq_true rfl, Nat.le_of_ble_eq_true rfl⟩) ⟨h_blind, (h_recv C0 hW (ci := 10) rfl h2), (h_pre C0 hW [.ref t0, .int z3])⟩ rfl rfl hl.1 rfl (lv_room (Nat.le_of_ble_eq_true rfl)) dX9_name_2 ⟨by show _ ≤ MC; omega, by show _ ≤ MS; omega⟩) (fun r1 S3 H locs h4 hW => ?_)
  obtain ⟨h5, hp⟩ := h4
  rw [h5] at hW
  replace hw := hp
  refine lv_astoreV (i := 4) (lv' := [(4, va_rf r1), (0, .ref t0), (1, .int z1), (2, .int z2), (3, .int z3)]) hx hb dX9_name_5 hl (by decide) rfl (fun ls hl9 => ?_)
  replace hl := hl9
  refine lv_aload_n hx hb dX9_name_7 rfl (lv_at hl 1 rfl) ?_
  obtain ⟨o6, h7, hw⟩ := hw
  refine h_getR C0 hW (T := TX9) (kf := 2) in_X9_name_RX9 h7 rfl (by decide) (List.mem_of_getElem? (i := 1) rfl) rfl dX9_name_8 ?_
  refine lv_iload_n hx hb dX9_name_11 rfl (lv_at hl 2 rfl) ?_
  obtain ⟨a8, rfl, hw⟩ := hw
  obtain ⟨h10, hw⟩ := hw
  refine h_goq C0 hW (va_runV (As := [.int z1]) (rest := []) ⟨hx, hb, hml, ho, hts⟩ (k_X4_layerAt (l := l) (u := u) (X := X) (sz := H.size) _ a8 z1 S  hw) (cwV 1 hts gX9_name_X4_layerAt rfl rfl rfl (by decide +kernel) ⟨Nat.le_of_ble_eq_true rfl, Nat.le_of_ble_eq_true rfl⟩) ⟨h_blind, (h_recv C0 hW (ci := 5) rfl h10), (h_pre C0 hW [.ref a8, .int z1])⟩ rfl rfl hl.1 rfl (lv_room (Nat.le_of_ble_eq_true rfl)) dX9_name_12 ⟨by show _ ≤ MC; omega, by show _ ≤ MS; omega⟩) (fun r9 S11 H locs h12 hW => ?_)
  obtain ⟨h13, hp⟩ := h12
  rw [h13] at hW
  replace hw := hp
  refine lv_ifnullV (tgt := 23) hx hb dX9_name_15 (by decide) (fun c14 => ?_) (fun a15 c14 => ?_)
  · subst c14
    replace hw := hw.1 rfl
    refine lv_iconst (v := (-1)) hx hb dX9_name_23 (by decide) ?_
    exact hret (-1) S _ _ _ _ (by omega) (by omega) hw rfl dX9_name_24 _ _ _ hW hl
  · subst c14
    replace hw := hw.2 a15 rfl
    refine lv_aloadV hx hb dX9_name_18 (lv_at hl 0 rfl) ?_
    refine lv_ifnonnullV (tgt := 25) hx hb dX9_name_20 (by decide) (fun a17 c16 => ?_) (fun c16 => ?_)
    · subst c16
      replace hw := hw.2 a17 rfl
      refine lv_iload_n hx hb dX9_name_25 rfl (lv_at hl 3 rfl) ?_
      refine lv_if_lt (tgt := 36) hx hb dX9_name_26 (by decide) (fun c18 => ?_) (fun c18 => ?_)
      · replace hw := hw.1 c18
        refine lv_bipush (v := (-5)) hx hb dX9_name_36 (by decide) ?_
        exact hret (-5) S _ _ _ _ (by omega) (by omega) hw rfl dX9_name_38 _ _ _ hW hl
      · replace hw := hw.2 c18
        refine lv_iload_n hx hb dX9_name_29 rfl (lv_at hl 3 rfl) ?_
        refine lv_sipush (v := 160) hx hb dX9_name_30 (by decide) ?_
        refine lv_icmp_lt (tgt := 39) hx hb dX9_name_33 (by decide) (fun c19 => ?_) (fun c19 => ?_)
        · replace hw := hw.1 c19
          obtain ⟨h23, h24, hw⟩ := hw
          refine h_new C0 hW (ci := 6) (fs := [.null, .int 0, .null]) in_X9_name_RX5 rfl tyX5 tyX5_ok (List.mem_of_getElem? (i := 2) rfl) (List.mem_of_getElem? (i := 3) rfl) (List.mem_of_getElem? (i := 4) rfl) (fun j hj => by rcases (show j = 0 ∨ j = 1 ∨ j = 2 by omega) with rfl | rfl | rfl <;> rfl) (by show _ ≤ MC; omega) (by show _ ≤ MS; omega) dX9_name_39 (fun q20 H h21 hW => ?_)
          obtain ⟨S22, eS22⟩ : ∃ z : hS, z = adS S q20 (.inr (6, [.null, .int 0, .null])) := ⟨_, rfl⟩
          rw [← eS22] at hW
          replace hw := hw q20 S22 h21 eS22
          have hkn : (k + 1) + (mc - 1) ≤ MC ∧ (n + 3) + (ms - 3) ≤ MS := by omega
          refine lv_dup hx hb dX9_name_42 rfl ?_
          refine lv_aload_n hx hb dX9_name_43 rfl (lv_at hl 1 rfl) ?_
          obtain ⟨o25, h26, hw⟩ := hw
          refine h_getR C0 hW (T := TX9) (kf := 2) in_X9_name_RX9 h26 rfl (by decide) (List.mem_of_getElem? (i := 1) rfl) rfl dX9_name_44 ?_
          refine lv_iload_n hx hb dX9_name_47 rfl (lv_at hl 2 rfl) ?_
          obtain ⟨k28, n29, h30, h31, hw⟩ := hw
          refine h_gov C0 hW (va_runI (As := [va_rf o25, .int z1]) (rest := [.ref q20]) ⟨hx, hb, hml, ho, hts⟩ (k_X5_init (l := l) (u := u) (X := X) (sz := H.size) _ q20 o25 z1 S22 k28 n29 hw) (cwI 2 hts gX9_name_X5_init rfl rfl rfl (hts _ (List.mem_of_getElem? (i := 4) rfl)) (hts _ (List.mem_of_getElem? (i := 20) rfl)) (hts _ (List.mem_of_getElem? (i := 21) rfl)) rfl (by decide +kernel) ⟨Nat.le_of_ble_eq_true rfl, Nat.le_of_ble_eq_true rfl⟩) ⟨h_blind, (h_pre C0 hW [.ref q20, va_rf o25, .int z1])⟩ rfl rfl hl.1 rfl (lv_room (Nat.le_of_ble_eq_true rfl)) dX9_name_48 ⟨by show _ ≤ MC; omega, by show _ ≤ MS; omega⟩) (fun S32 H locs h33 hW => ?_)
          replace hw := h33
          have hkn : ((k + 1) + k28) + ((mc - 1) - k28) ≤ MC ∧ ((n + 3) + n29) + ((ms - 3) - n29) ≤ MS := by omega
          refine lv_astore (i := 5) (lv' := [(5, .ref q20), (4, .ref a17), (0, .ref t0), (1, .int z1), (2, .int z2), (3, .int z3)]) hx hb dX9_name_51 hl (by decide) rfl (fun ls hl9 => ?_)
          replace hl := hl9
          refine lv_aload hx hb dX9_name_53 (lv_at hl 0 rfl) ?_
          obtain ⟨h35, hw⟩ := hw
          refine h_goq C0 hW (va_runV (As := []) (rest := []) ⟨hx, hb, hml, ho, hts⟩ (k_X5_nextName (l := l) (u := u) (X := X) (sz := H.size) _ q20  S32  hw) (cwV 0 hts gX9_name_X5_nextName rfl rfl rfl (by decide +kernel) ⟨Nat.le_of_ble_eq_true rfl, Nat.le_of_ble_eq_true rfl⟩) ⟨h_blind, (h_recv C0 hW (ci := 6) rfl h35), (h_pre C0 hW [.ref q20])⟩ rfl rfl hl.1 rfl (lv_room (Nat.le_of_ble_eq_true rfl)) dX9_name_55 ⟨by show _ ≤ MC; omega, by show _ ≤ MS; omega⟩) (fun r34 S36 H locs h37 hW => ?_)
          replace hw := h37
          refine lv_astoreV (i := 6) (lv' := [(6, va_rf r34), (5, .ref q20), (4, .ref a17), (0, .ref t0), (1, .int z1), (2, .int z2), (3, .int z3)]) hx hb dX9_name_58 hl (by decide) rfl (fun ls hl9 => ?_)
          replace hl := hl9
          refine lv_iconst (v := 0) hx hb dX9_name_60 (by decide) ?_
          refine lv_istore (lv' := [(7, .int 0), (6, va_rf r34), (5, .ref q20), (4, .ref a17), (0, .ref t0), (1, .int z1), (2, .int z2), (3, .int z3)]) hx hb dX9_name_61 hl (by decide) (by show (7, .int 0) :: List.filter (fun q : Nat × Value => !(q.1 == 7) && !(q.1 + 1 == 7 && q.2.category == 2)) [(6, va_rf r34), (5, .ref q20), (4, .ref a17), (0, .ref t0), (1, .int z1), (2, .int z2), (3, .int z3)] = [(7, .int 0), (6, va_rf r34), (5, .ref q20), (4, .ref a17), (0, .ref t0), (1, .int z1), (2, .int z2), (3, .int z3)]; simp [va_rf_cat, va_c_ref, va_c_int, va_c_null]) (fun ls hl9 => ?_)
          replace hl := hl9
          obtain ⟨n38, hw⟩ := hw
          exact t_X9_name_63 C0 t0 post hret  n38 z2 a17 q20 r34 0 S36 ((mc - 1) - k28) ((ms - 3) - n29) _ _ hkn hw _ _ _ hW (lv_sub hl [4, 6, 3, 2, 1, 0] rfl)
        · replace hw := hw.2 c19
          refine lv_bipush (v := (-5)) hx hb dX9_name_36 (by decide) ?_
          exact hret (-5) S _ _ _ _ (by omega) (by omega) hw rfl dX9_name_38 _ _ _ hW hl
    · subst c16
      replace hw := hw.1 rfl
      refine lv_iconst (v := (-1)) hx hb dX9_name_23 (by decide) ?_
      exact hret (-1) S _ _ _ _ (by omega) (by omega) hw rfl dX9_name_24 _ _ _ hW hl
set_option maxHeartbeats 4000000 in
set_option maxRecDepth 100000 in
theorem k_X9_name {l : Launch} {D : va_G} {u : hU} {X : va_W} {sz : Nat} (post : Int32 → hS → Prop) (t0 : Nat) (z1 : Int32) (z2 : Int32) (z3 : Int32) (S : hS) (mc ms : Nat) (hw : w_X9_name u post t0 z1 z2 z3 S mc ms) : hMi l yX9_name wsX9_name (rm_X9_name mc ms) D (gt u.2.1) u.1 u.2.2 sz X S [.ref t0, .int z1, .int z2, .int z3] post mc ms := by
  refine hMi_of (cc := cX9_name) (nL := 8) (ty := .int) (own := RX9) (by decide) rfl rfl (Nat.le_of_ble_eq_true rfl) ?_
  intro p e s m args below meth c A Q C0 hin hret
  exact t_X9_name_0 C0 t0 post hret z1 z2 z3 S mc ms 0 0 ⟨by omega, by omega⟩ hw
abbrev rm_X9_alike : Room := { frames := 3, cells := 0, slots := 0, locals := 68 }
theorem in_X9_alike_RX9 : ∀ w ∈ wsX90, w ∈ wsX9_alike := fun w hw9 => List.mem_cons_of_mem _ (List.mem_append_left _ (List.mem_append_left _ (List.mem_append_left _ (List.mem_append_left _ (List.mem_append_right _ hw9)))))
set_option maxHeartbeats 4000000 in
set_option maxRecDepth 100000 in
theorem t_X9_alike_0 (C0 : hX p s m args c cX9_alike 5 RX9 wsX9_alike D (gt u.2.1) A u.1 u.2.2) {S : hS} (t0 : Nat) (post : Int32 → Prop) (hret : ∀ (r : Int32) (S' : hS) (pc : Nat) (lv : List (Nat × Value)) (k n : Nat), k ≤ 0 → n ≤ 0 → (S' = S ∧ post r) → narrow .int (.int r) = .int r → decode cX9_alike pc = .ok (.ireturn, 1) → gG p l e (rm_X9_alike) s m args below meth c Q D A 5 k n (hC X S') pc lv [.int r])  : ∀ (z1 : Int32) (z2 : Int32), w_X9_alike u post t0  z1 z2 S → gG p l e (rm_X9_alike) s m args below meth c Q D A 5 0 0 (hC X S) 0 [(0, .ref t0), (1, .int z1), (2, .int z2)] [] := by
  obtain ⟨⟨hx, hb, hml, ho, hts, hK, hA⟩, hR⟩ := id C0
  intro z1 z2 hw H locs ls hW hl
  rw [w_X9_alike] at hw
  refine lv_aload_n hx hb dX9_alike_0 rfl (lv_at hl 0 rfl) ?_
  obtain ⟨o1, h2, hw⟩ := hw
  refine h_getR C0 hW (T := TX9) (kf := 2) in_X9_alike_RX9 h2 rfl (by decide) (List.mem_of_getElem? (i := 1) rfl) rfl dX9_alike_1 ?_
  refine lv_iload_n hx hb dX9_alike_4 rfl (lv_at hl 1 rfl) ?_
  obtain ⟨a3, rfl, hw⟩ := hw
  obtain ⟨h5, hw⟩ := hw
  refine h_goq C0 hW (va_runV (As := [.int z1]) (rest := []) ⟨hx, hb, hml, ho, hts⟩ (k_X4_layerAt (l := l) (u := u) (X := X) (sz := H.size) _ a3 z1 S  hw) (cwV 1 hts gX9_alike_X4_layerAt rfl rfl rfl (by decide +kernel) ⟨Nat.le_of_ble_eq_true rfl, Nat.le_of_ble_eq_true rfl⟩) ⟨h_blind, (h_recv C0 hW (ci := 5) rfl h5), (h_pre C0 hW [.ref a3, .int z1])⟩ rfl rfl hl.1 rfl (lv_room (Nat.le_of_ble_eq_true rfl)) dX9_alike_5 ⟨Nat.le_refl _, Nat.le_refl _⟩) (fun r4 S6 H locs h7 hW => ?_)
  obtain ⟨h8, hp⟩ := h7
  rw [h8] at hW
  replace hw := hp
  refine lv_astoreV_n (i := 3) (lv' := [(3, va_rf r4), (0, .ref t0), (1, .int z1), (2, .int z2)]) hx hb dX9_alike_8 rfl hl (by decide) rfl (fun ls hl9 => ?_)
  replace hl := hl9
  refine lv_aload_n hx hb dX9_alike_9 rfl (lv_at hl 1 rfl) ?_
  obtain ⟨o9, h10, hw⟩ := hw
  refine h_getR C0 hW (T := TX9) (kf := 2) in_X9_alike_RX9 h10 rfl (by decide) (List.mem_of_getElem? (i := 1) rfl) rfl dX9_alike_10 ?_
  refine lv_iload_n hx hb dX9_alike_13 rfl (lv_at hl 3 rfl) ?_
  obtain ⟨a11, rfl, hw⟩ := hw
  obtain ⟨h13, hw⟩ := hw
  refine h_goq C0 hW (va_runV (As := [.int z2]) (rest := []) ⟨hx, hb, hml, ho, hts⟩ (k_X4_layerAt (l := l) (u := u) (X := X) (sz := H.size) _ a11 z2 S  hw) (cwV 1 hts gX9_alike_X4_layerAt rfl rfl rfl (by decide +kernel) ⟨Nat.le_of_ble_eq_true rfl, Nat.le_of_ble_eq_true rfl⟩) ⟨h_blind, (h_recv C0 hW (ci := 5) rfl h13), (h_pre C0 hW [.ref a11, .int z2])⟩ rfl rfl hl.1 rfl (lv_room (Nat.le_of_ble_eq_true rfl)) dX9_alike_14 ⟨Nat.le_refl _, Nat.le_refl _⟩) (fun r12 S14 H locs h15 hW => ?_)
  obtain ⟨h16, hp⟩ := h15
  rw [h16] at hW
  replace hw := hp
  refine lv_astoreV (i := 4) (lv' := [(4, va_rf r12), (3, va_rf r4), (0, .ref t0), (1, .int z1), (2, .int z2)]) hx hb dX9_alike_17 hl (by decide) (by show (4, va_rf r12) :: List.filter (fun q : Nat × Value => !(q.1 == 4) && !(q.1 + 1 == 4 && q.2.category == 2)) [(3, va_rf r4), (0, .ref t0), (1, .int z1), (2, .int z2)] = [(4, va_rf r12), (3, va_rf r4), (0, .ref t0), (1, .int z1), (2, .int z2)]; simp [va_rf_cat, va_c_ref, va_c_int, va_c_null]) (fun ls hl9 => ?_)
  replace hl := hl9
  refine lv_aloadV_n hx hb dX9_alike_19 rfl (lv_at hl 1 rfl) ?_
  refine lv_ifnullV (tgt := 28) hx hb dX9_alike_20 (by decide) (fun c17 => ?_) (fun a18 c17 => ?_)
  · subst c17
    replace hw := hw.1 rfl
    refine lv_iconst (v := (-1)) hx hb dX9_alike_28 (by decide) ?_
    exact hret (-1) S _ _ 0 0 (Nat.le_refl _) (Nat.le_refl _) ⟨rfl, hw⟩ rfl dX9_alike_29 _ _ _ hW hl
  · subst c17
    replace hw := hw.2 a18 rfl
    refine lv_aloadV hx hb dX9_alike_23 (lv_at hl 0 rfl) ?_
    refine lv_ifnonnullV (tgt := 30) hx hb dX9_alike_25 (by decide) (fun a20 c19 => ?_) (fun c19 => ?_)
    · subst c19
      replace hw := hw.2 a20 rfl
      refine lv_aload_n hx hb dX9_alike_30 rfl (lv_at hl 1 rfl) ?_
      refine lv_aload hx hb dX9_alike_31 (lv_at hl 0 rfl) ?_
      obtain ⟨h22, hw⟩ := hw
      refine h_goi C0 hW (va_runV (As := [.ref a20]) (rest := []) ⟨hx, hb, hml, ho, hts⟩ (k_X3_hasEntriesOf (l := l) (u := u) (X := X) (sz := H.size) _ a18 (some a20) S  hw) (cwV 1 hts gX9_alike_X3_hasEntriesOf rfl rfl rfl (by decide +kernel) ⟨Nat.le_of_ble_eq_true rfl, Nat.le_of_ble_eq_true rfl⟩) ⟨h_blind, (h_recv C0 hW (ci := 4) rfl h22), (h_pre C0 hW [.ref a18, .ref a20])⟩ rfl rfl hl.1 rfl (lv_room (Nat.le_of_ble_eq_true rfl)) dX9_alike_33 ⟨Nat.le_refl _, Nat.le_refl _⟩) (fun r21 S23 H locs h24 hW => ?_)
      obtain ⟨h25, hp⟩ := h24
      rw [h25] at hW
      replace hw := hp
      refine lv_if_eq (tgt := 43) hx hb dX9_alike_36 (by decide) (fun c26 => ?_) (fun c26 => ?_)
      · replace hw := hw.1 c26
        refine lv_iconst (v := 0) hx hb dX9_alike_43 (by decide) ?_
        exact hret 0 S _ _ 0 0 (Nat.le_refl _) (Nat.le_refl _) ⟨rfl, hw⟩ rfl dX9_alike_44 _ _ _ hW hl
      · replace hw := hw.2 c26
        refine lv_iconst (v := 1) hx hb dX9_alike_39 (by decide) ?_
        refine lv_goto (tgt := 44) hx hb dX9_alike_40 (by decide) ?_
        exact hret 1 S _ _ 0 0 (Nat.le_refl _) (Nat.le_refl _) ⟨rfl, hw⟩ rfl dX9_alike_44 _ _ _ hW hl
    · subst c19
      replace hw := hw.1 rfl
      refine lv_iconst (v := (-1)) hx hb dX9_alike_28 (by decide) ?_
      exact hret (-1) S _ _ 0 0 (Nat.le_refl _) (Nat.le_refl _) ⟨rfl, hw⟩ rfl dX9_alike_29 _ _ _ hW hl
set_option maxHeartbeats 4000000 in
set_option maxRecDepth 100000 in
theorem k_X9_alike {l : Launch} {D : va_G} {u : hU} {X : va_W} {sz : Nat} (post : Int32 → Prop) (t0 : Nat) (z1 : Int32) (z2 : Int32) (S : hS) (hw : w_X9_alike u post t0 z1 z2 S) : hMi l yX9_alike wsX9_alike rm_X9_alike D (gt u.2.1) u.1 u.2.2 sz X S [.ref t0, .int z1, .int z2] (fun r S' => S' = S ∧ post r) 0 0 := by
  refine hMi_of (cc := cX9_alike) (nL := 5) (ty := .int) (own := RX9) (by decide) rfl rfl (Nat.le_of_ble_eq_true rfl) ?_
  intro p e s m args below meth c A Q C0 hin hret
  exact t_X9_alike_0 C0 t0 post hret z1 z2 hw
abbrev rm_X9_digest : Room := { frames := 6, cells := 0, slots := 0, locals := 132 }
theorem in_X9_digest_RX9 : ∀ w ∈ wsX90, w ∈ wsX9_digest := fun w hw9 => List.mem_cons_of_mem _ (List.mem_append_left _ (List.mem_append_left _ (List.mem_append_left _ (List.mem_append_left _ (List.mem_append_right _ hw9)))))
set_option maxHeartbeats 4000000 in
set_option maxRecDepth 100000 in
theorem t_X9_digest_0 (C0 : hX p s m args c cX9_digest 3 RX9 wsX9_digest D (gt u.2.1) A u.1 u.2.2) {S : hS} (t0 : Nat) (post : Int32 → Prop) (hret : ∀ (r : Int32) (S' : hS) (pc : Nat) (lv : List (Nat × Value)) (k n : Nat), k ≤ 0 → n ≤ 0 → (S' = S ∧ post r) → narrow .int (.int r) = .int r → decode cX9_digest pc = .ok (.ireturn, 1) → gG p l e (rm_X9_digest) s m args below meth c Q D A 3 k n (hC X S') pc lv [.int r])  : ∀ (z1 : Int32), w_X9_digest u post t0  z1 S → gG p l e (rm_X9_digest) s m args below meth c Q D A 3 0 0 (hC X S) 0 [(0, .ref t0), (1, .int z1)] [] := by
  obtain ⟨⟨hx, hb, hml, ho, hts, hK, hA⟩, hR⟩ := id C0
  intro z1 hw H locs ls hW hl
  rw [w_X9_digest] at hw
  refine lv_aload_n hx hb dX9_digest_0 rfl (lv_at hl 0 rfl) ?_
  obtain ⟨o1, h2, hw⟩ := hw
  refine h_getR C0 hW (T := TX9) (kf := 2) in_X9_digest_RX9 h2 rfl (by decide) (List.mem_of_getElem? (i := 1) rfl) rfl dX9_digest_1 ?_
  refine lv_iload_n hx hb dX9_digest_4 rfl (lv_at hl 1 rfl) ?_
  obtain ⟨a3, rfl, hw⟩ := hw
  obtain ⟨h5, hw⟩ := hw
  refine h_goq C0 hW (va_runV (As := [.int z1]) (rest := []) ⟨hx, hb, hml, ho, hts⟩ (k_X4_layerAt (l := l) (u := u) (X := X) (sz := H.size) _ a3 z1 S  hw) (cwV 1 hts gX9_digest_X4_layerAt rfl rfl rfl (by decide +kernel) ⟨Nat.le_of_ble_eq_true rfl, Nat.le_of_ble_eq_true rfl⟩) ⟨h_blind, (h_recv C0 hW (ci := 5) rfl h5), (h_pre C0 hW [.ref a3, .int z1])⟩ rfl rfl hl.1 rfl (lv_room (Nat.le_of_ble_eq_true rfl)) dX9_digest_5 ⟨Nat.le_refl _, Nat.le_refl _⟩) (fun r4 S6 H locs h7 hW => ?_)
  obtain ⟨h8, hp⟩ := h7
  rw [h8] at hW
  replace hw := hp
  refine lv_astoreV_n (i := 2) (lv' := [(2, va_rf r4), (0, .ref t0), (1, .int z1)]) hx hb dX9_digest_8 rfl hl (by decide) rfl (fun ls hl9 => ?_)
  replace hl := hl9
  refine lv_aloadV_n hx hb dX9_digest_9 rfl (lv_at hl 0 rfl) ?_
  refine lv_ifnonnullV (tgt := 15) hx hb dX9_digest_10 (by decide) (fun a10 c9 => ?_) (fun c9 => ?_)
  · subst c9
    replace hw := hw.2 a10 rfl
    refine lv_aload_n hx hb dX9_digest_15 rfl (lv_at hl 0 rfl) ?_
    obtain ⟨h12, hw⟩ := hw
    refine h_goi C0 hW (va_runV (As := []) (rest := []) ⟨hx, hb, hml, ho, hts⟩ (k_X3_digestNumber (l := l) (u := u) (X := X) (sz := H.size) _ a10  S  hw) (cwV 0 hts gX9_digest_X3_digestNumber rfl rfl rfl (by decide +kernel) ⟨Nat.le_of_ble_eq_true rfl, Nat.le_of_ble_eq_true rfl⟩) ⟨h_blind, (h_recv C0 hW (ci := 4) rfl h12), (h_pre C0 hW [.ref a10])⟩ rfl rfl hl.1 rfl (lv_room (Nat.le_of_ble_eq_true rfl)) dX9_digest_16 ⟨Nat.le_refl _, Nat.le_refl _⟩) (fun r11 S13 H locs h14 hW => ?_)
    obtain ⟨h15, hp⟩ := h14
    rw [h15] at hW
    replace hw := hp
    exact hret r11 S _ _ 0 0 (Nat.le_refl _) (Nat.le_refl _) ⟨rfl, hw⟩ rfl dX9_digest_19 _ _ _ hW hl
  · subst c9
    replace hw := hw.1 rfl
    refine lv_iconst (v := 0) hx hb dX9_digest_13 (by decide) ?_
    exact hret 0 S _ _ 0 0 (Nat.le_refl _) (Nat.le_refl _) ⟨rfl, hw⟩ rfl dX9_digest_14 _ _ _ hW hl
set_option maxHeartbeats 4000000 in
set_option maxRecDepth 100000 in
theorem k_X9_digest {l : Launch} {D : va_G} {u : hU} {X : va_W} {sz : Nat} (post : Int32 → Prop) (t0 : Nat) (z1 : Int32) (S : hS) (hw : w_X9_digest u post t0 z1 S) : hMi l yX9_digest wsX9_digest rm_X9_digest D (gt u.2.1) u.1 u.2.2 sz X S [.ref t0, .int z1] (fun r S' => S' = S ∧ post r) 0 0 := by
  refine hMi_of (cc := cX9_digest) (nL := 3) (ty := .int) (own := RX9) (by decide) rfl rfl (Nat.le_of_ble_eq_true rfl) ?_
  intro p e s m args below meth c A Q C0 hin hret
  exact t_X9_digest_0 C0 t0 post hret z1 hw
abbrev rm_X9_makeTokenizer (MC MS : Nat) : Room := { frames := 7, cells := MC, slots := MS, locals := 156 }
theorem in_X9_makeTokenizer_RX8 : ∀ w ∈ wsX80, w ∈ wsX9_makeTokenizer := fun w hw9 => List.mem_cons_of_mem _ (List.mem_append_left _ (List.mem_append_left _ (List.mem_append_right _ hw9)))
theorem in_X9_makeTokenizer_RX9 : ∀ w ∈ wsX90, w ∈ wsX9_makeTokenizer := fun w hw9 => List.mem_cons_of_mem _ (List.mem_append_left _ (List.mem_append_right _ hw9))
set_option maxHeartbeats 4000000 in
set_option maxRecDepth 100000 in
theorem t_X9_makeTokenizer_0 (C0 : hX p s m args c cX9_makeTokenizer 6 RX9 wsX9_makeTokenizer D (gt u.2.1) A u.1 u.2.2) (t0 : Nat) (post : Int32 → hS → Prop) (hret : ∀ (r : Int32) (S' : hS) (pc : Nat) (lv : List (Nat × Value)) (k n : Nat), k ≤ MC → n ≤ MS → post r S' → narrow .int (.int r) = .int r → decode cX9_makeTokenizer pc = .ok (.ireturn, 1) → gG p l e (rm_X9_makeTokenizer MC MS) s m args below meth c Q D A 6 k n (hC X S') pc lv [.int r])  : ∀ (z1 : Int32) (p2 : Option Nat) (p3 : Option Nat) (z4 : Int32) (S : hS) (mc ms k n : Nat), k + mc ≤ MC ∧ n + ms ≤ MS → w_X9_makeTokenizer u post t0  z1 p2 p3 z4 S mc ms → gG p l e (rm_X9_makeTokenizer MC MS) s m args below meth c Q D A 6 k n (hC X S) 0 [(0, .ref t0), (1, .int z1), (2, va_rf p2), (3, va_rf p3), (4, .int z4)] [] := by
  obtain ⟨⟨hx, hb, hml, ho, hts, hK, hA⟩, hR⟩ := id C0
  intro z1 p2 p3 z4 S mc ms k n hkn hw H locs ls hW hl
  rw [w_X9_makeTokenizer] at hw
  refine lv_iload_n hx hb dX9_makeTokenizer_0 rfl (lv_at hl 1 rfl) ?_
  refine lv_iconst (v := 2) hx hb dX9_makeTokenizer_1 (by decide) ?_
  refine g_calls (As := [.int z1, .int 2]) (rest := []) ⟨hx, hb, hml, ho, hts⟩ hl.1 (k_X9_isWithin (l := l) _ z1 2 hw) (va_cwS 2 hts gX9_makeTokenizer_X9_isWithin rfl rfl rfl (by decide +kernel) ⟨Nat.le_of_ble_eq_true rfl, Nat.le_of_ble_eq_true rfl⟩) (Nat.le_of_ble_eq_true rfl) dX9_makeTokenizer_2 rfl ⟨by show _ ≤ MC; omega, by show _ ≤ MS; omega⟩ (fun r1 hp => ?_)
  replace hw := hp
  refine lv_if_ne (tgt := 10) hx hb dX9_makeTokenizer_5 (by decide) (fun c2 => ?_) (fun c2 => ?_)
  · replace hw := hw.1 c2
    obtain ⟨h6, h7, hw⟩ := hw
    refine h_new C0 hW (ci := 9) (fs := [.null, .int 0, .null, .int 0]) in_X9_makeTokenizer_RX8 rfl tyX8 tyX8_ok (List.mem_of_getElem? (i := 1) rfl) (List.mem_of_getElem? (i := 2) rfl) (List.mem_of_getElem? (i := 3) rfl) (fun j hj => by rcases (show j = 0 ∨ j = 1 ∨ j = 2 ∨ j = 3 by omega) with rfl | rfl | rfl | rfl <;> rfl) (by show _ ≤ MC; omega) (by show _ ≤ MS; omega) dX9_makeTokenizer_10 (fun q3 H h4 hW => ?_)
    obtain ⟨S5, eS5⟩ : ∃ z : hS, z = adS S q3 (.inr (9, [.null, .int 0, .null, .int 0])) := ⟨_, rfl⟩
    rw [← eS5] at hW
    replace hw := hw q3 S5 h4 eS5
    have hkn : (k + 1) + (mc - 1) ≤ MC ∧ (n + 4) + (ms - 4) ≤ MS := by omega
    refine lv_dup hx hb dX9_makeTokenizer_13 rfl ?_
    refine lv_aloadV_n hx hb dX9_makeTokenizer_14 rfl (lv_at hl 2 rfl) ?_
    refine lv_aloadV_n hx hb dX9_makeTokenizer_15 rfl (lv_at hl 3 rfl) ?_
    refine lv_iload hx hb dX9_makeTokenizer_16 (lv_at hl 4 rfl) ?_
    refine h_gov C0 hW (va_runI (As := [va_rf p2, va_rf p3, .int z4]) (rest := [.ref q3]) ⟨hx, hb, hml, ho, hts⟩ (k_X8_init (l := l) (u := u) (X := X) (sz := H.size) _ q3 p2 p3 z4 S5  hw) (cwI 3 hts gX9_makeTokenizer_X8_init rfl rfl rfl (hts _ (List.mem_of_getElem? (i := 3) rfl)) (hts _ (List.mem_of_getElem? (i := 9) rfl)) (hts _ (List.mem_of_getElem? (i := 10) rfl)) rfl (by decide +kernel) ⟨Nat.le_of_ble_eq_true rfl, Nat.le_of_ble_eq_true rfl⟩) ⟨h_blind, (h_pre C0 hW [.ref q3, va_rf p2, va_rf p3, .int z4])⟩ rfl rfl hl.1 rfl (lv_room (Nat.le_of_ble_eq_true rfl)) dX9_makeTokenizer_18 ⟨by show _ ≤ MC; omega, by show _ ≤ MS; omega⟩) (fun S9 H locs h10 hW => ?_)
    replace hw := h10
    refine lv_astore (i := 5) (lv' := [(5, .ref q3), (0, .ref t0), (1, .int z1), (2, va_rf p2), (3, va_rf p3), (4, .int z4)]) hx hb dX9_makeTokenizer_21 hl (by decide) rfl (fun ls hl9 => ?_)
    replace hl := hl9
    refine lv_aload_n hx hb dX9_makeTokenizer_23 rfl (lv_at hl 1 rfl) ?_
    obtain ⟨o11, h12, hw⟩ := hw
    refine h_getR C0 hW (T := TX9) (kf := 5) in_X9_makeTokenizer_RX9 h12 rfl (by decide) (List.mem_of_getElem? (i := 4) rfl) rfl dX9_makeTokenizer_24 ?_
    refine lv_iload_n hx hb dX9_makeTokenizer_27 rfl (lv_at hl 2 rfl) ?_
    refine lv_aload hx hb dX9_makeTokenizer_28 (lv_at hl 0 rfl) ?_
    obtain ⟨a13, rfl, hw⟩ := hw
    obtain ⟨N14, g15, h16, h17, h19, hw⟩ := hw
    refine h_qast C0 hW 6 9 h16 rfl h19 rfl h17 dX9_makeTokenizer_30 (fun H locs hW => ?_)
    obtain ⟨S18, eS18⟩ : ∃ z : hS, z = upS S9 a13 (.inl (u.2.1 6, N14, .inr (.inr (.inr (.inr (va_up g15 (z1 : Int32).toNatClampNeg (some q3))))))) := ⟨_, rfl⟩
    rw [← eS18] at hW
    replace hw := hw S18 eS18
    refine lv_aload hx hb dX9_makeTokenizer_31 (lv_at hl 0 rfl) ?_
    obtain ⟨h21, hw⟩ := hw
    refine h_goi C0 hW (va_runV (As := []) (rest := []) ⟨hx, hb, hml, ho, hts⟩ (k_X8_tokensLeft (l := l) (u := u) (X := X) (sz := H.size) _ q3  S18  hw) (cwV 0 hts gX9_makeTokenizer_X8_tokensLeft rfl rfl rfl (by decide +kernel) ⟨Nat.le_of_ble_eq_true rfl, Nat.le_of_ble_eq_true rfl⟩) ⟨h_blind, (h_recv C0 hW (ci := 9) rfl h21), (h_pre C0 hW [.ref q3])⟩ rfl rfl hl.1 rfl (lv_room (Nat.le_of_ble_eq_true rfl)) dX9_makeTokenizer_33 ⟨by show _ ≤ MC; omega, by show _ ≤ MS; omega⟩) (fun r20 S22 H locs h23 hW => ?_)
    obtain ⟨h24, hp⟩ := h23
    rw [h24] at hW
    replace hw := hp
    exact hret r20 S18 _ _ _ _ (by omega) (by omega) hw rfl dX9_makeTokenizer_36 _ _ _ hW hl
  · replace hw := hw.2 c2
    refine lv_iconst (v := (-1)) hx hb dX9_makeTokenizer_8 (by decide) ?_
    exact hret (-1) S _ _ _ _ (by omega) (by omega) hw rfl dX9_makeTokenizer_9 _ _ _ hW hl
set_option maxHeartbeats 4000000 in
set_option maxRecDepth 100000 in
theorem k_X9_makeTokenizer {l : Launch} {D : va_G} {u : hU} {X : va_W} {sz : Nat} (post : Int32 → hS → Prop) (t0 : Nat) (z1 : Int32) (p2 : Option Nat) (p3 : Option Nat) (z4 : Int32) (S : hS) (mc ms : Nat) (hw : w_X9_makeTokenizer u post t0 z1 p2 p3 z4 S mc ms) : hMi l yX9_makeTokenizer wsX9_makeTokenizer (rm_X9_makeTokenizer mc ms) D (gt u.2.1) u.1 u.2.2 sz X S [.ref t0, .int z1, va_rf p2, va_rf p3, .int z4] post mc ms := by
  refine hMi_of (cc := cX9_makeTokenizer) (nL := 6) (ty := .int) (own := RX9) (by decide) rfl rfl (by cases p2 <;> cases p3 <;> exact Nat.le_of_ble_eq_true rfl) ?_
  intro p e s m args below meth c A Q C0 hin hret
  have hfin := t_X9_makeTokenizer_0 C0 t0 post hret z1 p2 p3 z4 S mc ms 0 0 ⟨by omega, by omega⟩ hw
  intro H locs ls hW hl
  refine hfin H locs ls hW ?_
  cases p2 <;> cases p3 <;> exact hl
abbrev rm_X9_tokenizeSlots (MC MS : Nat) : Room := { frames := 8, cells := MC, slots := MS, locals := 181 }
theorem in_X9_tokenizeSlots_RX6 : ∀ w ∈ wsX60, w ∈ wsX9_tokenizeSlots := fun w hw9 => List.mem_cons_of_mem _ (List.mem_append_left _ (List.mem_append_left _ (List.mem_append_left _ (List.mem_append_right _ hw9))))
set_option maxHeartbeats 4000000 in
set_option maxRecDepth 100000 in
theorem t_X9_tokenizeSlots_0 (C0 : hX p s m args c cX9_tokenizeSlots 7 RX9 wsX9_tokenizeSlots D (gt u.2.1) A u.1 u.2.2) (t0 : Nat) (post : Int32 → hS → Prop) (hret : ∀ (r : Int32) (S' : hS) (pc : Nat) (lv : List (Nat × Value)) (k n : Nat), k ≤ MC → n ≤ MS → post r S' → narrow .int (.int r) = .int r → decode cX9_tokenizeSlots pc = .ok (.ireturn, 1) → gG p l e (rm_X9_tokenizeSlots MC MS) s m args below meth c Q D A 7 k n (hC X S') pc lv [.int r])  : ∀ (z1 : Int32) (z2 : Int32) (z3 : Int32) (z4 : Int32) (S : hS) (mc ms k n : Nat), k + mc ≤ MC ∧ n + ms ≤ MS → w_X9_tokenizeSlots u post t0  z1 z2 z3 z4 S mc ms → gG p l e (rm_X9_tokenizeSlots MC MS) s m args below meth c Q D A 7 k n (hC X S) 0 [(0, .ref t0), (1, .int z1), (2, .int z2), (3, .int z3), (4, .int z4)] [] := by
  obtain ⟨⟨hx, hb, hml, ho, hts, hK, hA⟩, hR⟩ := id C0
  intro z1 z2 z3 z4 S mc ms k n hkn hw H locs ls hW hl
  rw [w_X9_tokenizeSlots] at hw
  refine lv_aload_n hx hb dX9_tokenizeSlots_0 rfl (lv_at hl 0 rfl) ?_
  refine lv_iload_n hx hb dX9_tokenizeSlots_1 rfl (lv_at hl 2 rfl) ?_
  obtain ⟨h2, hw⟩ := hw
  refine h_goq C0 hW (va_runV (As := [.int z2]) (rest := []) ⟨hx, hb, hml, ho, hts⟩ (k_X9_slotAt (l := l) (u := u) (X := X) (sz := H.size) _ t0 z2 S  hw) (cwV 1 hts gX9_tokenizeSlots_X9_slotAt rfl rfl rfl (by decide +kernel) ⟨Nat.le_of_ble_eq_true rfl, Nat.le_of_ble_eq_true rfl⟩) ⟨h_blind, (h_recv C0 hW (ci := 10) rfl h2), (h_pre C0 hW [.ref t0, .int z2])⟩ rfl rfl hl.1 rfl (lv_room (Nat.le_of_ble_eq_true rfl)) dX9_tokenizeSlots_2 ⟨by show _ ≤ MC; omega, by show _ ≤ MS; omega⟩) (fun r1 S3 H locs h4 hW => ?_)
  obtain ⟨h5, hp⟩ := h4
  rw [h5] at hW
  replace hw := hp
  refine lv_astoreV (i := 5) (lv' := [(5, va_rf r1), (0, .ref t0), (1, .int z1), (2, .int z2), (3, .int z3), (4, .int z4)]) hx hb dX9_tokenizeSlots_5 hl (by decide) rfl (fun ls hl9 => ?_)
  replace hl := hl9
  refine lv_aload_n hx hb dX9_tokenizeSlots_7 rfl (lv_at hl 1 rfl) ?_
  refine lv_iload_n hx hb dX9_tokenizeSlots_8 rfl (lv_at hl 4 rfl) ?_
  obtain ⟨h7, hw⟩ := hw
  refine h_goq C0 hW (va_runV (As := [.int z3]) (rest := []) ⟨hx, hb, hml, ho, hts⟩ (k_X9_slotAt (l := l) (u := u) (X := X) (sz := H.size) _ t0 z3 S  hw) (cwV 1 hts gX9_tokenizeSlots_X9_slotAt rfl rfl rfl (by decide +kernel) ⟨Nat.le_of_ble_eq_true rfl, Nat.le_of_ble_eq_true rfl⟩) ⟨h_blind, (h_recv C0 hW (ci := 10) rfl h7), (h_pre C0 hW [.ref t0, .int z3])⟩ rfl rfl hl.1 rfl (lv_room (Nat.le_of_ble_eq_true rfl)) dX9_tokenizeSlots_9 ⟨by show _ ≤ MC; omega, by show _ ≤ MS; omega⟩) (fun r6 S8 H locs h9 hW => ?_)
  obtain ⟨h10, hp⟩ := h9
  rw [h10] at hW
  replace hw := hp
  refine lv_astoreV (i := 6) (lv' := [(6, va_rf r6), (5, va_rf r1), (0, .ref t0), (1, .int z1), (2, .int z2), (3, .int z3), (4, .int z4)]) hx hb dX9_tokenizeSlots_12 hl (by decide) (by show (6, va_rf r6) :: List.filter (fun q : Nat × Value => !(q.1 == 6) && !(q.1 + 1 == 6 && q.2.category == 2)) [(5, va_rf r1), (0, .ref t0), (1, .int z1), (2, .int z2), (3, .int z3), (4, .int z4)] = [(6, va_rf r6), (5, va_rf r1), (0, .ref t0), (1, .int z1), (2, .int z2), (3, .int z3), (4, .int z4)]; simp [va_rf_cat, va_c_ref, va_c_int, va_c_null]) (fun ls hl9 => ?_)
  replace hl := hl9
  refine lv_iload_n hx hb dX9_tokenizeSlots_14 rfl (lv_at hl 3 rfl) ?_
  refine lv_iconst (v := 2) hx hb dX9_tokenizeSlots_15 (by decide) ?_
  refine g_calls (As := [.int z1, .int 2]) (rest := []) ⟨hx, hb, hml, ho, hts⟩ hl.1 (k_X9_isWithin (l := l) _ z1 2 hw) (va_cwS 2 hts gX9_tokenizeSlots_X9_isWithin rfl rfl rfl (by decide +kernel) ⟨Nat.le_of_ble_eq_true rfl, Nat.le_of_ble_eq_true rfl⟩) (Nat.le_of_ble_eq_true rfl) dX9_tokenizeSlots_16 rfl ⟨by show _ ≤ MC; omega, by show _ ≤ MS; omega⟩ (fun r11 hp => ?_)
  replace hw := hp
  refine lv_if_eq (tgt := 32) hx hb dX9_tokenizeSlots_19 (by decide) (fun c12 => ?_) (fun c12 => ?_)
  · replace hw := hw.1 c12
    refine lv_iconst (v := (-1)) hx hb dX9_tokenizeSlots_32 (by decide) ?_
    exact hret (-1) S _ _ _ _ (by omega) (by omega) hw rfl dX9_tokenizeSlots_33 _ _ _ hW hl
  · replace hw := hw.2 c12
    refine lv_aloadV hx hb dX9_tokenizeSlots_22 (lv_at hl 1 rfl) ?_
    refine lv_ifnullV (tgt := 32) hx hb dX9_tokenizeSlots_24 (by decide) (fun c13 => ?_) (fun a14 c13 => ?_)
    · subst c13
      replace hw := hw.1 rfl
      refine lv_iconst (v := (-1)) hx hb dX9_tokenizeSlots_32 (by decide) ?_
      exact hret (-1) S _ _ _ _ (by omega) (by omega) hw rfl dX9_tokenizeSlots_33 _ _ _ hW hl
    · subst c13
      replace hw := hw.2 a14 rfl
      refine lv_aloadV hx hb dX9_tokenizeSlots_27 (lv_at hl 0 rfl) ?_
      refine lv_ifnonnullV (tgt := 34) hx hb dX9_tokenizeSlots_29 (by decide) (fun a16 c15 => ?_) (fun c15 => ?_)
      · subst c15
        replace hw := hw.2 a16 rfl
        refine lv_aload hx hb dX9_tokenizeSlots_34 (lv_at hl 0 rfl) ?_
        obtain ⟨o17, h18, hw⟩ := hw
        refine h_getRN C0 hW (host := RX9) (T := TX6) (kf := 0) in_X9_tokenizeSlots_RX6 h18 rfl (by decide) (by decide +kernel) rfl dX9_tokenizeSlots_36 ?_
        refine lv_ifnonnullV (tgt := 45) hx hb dX9_tokenizeSlots_39 (by decide) (fun a20 c19 => ?_) (fun c19 => ?_)
        · subst c19
          replace hw := hw.2 a20 rfl
          refine lv_aload hx hb dX9_tokenizeSlots_45 (lv_at hl 1 rfl) ?_
          obtain ⟨o21, h22, hw⟩ := hw
          refine h_getRN C0 hW (host := RX9) (T := TX6) (kf := 0) in_X9_tokenizeSlots_RX6 h22 rfl (by decide) (by decide +kernel) rfl dX9_tokenizeSlots_47 ?_
          refine lv_ifnonnullV (tgt := 58) hx hb dX9_tokenizeSlots_50 (by decide) (fun a24 c23 => ?_) (fun c23 => ?_)
          · subst c23
            replace hw := hw.2 a24 rfl
            refine lv_aload_n hx hb dX9_tokenizeSlots_58 rfl (lv_at hl 2 rfl) ?_
            refine lv_iload_n hx hb dX9_tokenizeSlots_59 rfl (lv_at hl 3 rfl) ?_
            refine lv_aload hx hb dX9_tokenizeSlots_60 (lv_at hl 1 rfl) ?_
            obtain ⟨o29, h30, hw⟩ := hw
            refine h_getRN C0 hW (host := RX9) (T := TX6) (kf := 0) in_X9_tokenizeSlots_RX6 h30 rfl (by decide) (by decide +kernel) rfl dX9_tokenizeSlots_62 ?_
            refine lv_aload hx hb dX9_tokenizeSlots_65 (lv_at hl 0 rfl) ?_
            obtain ⟨o31, h32, hw⟩ := hw
            refine h_getRN C0 hW (host := RX9) (T := TX6) (kf := 0) in_X9_tokenizeSlots_RX6 h32 rfl (by decide) (by decide +kernel) rfl dX9_tokenizeSlots_67 ?_
            refine lv_iload hx hb dX9_tokenizeSlots_70 (lv_at hl 6 rfl) ?_
            obtain ⟨h38, k34, n35, h36, h37, hw⟩ := hw
            refine h_goi C0 hW (va_runV (As := [.int z1, va_rf o29, va_rf o31, .int z4]) (rest := []) ⟨hx, hb, hml, ho, hts⟩ (k_X9_makeTokenizer (l := l) (u := u) (X := X) (sz := H.size) _ t0 z1 o29 o31 z4 S k34 n35 hw) (cwV 4 hts gX9_tokenizeSlots_X9_makeTokenizer rfl rfl rfl (by decide +kernel) ⟨Nat.le_of_ble_eq_true rfl, Nat.le_of_ble_eq_true rfl⟩) ⟨h_blind, (h_recv C0 hW (ci := 10) rfl h38), (h_pre C0 hW [.ref t0, .int z1, va_rf o29, va_rf o31, .int z4])⟩ rfl rfl hl.1 rfl (lv_room (Nat.le_of_ble_eq_true rfl)) dX9_tokenizeSlots_72 ⟨by show _ ≤ MC; omega, by show _ ≤ MS; omega⟩) (fun r33 S39 H locs h40 hW => ?_)
            replace hw := h40
            have hkn : (k + k34) + (mc - k34) ≤ MC ∧ (n + n35) + (ms - n35) ≤ MS := by omega
            exact hret r33 S39 _ _ _ _ (by omega) (by omega) hw rfl dX9_tokenizeSlots_75 _ _ _ hW hl
          · subst c23
            replace hw := hw.1 rfl
            refine lv_aload_n hx hb dX9_tokenizeSlots_53 rfl (lv_at hl 2 rfl) ?_
            obtain ⟨h26, hw⟩ := hw
            refine h_goi C0 hW (va_runV (As := []) (rest := []) ⟨hx, hb, hml, ho, hts⟩ (k_X9_refuseNull (l := l) (u := u) (X := X) (sz := H.size) _ t0  S  hw) (cwV 0 hts gX9_tokenizeSlots_X9_refuseNull rfl rfl rfl (by decide +kernel) ⟨Nat.le_of_ble_eq_true rfl, Nat.le_of_ble_eq_true rfl⟩) ⟨h_blind, (h_recv C0 hW (ci := 10) rfl h26), (h_pre C0 hW [.ref t0])⟩ rfl rfl hl.1 rfl (lv_room (Nat.le_of_ble_eq_true rfl)) dX9_tokenizeSlots_54 ⟨by show _ ≤ MC; omega, by show _ ≤ MS; omega⟩) (fun r25 S27 H locs h28 hW => ?_)
            replace hw := h28
            exact hret r25 S27 _ _ _ _ (by omega) (by omega) hw rfl dX9_tokenizeSlots_57 _ _ _ hW hl
        · subst c19
          replace hw := hw.1 rfl
          refine lv_bipush (v := (-2)) hx hb dX9_tokenizeSlots_42 (by decide) ?_
          exact hret (-2) S _ _ _ _ (by omega) (by omega) hw rfl dX9_tokenizeSlots_44 _ _ _ hW hl
      · subst c15
        replace hw := hw.1 rfl
        refine lv_iconst (v := (-1)) hx hb dX9_tokenizeSlots_32 (by decide) ?_
        exact hret (-1) S _ _ _ _ (by omega) (by omega) hw rfl dX9_tokenizeSlots_33 _ _ _ hW hl
set_option maxHeartbeats 4000000 in
set_option maxRecDepth 100000 in
theorem k_X9_tokenizeSlots {l : Launch} {D : va_G} {u : hU} {X : va_W} {sz : Nat} (post : Int32 → hS → Prop) (t0 : Nat) (z1 : Int32) (z2 : Int32) (z3 : Int32) (z4 : Int32) (S : hS) (mc ms : Nat) (hw : w_X9_tokenizeSlots u post t0 z1 z2 z3 z4 S mc ms) : hMi l yX9_tokenizeSlots wsX9_tokenizeSlots (rm_X9_tokenizeSlots mc ms) D (gt u.2.1) u.1 u.2.2 sz X S [.ref t0, .int z1, .int z2, .int z3, .int z4] post mc ms := by
  refine hMi_of (cc := cX9_tokenizeSlots) (nL := 7) (ty := .int) (own := RX9) (by decide) rfl rfl (Nat.le_of_ble_eq_true rfl) ?_
  intro p e s m args below meth c A Q C0 hin hret
  exact t_X9_tokenizeSlots_0 C0 t0 post hret z1 z2 z3 z4 S mc ms 0 0 ⟨by omega, by omega⟩ hw
abbrev rm_X9_tokenizeBy (MC MS : Nat) : Room := { frames := 9, cells := MC, slots := MS, locals := 207 }
set_option maxHeartbeats 4000000 in
set_option maxRecDepth 100000 in
theorem t_X9_tokenizeBy_0 (C0 : hX p s m args c cX9_tokenizeBy 4 RX9 wsX9_tokenizeBy D (gt u.2.1) A u.1 u.2.2) (t0 : Nat) (post : Int32 → hS → Prop) (hret : ∀ (r : Int32) (S' : hS) (pc : Nat) (lv : List (Nat × Value)) (k n : Nat), k ≤ MC → n ≤ MS → post r S' → narrow .int (.int r) = .int r → decode cX9_tokenizeBy pc = .ok (.ireturn, 1) → gG p l e (rm_X9_tokenizeBy MC MS) s m args below meth c Q D A 4 k n (hC X S') pc lv [.int r])  : ∀ (z1 : Int32) (z2 : Int32) (z3 : Int32) (S : hS) (mc ms k n : Nat), k + mc ≤ MC ∧ n + ms ≤ MS → w_X9_tokenizeBy u post t0  z1 z2 z3 S mc ms → gG p l e (rm_X9_tokenizeBy MC MS) s m args below meth c Q D A 4 k n (hC X S) 0 [(0, .ref t0), (1, .int z1), (2, .int z2), (3, .int z3)] [] := by
  obtain ⟨⟨hx, hb, hml, ho, hts, hK, hA⟩, hR⟩ := id C0
  intro z1 z2 z3 S mc ms k n hkn hw H locs ls hW hl
  rw [w_X9_tokenizeBy] at hw
  refine lv_aload_n hx hb dX9_tokenizeBy_0 rfl (lv_at hl 0 rfl) ?_
  refine lv_iload_n hx hb dX9_tokenizeBy_1 rfl (lv_at hl 1 rfl) ?_
  refine lv_iload_n hx hb dX9_tokenizeBy_2 rfl (lv_at hl 2 rfl) ?_
  refine lv_iload_n hx hb dX9_tokenizeBy_3 rfl (lv_at hl 3 rfl) ?_
  refine lv_iconst (v := 0) hx hb dX9_tokenizeBy_4 (by decide) ?_
  obtain ⟨h6, k2, n3, h4, h5, hw⟩ := hw
  refine h_goi C0 hW (va_runV (As := [.int z1, .int z2, .int z3, .int 0]) (rest := []) ⟨hx, hb, hml, ho, hts⟩ (k_X9_tokenizeSlots (l := l) (u := u) (X := X) (sz := H.size) _ t0 z1 z2 z3 0 S k2 n3 hw) (cwV 4 hts gX9_tokenizeBy_X9_tokenizeSlots rfl rfl rfl (by decide +kernel) ⟨Nat.le_of_ble_eq_true rfl, Nat.le_of_ble_eq_true rfl⟩) ⟨h_blind, (h_recv C0 hW (ci := 10) rfl h6), (h_pre C0 hW [.ref t0, .int z1, .int z2, .int z3, .int 0])⟩ rfl rfl hl.1 rfl (lv_room (Nat.le_of_ble_eq_true rfl)) dX9_tokenizeBy_5 ⟨by show _ ≤ MC; omega, by show _ ≤ MS; omega⟩) (fun r1 S7 H locs h8 hW => ?_)
  replace hw := h8
  have hkn : (k + k2) + (mc - k2) ≤ MC ∧ (n + n3) + (ms - n3) ≤ MS := by omega
  exact hret r1 S7 _ _ _ _ (by omega) (by omega) hw rfl dX9_tokenizeBy_8 _ _ _ hW hl
set_option maxHeartbeats 4000000 in
set_option maxRecDepth 100000 in
theorem k_X9_tokenizeBy {l : Launch} {D : va_G} {u : hU} {X : va_W} {sz : Nat} (post : Int32 → hS → Prop) (t0 : Nat) (z1 : Int32) (z2 : Int32) (z3 : Int32) (S : hS) (mc ms : Nat) (hw : w_X9_tokenizeBy u post t0 z1 z2 z3 S mc ms) : hMi l yX9_tokenizeBy wsX9_tokenizeBy (rm_X9_tokenizeBy mc ms) D (gt u.2.1) u.1 u.2.2 sz X S [.ref t0, .int z1, .int z2, .int z3] post mc ms := by
  refine hMi_of (cc := cX9_tokenizeBy) (nL := 4) (ty := .int) (own := RX9) (by decide) rfl rfl (Nat.le_of_ble_eq_true rfl) ?_
  intro p e s m args below meth c A Q C0 hin hret
  exact t_X9_tokenizeBy_0 C0 t0 post hret z1 z2 z3 S mc ms 0 0 ⟨by omega, by omega⟩ hw
abbrev rm_X9_tokenizeAll (MC MS : Nat) : Room := { frames := 9, cells := MC, slots := MS, locals := 207 }
set_option maxHeartbeats 4000000 in
set_option maxRecDepth 100000 in
theorem t_X9_tokenizeAll_0 (C0 : hX p s m args c cX9_tokenizeAll 4 RX9 wsX9_tokenizeAll D (gt u.2.1) A u.1 u.2.2) (t0 : Nat) (post : Int32 → hS → Prop) (hret : ∀ (r : Int32) (S' : hS) (pc : Nat) (lv : List (Nat × Value)) (k n : Nat), k ≤ MC → n ≤ MS → post r S' → narrow .int (.int r) = .int r → decode cX9_tokenizeAll pc = .ok (.ireturn, 1) → gG p l e (rm_X9_tokenizeAll MC MS) s m args below meth c Q D A 4 k n (hC X S') pc lv [.int r])  : ∀ (z1 : Int32) (z2 : Int32) (z3 : Int32) (S : hS) (mc ms k n : Nat), k + mc ≤ MC ∧ n + ms ≤ MS → w_X9_tokenizeAll u post t0  z1 z2 z3 S mc ms → gG p l e (rm_X9_tokenizeAll MC MS) s m args below meth c Q D A 4 k n (hC X S) 0 [(0, .ref t0), (1, .int z1), (2, .int z2), (3, .int z3)] [] := by
  obtain ⟨⟨hx, hb, hml, ho, hts, hK, hA⟩, hR⟩ := id C0
  intro z1 z2 z3 S mc ms k n hkn hw H locs ls hW hl
  rw [w_X9_tokenizeAll] at hw
  refine lv_aload_n hx hb dX9_tokenizeAll_0 rfl (lv_at hl 0 rfl) ?_
  refine lv_iload_n hx hb dX9_tokenizeAll_1 rfl (lv_at hl 1 rfl) ?_
  refine lv_iload_n hx hb dX9_tokenizeAll_2 rfl (lv_at hl 2 rfl) ?_
  refine lv_iload_n hx hb dX9_tokenizeAll_3 rfl (lv_at hl 3 rfl) ?_
  refine lv_iconst (v := 1) hx hb dX9_tokenizeAll_4 (by decide) ?_
  obtain ⟨h6, k2, n3, h4, h5, hw⟩ := hw
  refine h_goi C0 hW (va_runV (As := [.int z1, .int z2, .int z3, .int 1]) (rest := []) ⟨hx, hb, hml, ho, hts⟩ (k_X9_tokenizeSlots (l := l) (u := u) (X := X) (sz := H.size) _ t0 z1 z2 z3 1 S k2 n3 hw) (cwV 4 hts gX9_tokenizeAll_X9_tokenizeSlots rfl rfl rfl (by decide +kernel) ⟨Nat.le_of_ble_eq_true rfl, Nat.le_of_ble_eq_true rfl⟩) ⟨h_blind, (h_recv C0 hW (ci := 10) rfl h6), (h_pre C0 hW [.ref t0, .int z1, .int z2, .int z3, .int 1])⟩ rfl rfl hl.1 rfl (lv_room (Nat.le_of_ble_eq_true rfl)) dX9_tokenizeAll_5 ⟨by show _ ≤ MC; omega, by show _ ≤ MS; omega⟩) (fun r1 S7 H locs h8 hW => ?_)
  replace hw := h8
  have hkn : (k + k2) + (mc - k2) ≤ MC ∧ (n + n3) + (ms - n3) ≤ MS := by omega
  exact hret r1 S7 _ _ _ _ (by omega) (by omega) hw rfl dX9_tokenizeAll_8 _ _ _ hW hl
set_option maxHeartbeats 4000000 in
set_option maxRecDepth 100000 in
theorem k_X9_tokenizeAll {l : Launch} {D : va_G} {u : hU} {X : va_W} {sz : Nat} (post : Int32 → hS → Prop) (t0 : Nat) (z1 : Int32) (z2 : Int32) (z3 : Int32) (S : hS) (mc ms : Nat) (hw : w_X9_tokenizeAll u post t0 z1 z2 z3 S mc ms) : hMi l yX9_tokenizeAll wsX9_tokenizeAll (rm_X9_tokenizeAll mc ms) D (gt u.2.1) u.1 u.2.2 sz X S [.ref t0, .int z1, .int z2, .int z3] post mc ms := by
  refine hMi_of (cc := cX9_tokenizeAll) (nL := 4) (ty := .int) (own := RX9) (by decide) rfl rfl (Nat.le_of_ble_eq_true rfl) ?_
  intro p e s m args below meth c A Q C0 hin hret
  exact t_X9_tokenizeAll_0 C0 t0 post hret z1 z2 z3 S mc ms 0 0 ⟨by omega, by omega⟩ hw
end RAWM
