section RAWM
variable {p : Program} {l : Launch} {e : Env} {s : State} {m : MethodId} {args : Array Value} {below : List Frame} {meth : Method} {c : Code} {Q : State → Prop}
variable {D : va_G} {A : Nat → Prop} {u : hU} {X : va_W} {MC MS : Nat}
abbrev rm_X9_append (MC MS : Nat) : Room := { frames := 6, cells := MC, slots := MS, locals := 132 }
theorem in_X9_append_RJ4 : ∀ w ∈ wsJ40, w ∈ wsX9_append := fun w hw9 => List.mem_cons_of_mem _ (List.mem_append_left _ (List.mem_append_left _ (List.mem_append_right _ hw9)))
theorem in_X9_append_RX6 : ∀ w ∈ wsX60, w ∈ wsX9_append := fun w hw9 => List.mem_cons_of_mem _ (List.mem_append_left _ (List.mem_append_left _ (List.mem_append_left _ (List.mem_append_right _ hw9))))
set_option maxHeartbeats 4000000 in
set_option maxRecDepth 100000 in
theorem t_X9_append_0 (C0 : hX p s m args c cX9_append 6 RX9 wsX9_append D (gt u.2.1) A u.1 u.2.2) (t0 : Nat) (post : Int32 → hS → Prop) (hret : ∀ (r : Int32) (S' : hS) (pc : Nat) (lv : List (Nat × Value)) (k n : Nat), k ≤ MC → n ≤ MS → post r S' → narrow .int (.int r) = .int r → decode cX9_append pc = .ok (.ireturn, 1) → gG p l e (rm_X9_append MC MS) s m args below meth c Q D A 6 k n (hC X S') pc lv [.int r])  : ∀ (z1 : Int32) (z2 : Int32) (S : hS) (mc ms k n : Nat), k + mc ≤ MC ∧ n + ms ≤ MS → w_X9_append u post t0  z1 z2 S mc ms → gG p l e (rm_X9_append MC MS) s m args below meth c Q D A 6 k n (hC X S) 0 [(0, .ref t0), (1, .int z1), (2, .int z2)] [] := by
  obtain ⟨⟨hx, hb, hml, ho, hts, hK, hA⟩, hR⟩ := id C0
  intro z1 z2 S mc ms k n hkn hw H locs ls hW hl
  rw [w_X9_append] at hw
  refine lv_aload_n hx hb dX9_append_0 rfl (lv_at hl 0 rfl) ?_
  refine lv_iload_n hx hb dX9_append_1 rfl (lv_at hl 1 rfl) ?_
  obtain ⟨h2, hw⟩ := hw
  refine h_goq C0 hW (va_runV (As := [.int z1]) (rest := []) ⟨hx, hb, hml, ho, hts⟩ (k_X9_slotAt (l := l) (u := u) (X := X) (sz := H.size) _ t0 z1 S  hw) (cwV 1 hts gX9_append_X9_slotAt rfl rfl rfl (by decide +kernel) ⟨Nat.le_of_ble_eq_true rfl, Nat.le_of_ble_eq_true rfl⟩) ⟨h_blind, (h_recv C0 hW (ci := 10) rfl h2), (h_pre C0 hW [.ref t0, .int z1])⟩ rfl rfl hl.1 rfl (lv_room (Nat.le_of_ble_eq_true rfl)) dX9_append_2 ⟨by show _ ≤ MC; omega, by show _ ≤ MS; omega⟩) (fun r1 S3 H locs h4 hW => ?_)
  obtain ⟨h5, hp⟩ := h4
  rw [h5] at hW
  replace hw := hp
  refine lv_astoreV_n (i := 3) (lv' := [(3, va_rf r1), (0, .ref t0), (1, .int z1), (2, .int z2)]) hx hb dX9_append_5 rfl hl (by decide) rfl (fun ls hl9 => ?_)
  replace hl := hl9
  refine lv_aloadV_n hx hb dX9_append_6 rfl (lv_at hl 0 rfl) ?_
  refine lv_ifnullV (tgt := 21) hx hb dX9_append_7 (by decide) (fun c6 => ?_) (fun a7 c6 => ?_)
  · subst c6
    replace hw := hw.1 rfl
    refine lv_iconst (v := (-1)) hx hb dX9_append_21 (by decide) ?_
    exact hret (-1) S _ _ _ _ (by omega) (by omega) hw rfl dX9_append_22 _ _ _ hW hl
  · subst c6
    replace hw := hw.2 a7 rfl
    refine lv_iload_n hx hb dX9_append_10 rfl (lv_at hl 3 rfl) ?_
    refine lv_if_lt (tgt := 21) hx hb dX9_append_11 (by decide) (fun c8 => ?_) (fun c8 => ?_)
    · replace hw := hw.1 c8
      refine lv_iconst (v := (-1)) hx hb dX9_append_21 (by decide) ?_
      exact hret (-1) S _ _ _ _ (by omega) (by omega) hw rfl dX9_append_22 _ _ _ hW hl
    · replace hw := hw.2 c8
      refine lv_iload_n hx hb dX9_append_14 rfl (lv_at hl 3 rfl) ?_
      refine lv_sipush (v := 255) hx hb dX9_append_15 (by decide) ?_
      refine lv_icmp_le (tgt := 23) hx hb dX9_append_18 (by decide) (fun c9 => ?_) (fun c9 => ?_)
      · replace hw := hw.1 c9
        refine lv_aload_n hx hb dX9_append_23 rfl (lv_at hl 0 rfl) ?_
        obtain ⟨o10, h11, hw⟩ := hw
        refine h_getRN C0 hW (host := RX9) (T := TX6) (kf := 0) in_X9_append_RX6 h11 rfl (by decide) (by decide +kernel) rfl dX9_append_24 ?_
        refine lv_astoreV (i := 4) (lv' := [(4, va_rf o10), (3, .ref a7), (0, .ref t0), (1, .int z1), (2, .int z2)]) hx hb dX9_append_27 hl (by decide) rfl (fun ls hl9 => ?_)
        replace hl := hl9
        refine lv_aloadV hx hb dX9_append_29 (lv_at hl 0 rfl) ?_
        refine lv_ifnonnullV (tgt := 37) hx hb dX9_append_31 (by decide) (fun a13 c12 => ?_) (fun c12 => ?_)
        · subst c12
          replace hw := hw.2 a13 rfl
          refine lv_aload hx hb dX9_append_37 (lv_at hl 0 rfl) ?_
          obtain ⟨h15, hw⟩ := hw
          refine h_goi C0 hW (va_runV (As := []) (rest := []) ⟨hx, hb, hml, ho, hts⟩ (k_J0_length_8a (l := l) (u := u) (X := X) (sz := H.size) _ a13  S  hw) (cwV 0 hts gX9_append_J0_length_8abf5 rfl rfl rfl (by decide +kernel) ⟨Nat.le_of_ble_eq_true rfl, Nat.le_of_ble_eq_true rfl⟩) ⟨h_blind, (h_recvS C0 hW h15), (h_pre C0 hW [.ref a13])⟩ rfl rfl hl.1 rfl (lv_room (Nat.le_of_ble_eq_true rfl)) dX9_append_39 ⟨by show _ ≤ MC; omega, by show _ ≤ MS; omega⟩) (fun r14 S16 H locs h17 hW => ?_)
          obtain ⟨h18, hp⟩ := h17
          rw [h18] at hW
          replace hw := hp
          refine lv_sipush (v := 300) hx hb dX9_append_42 (by decide) ?_
          refine lv_icmp_lt (tgt := 51) hx hb dX9_append_45 (by decide) (fun c19 => ?_) (fun c19 => ?_)
          · replace hw := hw.1 c19
            obtain ⟨h23, h24, hw⟩ := hw
            refine h_new C0 hW (ci := 1) (fs := [.null, .int 0, .int 0, .int 0]) in_X9_append_RJ4 rfl tyJ4 tyJ4_ok (List.mem_of_getElem? (i := 1) rfl) (List.mem_of_getElem? (i := 2) rfl) (List.mem_of_getElem? (i := 3) rfl) (fun j hj => by rcases (show j = 0 ∨ j = 1 ∨ j = 2 ∨ j = 3 by omega) with rfl | rfl | rfl | rfl <;> rfl) (by show _ ≤ MC; omega) (by show _ ≤ MS; omega) dX9_append_51 (fun q20 H h21 hW => ?_)
            obtain ⟨S22, eS22⟩ : ∃ z : hS, z = adS S q20 (.inr (1, [.null, .int 0, .int 0, .int 0])) := ⟨_, rfl⟩
            rw [← eS22] at hW
            replace hw := hw q20 S22 h21 eS22
            have hkn : (k + 1) + (mc - 1) ≤ MC ∧ (n + 4) + (ms - 4) ≤ MS := by omega
            refine lv_dup hx hb dX9_append_54 rfl ?_
            obtain ⟨k26, n27, h28, h29, hw⟩ := hw
            refine h_gov C0 hW (va_runI (As := []) (rest := [.ref q20]) ⟨hx, hb, hml, ho, hts⟩ (k_J4_init_da (l := l) (u := u) (X := X) (sz := H.size) _ q20  S22 k26 n27 hw) (cwI 0 hts gX9_append_J4_init_da8c8 rfl rfl rfl (hts _ (List.mem_of_getElem? (i := 3) rfl)) (hts _ (List.mem_of_getElem? (i := 25) rfl)) (hts _ (List.mem_of_getElem? (i := 26) rfl)) rfl (by decide +kernel) ⟨Nat.le_of_ble_eq_true rfl, Nat.le_of_ble_eq_true rfl⟩) ⟨h_blind, (h_pre C0 hW [.ref q20])⟩ rfl rfl hl.1 rfl (lv_room (Nat.le_of_ble_eq_true rfl)) dX9_append_55 ⟨by show _ ≤ MC; omega, by show _ ≤ MS; omega⟩) (fun S30 H locs h31 hW => ?_)
            replace hw := h31
            have hkn : ((k + 1) + k26) + ((mc - 1) - k26) ≤ MC ∧ ((n + 4) + n27) + ((ms - 4) - n27) ≤ MS := by omega
            refine lv_astore (i := 5) (lv' := [(5, .ref q20), (4, .ref a13), (3, .ref a7), (0, .ref t0), (1, .int z1), (2, .int z2)]) hx hb dX9_append_58 hl (by decide) rfl (fun ls hl9 => ?_)
            replace hl := hl9
            refine lv_aload hx hb dX9_append_60 (lv_at hl 0 rfl) ?_
            refine lv_aload hx hb dX9_append_62 (lv_at hl 1 rfl) ?_
            obtain ⟨h37, k33, n34, h35, h36, hw⟩ := hw
            refine h_goq C0 hW (va_runV (As := [.ref a13]) (rest := []) ⟨hx, hb, hml, ho, hts⟩ (k_J4_append_15 (l := l) (u := u) (X := X) (sz := H.size) _ q20 (some a13) S30 k33 n34 hw) (cwV 1 hts gX9_append_J4_append_15ec4 rfl rfl rfl (by decide +kernel) ⟨Nat.le_of_ble_eq_true rfl, Nat.le_of_ble_eq_true rfl⟩) ⟨h_blind, (h_recv C0 hW (ci := 1) rfl h37), (h_pre C0 hW [.ref q20, .ref a13])⟩ rfl rfl hl.1 rfl (lv_room (Nat.le_of_ble_eq_true rfl)) dX9_append_64 ⟨by show _ ≤ MC; omega, by show _ ≤ MS; omega⟩) (fun r32 S38 H locs h39 hW => ?_)
            replace hw := h39
            have hkn : (((k + 1) + k26) + k33) + (((mc - 1) - k26) - k33) ≤ MC ∧ (((n + 4) + n27) + n34) + (((ms - 4) - n27) - n34) ≤ MS := by omega
            refine lv_pop hx hb dX9_append_67 (va_rf_cat _) ?_
            refine lv_aload hx hb dX9_append_68 (lv_at hl 0 rfl) ?_
            refine lv_iload_n hx hb dX9_append_70 rfl (lv_at hl 5 rfl) ?_
            refine lv_i2c hx hb dX9_append_71 rfl ?_
            obtain ⟨h45, k41, n42, h43, h44, hw⟩ := hw
            refine h_goq C0 hW (va_runV (As := [.int ((z2 : Int32).toUInt32 % 65536).toInt32]) (rest := []) ⟨hx, hb, hml, ho, hts⟩ (k_J4_append_cf (l := l) (u := u) (X := X) (sz := H.size) _ q20 ((z2 : Int32).toUInt32 % 65536).toInt32 S38 k41 n42 hw) (cwV 1 hts gX9_append_J4_append_cf468 rfl rfl rfl (by decide +kernel) ⟨Nat.le_of_ble_eq_true rfl, Nat.le_of_ble_eq_true rfl⟩) ⟨h_blind, (h_recv C0 hW (ci := 1) rfl h45), (h_pre C0 hW [.ref q20, .int ((z2 : Int32).toUInt32 % 65536).toInt32])⟩ rfl rfl hl.1 rfl (lv_room (Nat.le_of_ble_eq_true rfl)) dX9_append_72 ⟨by show _ ≤ MC; omega, by show _ ≤ MS; omega⟩) (fun r40 S46 H locs h47 hW => ?_)
            replace hw := h47
            have hkn : ((((k + 1) + k26) + k33) + k41) + ((((mc - 1) - k26) - k33) - k41) ≤ MC ∧ ((((n + 4) + n27) + n34) + n42) + ((((ms - 4) - n27) - n34) - n42) ≤ MS := by omega
            refine lv_pop hx hb dX9_append_75 (va_rf_cat _) ?_
            refine lv_aload_n hx hb dX9_append_76 rfl (lv_at hl 2 rfl) ?_
            refine lv_aload hx hb dX9_append_77 (lv_at hl 0 rfl) ?_
            obtain ⟨h53, k49, n50, h51, h52, hw⟩ := hw
            refine h_goq C0 hW (va_runV (As := []) (rest := [.ref a7]) ⟨hx, hb, hml, ho, hts⟩ (k_J4_toString_0e (l := l) (u := u) (X := X) (sz := H.size) _ q20  S46 k49 n50 hw) (cwV 0 hts gX9_append_J4_toString_0e30d rfl rfl rfl (by decide +kernel) ⟨Nat.le_of_ble_eq_true rfl, Nat.le_of_ble_eq_true rfl⟩) ⟨h_blind, (h_recv C0 hW (ci := 1) rfl h53), (h_pre C0 hW [.ref q20])⟩ rfl rfl hl.1 rfl (lv_room (Nat.le_of_ble_eq_true rfl)) dX9_append_79 ⟨by show _ ≤ MC; omega, by show _ ≤ MS; omega⟩) (fun r48 S54 H locs h55 hW => ?_)
            replace hw := h55
            have hkn : (((((k + 1) + k26) + k33) + k41) + k49) + (((((mc - 1) - k26) - k33) - k41) - k49) ≤ MC ∧ (((((n + 4) + n27) + n34) + n42) + n50) + (((((ms - 4) - n27) - n34) - n42) - n50) ≤ MS := by omega
            refine h_goi C0 hW (va_runS (As := [.ref a7, va_rf r48]) (rest := []) ⟨hx, hb, hml, ho, hts⟩ (k_X9_putInto (l := l) (u := u) (X := X) (sz := H.size) _ (some a7) r48 S54  hw) (va_cwS 2 hts gX9_append_X9_putInto rfl rfl rfl (by decide +kernel) ⟨Nat.le_of_ble_eq_true rfl, Nat.le_of_ble_eq_true rfl⟩) ⟨h_blind, (h_pre C0 hW [.ref a7, va_rf r48])⟩ rfl rfl hl.1 rfl (lv_room (Nat.le_of_ble_eq_true rfl)) dX9_append_82 ⟨by show _ ≤ MC; omega, by show _ ≤ MS; omega⟩) (fun r56 S57 H locs h58 hW => ?_)
            replace hw := h58
            exact hret r56 S57 _ _ _ _ (by omega) (by omega) hw rfl dX9_append_85 _ _ _ hW hl
          · replace hw := hw.2 c19
            refine lv_bipush (v := (-3)) hx hb dX9_append_48 (by decide) ?_
            exact hret (-3) S _ _ _ _ (by omega) (by omega) hw rfl dX9_append_50 _ _ _ hW hl
        · subst c12
          replace hw := hw.1 rfl
          refine lv_bipush (v := (-2)) hx hb dX9_append_34 (by decide) ?_
          exact hret (-2) S _ _ _ _ (by omega) (by omega) hw rfl dX9_append_36 _ _ _ hW hl
      · replace hw := hw.2 c9
        refine lv_iconst (v := (-1)) hx hb dX9_append_21 (by decide) ?_
        exact hret (-1) S _ _ _ _ (by omega) (by omega) hw rfl dX9_append_22 _ _ _ hW hl
set_option maxHeartbeats 4000000 in
set_option maxRecDepth 100000 in
theorem k_X9_append {l : Launch} {D : va_G} {u : hU} {X : va_W} {sz : Nat} (post : Int32 → hS → Prop) (t0 : Nat) (z1 : Int32) (z2 : Int32) (S : hS) (mc ms : Nat) (hw : w_X9_append u post t0 z1 z2 S mc ms) : hMi l yX9_append wsX9_append (rm_X9_append mc ms) D (gt u.2.1) u.1 u.2.2 sz X S [.ref t0, .int z1, .int z2] post mc ms := by
  refine hMi_of (cc := cX9_append) (nL := 6) (ty := .int) (own := RX9) (by decide) rfl rfl (Nat.le_of_ble_eq_true rfl) ?_
  intro p e s m args below meth c A Q C0 hin hret
  exact t_X9_append_0 C0 t0 post hret z1 z2 S mc ms 0 0 ⟨by omega, by omega⟩ hw
abbrev rm_X9_length : Room := { frames := 3, cells := 0, slots := 0, locals := 60 }
theorem in_X9_length_RX6 : ∀ w ∈ wsX60, w ∈ wsX9_length := fun w hw9 => List.mem_cons_of_mem _ (List.mem_append_left _ (List.mem_append_left _ (List.mem_append_right _ hw9)))
set_option maxHeartbeats 4000000 in
set_option maxRecDepth 100000 in
theorem t_X9_length_0 (C0 : hX p s m args c cX9_length 3 RX9 wsX9_length D (gt u.2.1) A u.1 u.2.2) {S : hS} (t0 : Nat) (post : Int32 → Prop) (hret : ∀ (r : Int32) (S' : hS) (pc : Nat) (lv : List (Nat × Value)) (k n : Nat), k ≤ 0 → n ≤ 0 → (S' = S ∧ post r) → narrow .int (.int r) = .int r → decode cX9_length pc = .ok (.ireturn, 1) → gG p l e (rm_X9_length) s m args below meth c Q D A 3 k n (hC X S') pc lv [.int r])  : ∀ (z1 : Int32), w_X9_length u post t0  z1 S → gG p l e (rm_X9_length) s m args below meth c Q D A 3 0 0 (hC X S) 0 [(0, .ref t0), (1, .int z1)] [] := by
  obtain ⟨⟨hx, hb, hml, ho, hts, hK, hA⟩, hR⟩ := id C0
  intro z1 hw H locs ls hW hl
  rw [w_X9_length] at hw
  refine lv_aload_n hx hb dX9_length_0 rfl (lv_at hl 0 rfl) ?_
  refine lv_iload_n hx hb dX9_length_1 rfl (lv_at hl 1 rfl) ?_
  obtain ⟨h2, hw⟩ := hw
  refine h_goq C0 hW (va_runV (As := [.int z1]) (rest := []) ⟨hx, hb, hml, ho, hts⟩ (k_X9_slotAt (l := l) (u := u) (X := X) (sz := H.size) _ t0 z1 S  hw) (cwV 1 hts gX9_length_X9_slotAt rfl rfl rfl (by decide +kernel) ⟨Nat.le_of_ble_eq_true rfl, Nat.le_of_ble_eq_true rfl⟩) ⟨h_blind, (h_recv C0 hW (ci := 10) rfl h2), (h_pre C0 hW [.ref t0, .int z1])⟩ rfl rfl hl.1 rfl (lv_room (Nat.le_of_ble_eq_true rfl)) dX9_length_2 ⟨Nat.le_refl _, Nat.le_refl _⟩) (fun r1 S3 H locs h4 hW => ?_)
  obtain ⟨h5, hp⟩ := h4
  rw [h5] at hW
  replace hw := hp
  refine lv_astoreV_n (i := 2) (lv' := [(2, va_rf r1), (0, .ref t0), (1, .int z1)]) hx hb dX9_length_5 rfl hl (by decide) rfl (fun ls hl9 => ?_)
  replace hl := hl9
  refine lv_aloadV_n hx hb dX9_length_6 rfl (lv_at hl 0 rfl) ?_
  refine lv_ifnonnullV (tgt := 12) hx hb dX9_length_7 (by decide) (fun a7 c6 => ?_) (fun c6 => ?_)
  · subst c6
    replace hw := hw.2 a7 rfl
    refine lv_aload_n hx hb dX9_length_12 rfl (lv_at hl 0 rfl) ?_
    obtain ⟨o8, h9, hw⟩ := hw
    refine h_getRN C0 hW (host := RX9) (T := TX6) (kf := 0) in_X9_length_RX6 h9 rfl (by decide) (by decide +kernel) rfl dX9_length_13 ?_
    refine h_goi C0 hW (va_runS (As := [va_rf o8]) (rest := []) ⟨hx, hb, hml, ho, hts⟩ (k_X9_lengthOrNothing (l := l) (u := u) (X := X) (sz := H.size) _ o8 S  hw) (va_cwS 1 hts gX9_length_X9_lengthOrNothing rfl rfl rfl (by decide +kernel) ⟨Nat.le_of_ble_eq_true rfl, Nat.le_of_ble_eq_true rfl⟩) ⟨h_blind, (h_pre C0 hW [va_rf o8])⟩ rfl rfl hl.1 rfl (lv_room (Nat.le_of_ble_eq_true rfl)) dX9_length_16 ⟨Nat.le_refl _, Nat.le_refl _⟩) (fun r10 S11 H locs h12 hW => ?_)
    obtain ⟨h13, hp⟩ := h12
    rw [h13] at hW
    replace hw := hp
    exact hret r10 S _ _ 0 0 (Nat.le_refl _) (Nat.le_refl _) ⟨rfl, hw⟩ rfl dX9_length_19 _ _ _ hW hl
  · subst c6
    replace hw := hw.1 rfl
    refine lv_iconst (v := (-1)) hx hb dX9_length_10 (by decide) ?_
    exact hret (-1) S _ _ 0 0 (Nat.le_refl _) (Nat.le_refl _) ⟨rfl, hw⟩ rfl dX9_length_11 _ _ _ hW hl
set_option maxHeartbeats 4000000 in
set_option maxRecDepth 100000 in
theorem k_X9_length {l : Launch} {D : va_G} {u : hU} {X : va_W} {sz : Nat} (post : Int32 → Prop) (t0 : Nat) (z1 : Int32) (S : hS) (hw : w_X9_length u post t0 z1 S) : hMi l yX9_length wsX9_length rm_X9_length D (gt u.2.1) u.1 u.2.2 sz X S [.ref t0, .int z1] (fun r S' => S' = S ∧ post r) 0 0 := by
  refine hMi_of (cc := cX9_length) (nL := 3) (ty := .int) (own := RX9) (by decide) rfl rfl (Nat.le_of_ble_eq_true rfl) ?_
  intro p e s m args below meth c A Q C0 hin hret
  exact t_X9_length_0 C0 t0 post hret z1 hw
abbrev rm_X9_characterAt : Room := { frames := 4, cells := 0, slots := 0, locals := 85 }
theorem in_X9_characterAt_RX6 : ∀ w ∈ wsX60, w ∈ wsX9_characterAt := fun w hw9 => List.mem_cons_of_mem _ (List.mem_append_left _ (List.mem_append_left _ (List.mem_append_right _ hw9)))
set_option maxHeartbeats 4000000 in
set_option maxRecDepth 100000 in
theorem t_X9_characterAt_0 (C0 : hX p s m args c cX9_characterAt 5 RX9 wsX9_characterAt D (gt u.2.1) A u.1 u.2.2) {S : hS} (t0 : Nat) (post : Int32 → Prop) (hret : ∀ (r : Int32) (S' : hS) (pc : Nat) (lv : List (Nat × Value)) (k n : Nat), k ≤ 0 → n ≤ 0 → (S' = S ∧ post r) → narrow .int (.int r) = .int r → decode cX9_characterAt pc = .ok (.ireturn, 1) → gG p l e (rm_X9_characterAt) s m args below meth c Q D A 5 k n (hC X S') pc lv [.int r])  : ∀ (z1 : Int32) (z2 : Int32), w_X9_characterAt u post t0  z1 z2 S → gG p l e (rm_X9_characterAt) s m args below meth c Q D A 5 0 0 (hC X S) 0 [(0, .ref t0), (1, .int z1), (2, .int z2)] [] := by
  obtain ⟨⟨hx, hb, hml, ho, hts, hK, hA⟩, hR⟩ := id C0
  intro z1 z2 hw H locs ls hW hl
  rw [w_X9_characterAt] at hw
  refine lv_aload_n hx hb dX9_characterAt_0 rfl (lv_at hl 0 rfl) ?_
  refine lv_iload_n hx hb dX9_characterAt_1 rfl (lv_at hl 1 rfl) ?_
  obtain ⟨h2, hw⟩ := hw
  refine h_goq C0 hW (va_runV (As := [.int z1]) (rest := []) ⟨hx, hb, hml, ho, hts⟩ (k_X9_slotAt (l := l) (u := u) (X := X) (sz := H.size) _ t0 z1 S  hw) (cwV 1 hts gX9_characterAt_X9_slotAt rfl rfl rfl (by decide +kernel) ⟨Nat.le_of_ble_eq_true rfl, Nat.le_of_ble_eq_true rfl⟩) ⟨h_blind, (h_recv C0 hW (ci := 10) rfl h2), (h_pre C0 hW [.ref t0, .int z1])⟩ rfl rfl hl.1 rfl (lv_room (Nat.le_of_ble_eq_true rfl)) dX9_characterAt_2 ⟨Nat.le_refl _, Nat.le_refl _⟩) (fun r1 S3 H locs h4 hW => ?_)
  obtain ⟨h5, hp⟩ := h4
  rw [h5] at hW
  replace hw := hp
  refine lv_astoreV_n (i := 3) (lv' := [(3, va_rf r1), (0, .ref t0), (1, .int z1), (2, .int z2)]) hx hb dX9_characterAt_5 rfl hl (by decide) rfl (fun ls hl9 => ?_)
  replace hl := hl9
  refine lv_aloadV_n hx hb dX9_characterAt_6 rfl (lv_at hl 0 rfl) ?_
  refine lv_ifnonnullV (tgt := 12) hx hb dX9_characterAt_7 (by decide) (fun a7 c6 => ?_) (fun c6 => ?_)
  · subst c6
    replace hw := hw.2 a7 rfl
    refine lv_aload_n hx hb dX9_characterAt_12 rfl (lv_at hl 0 rfl) ?_
    obtain ⟨o8, h9, hw⟩ := hw
    refine h_getRN C0 hW (host := RX9) (T := TX6) (kf := 0) in_X9_characterAt_RX6 h9 rfl (by decide) (by decide +kernel) rfl dX9_characterAt_13 ?_
    refine lv_astoreV (i := 4) (lv' := [(4, va_rf o8), (3, .ref a7), (0, .ref t0), (1, .int z1), (2, .int z2)]) hx hb dX9_characterAt_16 hl (by decide) rfl (fun ls hl9 => ?_)
    replace hl := hl9
    refine lv_aloadV hx hb dX9_characterAt_18 (lv_at hl 0 rfl) ?_
    refine lv_ifnonnullV (tgt := 26) hx hb dX9_characterAt_20 (by decide) (fun a11 c10 => ?_) (fun c10 => ?_)
    · subst c10
      replace hw := hw.2 a11 rfl
      refine lv_iload_n hx hb dX9_characterAt_26 rfl (lv_at hl 4 rfl) ?_
      refine lv_if_lt (tgt := 39) hx hb dX9_characterAt_27 (by decide) (fun c12 => ?_) (fun c12 => ?_)
      · replace hw := hw.1 c12
        refine lv_bipush (v := (-5)) hx hb dX9_characterAt_39 (by decide) ?_
        exact hret (-5) S _ _ 0 0 (Nat.le_refl _) (Nat.le_refl _) ⟨rfl, hw⟩ rfl dX9_characterAt_41 _ _ _ hW hl
      · replace hw := hw.2 c12
        refine lv_iload_n hx hb dX9_characterAt_30 rfl (lv_at hl 4 rfl) ?_
        refine lv_aload hx hb dX9_characterAt_31 (lv_at hl 0 rfl) ?_
        obtain ⟨h14, hw⟩ := hw
        refine h_goi C0 hW (va_runV (As := []) (rest := [.int z2]) ⟨hx, hb, hml, ho, hts⟩ (k_J0_length_8a (l := l) (u := u) (X := X) (sz := H.size) _ a11  S  hw) (cwV 0 hts gX9_characterAt_J0_length_8abf5 rfl rfl rfl (by decide +kernel) ⟨Nat.le_of_ble_eq_true rfl, Nat.le_of_ble_eq_true rfl⟩) ⟨h_blind, (h_recvS C0 hW h14), (h_pre C0 hW [.ref a11])⟩ rfl rfl hl.1 rfl (lv_room (Nat.le_of_ble_eq_true rfl)) dX9_characterAt_33 ⟨Nat.le_refl _, Nat.le_refl _⟩) (fun r13 S15 H locs h16 hW => ?_)
        obtain ⟨h17, hp⟩ := h16
        rw [h17] at hW
        replace hw := hp
        refine lv_icmp_lt (tgt := 42) hx hb dX9_characterAt_36 (by decide) (fun c18 => ?_) (fun c18 => ?_)
        · replace hw := hw.1 c18
          refine lv_aload hx hb dX9_characterAt_42 (lv_at hl 0 rfl) ?_
          refine lv_iload_n hx hb dX9_characterAt_44 rfl (lv_at hl 4 rfl) ?_
          obtain ⟨h20, hw⟩ := hw
          refine h_goi C0 hW (va_runV (As := [.int z2]) (rest := []) ⟨hx, hb, hml, ho, hts⟩ (k_J0_charAt_50 (l := l) (u := u) (X := X) (sz := H.size) _ a11 z2 S  hw) (cwV 1 hts gX9_characterAt_J0_charAt_5068e rfl rfl rfl (by decide +kernel) ⟨Nat.le_of_ble_eq_true rfl, Nat.le_of_ble_eq_true rfl⟩) ⟨h_blind, (h_recvS C0 hW h20), (h_pre C0 hW [.ref a11, .int z2])⟩ rfl rfl hl.1 rfl (lv_room (Nat.le_of_ble_eq_true rfl)) dX9_characterAt_45 ⟨Nat.le_refl _, Nat.le_refl _⟩) (fun r19 S21 H locs h22 hW => ?_)
          obtain ⟨h23, hp⟩ := h22
          rw [h23] at hW
          replace hw := hp
          exact hret r19 S _ _ 0 0 (Nat.le_refl _) (Nat.le_refl _) ⟨rfl, hw⟩ rfl dX9_characterAt_48 _ _ _ hW hl
        · replace hw := hw.2 c18
          refine lv_bipush (v := (-5)) hx hb dX9_characterAt_39 (by decide) ?_
          exact hret (-5) S _ _ 0 0 (Nat.le_refl _) (Nat.le_refl _) ⟨rfl, hw⟩ rfl dX9_characterAt_41 _ _ _ hW hl
    · subst c10
      replace hw := hw.1 rfl
      refine lv_bipush (v := (-2)) hx hb dX9_characterAt_23 (by decide) ?_
      exact hret (-2) S _ _ 0 0 (Nat.le_refl _) (Nat.le_refl _) ⟨rfl, hw⟩ rfl dX9_characterAt_25 _ _ _ hW hl
  · subst c6
    replace hw := hw.1 rfl
    refine lv_iconst (v := (-1)) hx hb dX9_characterAt_10 (by decide) ?_
    exact hret (-1) S _ _ 0 0 (Nat.le_refl _) (Nat.le_refl _) ⟨rfl, hw⟩ rfl dX9_characterAt_11 _ _ _ hW hl
set_option maxHeartbeats 4000000 in
set_option maxRecDepth 100000 in
theorem k_X9_characterAt {l : Launch} {D : va_G} {u : hU} {X : va_W} {sz : Nat} (post : Int32 → Prop) (t0 : Nat) (z1 : Int32) (z2 : Int32) (S : hS) (hw : w_X9_characterAt u post t0 z1 z2 S) : hMi l yX9_characterAt wsX9_characterAt rm_X9_characterAt D (gt u.2.1) u.1 u.2.2 sz X S [.ref t0, .int z1, .int z2] (fun r S' => S' = S ∧ post r) 0 0 := by
  refine hMi_of (cc := cX9_characterAt) (nL := 5) (ty := .int) (own := RX9) (by decide) rfl rfl (Nat.le_of_ble_eq_true rfl) ?_
  intro p e s m args below meth c A Q C0 hin hret
  exact t_X9_characterAt_0 C0 t0 post hret z1 z2 hw
abbrev rm_X9_same : Room := { frames := 2, cells := 0, slots := 0, locals := 44 }
theorem in_X9_same_RX6 : ∀ w ∈ wsX60, w ∈ wsX9_same := fun w hw9 => List.mem_cons_of_mem _ (List.mem_append_left _ (List.mem_append_left _ (List.mem_append_right _ hw9)))
set_option maxHeartbeats 4000000 in
set_option maxRecDepth 100000 in
theorem t_X9_same_39 (C0 : hX p s m args c cX9_same 5 RX9 wsX9_same D (gt u.2.1) A u.1 u.2.2) {S : hS} (t0 : Nat) (post : Int32 → Prop) (hret : ∀ (r : Int32) (S' : hS) (pc : Nat) (lv : List (Nat × Value)) (k n : Nat), k ≤ 0 → n ≤ 0 → (S' = S ∧ post r) → narrow .int (.int r) = .int r → decode cX9_same pc = .ok (.ireturn, 1) → gG p l e (rm_X9_same) s m args below meth c Q D A 5 k n (hC X S') pc lv [.int r])  : ∀ (x3 : Nat) (x4 : Nat), w_X9_same_39 u post t0  x3 x4 S → gG p l e (rm_X9_same) s m args below meth c Q D A 5 0 0 (hC X S) 39 [(0, .ref t0), (3, .ref x3), (4, .ref x4)] [] := by
  obtain ⟨⟨hx, hb, hml, ho, hts, hK, hA⟩, hR⟩ := id C0
  intro x3 x4 hw H locs ls hW hl
  rw [w_X9_same_39] at hw
  refine lv_aload_n hx hb dX9_same_39 rfl (lv_at hl 1 rfl) ?_
  obtain ⟨o34, h35, hw⟩ := hw
  refine h_getRN C0 hW (host := RX9) (T := TX6) (kf := 0) in_X9_same_RX6 h35 rfl (by decide) (by decide +kernel) rfl dX9_same_40 ?_
  refine lv_ifnonnullV (tgt := 58) hx hb dX9_same_43 (by decide) (fun a37 c36 => ?_) (fun c36 => ?_)
  · subst c36
    replace hw := hw.2 a37 rfl
    refine lv_iconst (v := 0) hx hb dX9_same_58 (by decide) ?_
    exact hret 0 S _ _ 0 0 (Nat.le_refl _) (Nat.le_refl _) ⟨rfl, hw⟩ rfl dX9_same_59 _ _ _ hW hl
  · subst c36
    replace hw := hw.1 rfl
    refine lv_aload hx hb dX9_same_46 (lv_at hl 2 rfl) ?_
    obtain ⟨o38, h39, hw⟩ := hw
    refine h_getRN C0 hW (host := RX9) (T := TX6) (kf := 0) in_X9_same_RX6 h39 rfl (by decide) (by decide +kernel) rfl dX9_same_48 ?_
    refine lv_ifnonnullV (tgt := 58) hx hb dX9_same_51 (by decide) (fun a41 c40 => ?_) (fun c40 => ?_)
    · subst c40
      replace hw := hw.2 a41 rfl
      refine lv_iconst (v := 0) hx hb dX9_same_58 (by decide) ?_
      exact hret 0 S _ _ 0 0 (Nat.le_refl _) (Nat.le_refl _) ⟨rfl, hw⟩ rfl dX9_same_59 _ _ _ hW hl
    · subst c40
      replace hw := hw.1 rfl
      refine lv_iconst (v := 1) hx hb dX9_same_54 (by decide) ?_
      refine lv_goto (tgt := 59) hx hb dX9_same_55 (by decide) ?_
      exact hret 1 S _ _ 0 0 (Nat.le_refl _) (Nat.le_refl _) ⟨rfl, hw⟩ rfl dX9_same_59 _ _ _ hW hl
set_option maxHeartbeats 4000000 in
set_option maxRecDepth 100000 in
theorem t_X9_same_0 (C0 : hX p s m args c cX9_same 5 RX9 wsX9_same D (gt u.2.1) A u.1 u.2.2) {S : hS} (t0 : Nat) (post : Int32 → Prop) (hret : ∀ (r : Int32) (S' : hS) (pc : Nat) (lv : List (Nat × Value)) (k n : Nat), k ≤ 0 → n ≤ 0 → (S' = S ∧ post r) → narrow .int (.int r) = .int r → decode cX9_same pc = .ok (.ireturn, 1) → gG p l e (rm_X9_same) s m args below meth c Q D A 5 k n (hC X S') pc lv [.int r])  : ∀ (z1 : Int32) (z2 : Int32), w_X9_same u post t0  z1 z2 S → gG p l e (rm_X9_same) s m args below meth c Q D A 5 0 0 (hC X S) 0 [(0, .ref t0), (1, .int z1), (2, .int z2)] [] := by
  obtain ⟨⟨hx, hb, hml, ho, hts, hK, hA⟩, hR⟩ := id C0
  intro z1 z2 hw H locs ls hW hl
  rw [w_X9_same] at hw
  refine lv_aload_n hx hb dX9_same_0 rfl (lv_at hl 0 rfl) ?_
  refine lv_iload_n hx hb dX9_same_1 rfl (lv_at hl 1 rfl) ?_
  obtain ⟨h2, hw⟩ := hw
  refine h_goq C0 hW (va_runV (As := [.int z1]) (rest := []) ⟨hx, hb, hml, ho, hts⟩ (k_X9_slotAt (l := l) (u := u) (X := X) (sz := H.size) _ t0 z1 S  hw) (cwV 1 hts gX9_same_X9_slotAt rfl rfl rfl (by decide +kernel) ⟨Nat.le_of_ble_eq_true rfl, Nat.le_of_ble_eq_true rfl⟩) ⟨h_blind, (h_recv C0 hW (ci := 10) rfl h2), (h_pre C0 hW [.ref t0, .int z1])⟩ rfl rfl hl.1 rfl (lv_room (Nat.le_of_ble_eq_true rfl)) dX9_same_2 ⟨Nat.le_refl _, Nat.le_refl _⟩) (fun r1 S3 H locs h4 hW => ?_)
  obtain ⟨h5, hp⟩ := h4
  rw [h5] at hW
  replace hw := hp
  refine lv_astoreV_n (i := 3) (lv' := [(3, va_rf r1), (0, .ref t0), (1, .int z1), (2, .int z2)]) hx hb dX9_same_5 rfl hl (by decide) rfl (fun ls hl9 => ?_)
  replace hl := hl9
  refine lv_aload_n hx hb dX9_same_6 rfl (lv_at hl 1 rfl) ?_
  refine lv_iload_n hx hb dX9_same_7 rfl (lv_at hl 3 rfl) ?_
  obtain ⟨h7, hw⟩ := hw
  refine h_goq C0 hW (va_runV (As := [.int z2]) (rest := []) ⟨hx, hb, hml, ho, hts⟩ (k_X9_slotAt (l := l) (u := u) (X := X) (sz := H.size) _ t0 z2 S  hw) (cwV 1 hts gX9_same_X9_slotAt rfl rfl rfl (by decide +kernel) ⟨Nat.le_of_ble_eq_true rfl, Nat.le_of_ble_eq_true rfl⟩) ⟨h_blind, (h_recv C0 hW (ci := 10) rfl h7), (h_pre C0 hW [.ref t0, .int z2])⟩ rfl rfl hl.1 rfl (lv_room (Nat.le_of_ble_eq_true rfl)) dX9_same_8 ⟨Nat.le_refl _, Nat.le_refl _⟩) (fun r6 S8 H locs h9 hW => ?_)
  obtain ⟨h10, hp⟩ := h9
  rw [h10] at hW
  replace hw := hp
  refine lv_astoreV (i := 4) (lv' := [(4, va_rf r6), (3, va_rf r1), (0, .ref t0), (1, .int z1), (2, .int z2)]) hx hb dX9_same_11 hl (by decide) (by show (4, va_rf r6) :: List.filter (fun q : Nat × Value => !(q.1 == 4) && !(q.1 + 1 == 4 && q.2.category == 2)) [(3, va_rf r1), (0, .ref t0), (1, .int z1), (2, .int z2)] = [(4, va_rf r6), (3, va_rf r1), (0, .ref t0), (1, .int z1), (2, .int z2)]; simp [va_rf_cat, va_c_ref, va_c_int, va_c_null]) (fun ls hl9 => ?_)
  replace hl := hl9
  refine lv_aloadV_n hx hb dX9_same_13 rfl (lv_at hl 1 rfl) ?_
  refine lv_ifnullV (tgt := 22) hx hb dX9_same_14 (by decide) (fun c11 => ?_) (fun a12 c11 => ?_)
  · subst c11
    replace hw := hw.1 rfl
    refine lv_iconst (v := (-1)) hx hb dX9_same_22 (by decide) ?_
    exact hret (-1) S _ _ 0 0 (Nat.le_refl _) (Nat.le_refl _) ⟨rfl, hw⟩ rfl dX9_same_23 _ _ _ hW hl
  · subst c11
    replace hw := hw.2 a12 rfl
    refine lv_aloadV hx hb dX9_same_17 (lv_at hl 0 rfl) ?_
    refine lv_ifnonnullV (tgt := 24) hx hb dX9_same_19 (by decide) (fun a14 c13 => ?_) (fun c13 => ?_)
    · subst c13
      replace hw := hw.2 a14 rfl
      refine lv_aload_n hx hb dX9_same_24 rfl (lv_at hl 1 rfl) ?_
      obtain ⟨o15, h16, hw⟩ := hw
      refine h_getRN C0 hW (host := RX9) (T := TX6) (kf := 0) in_X9_same_RX6 h16 rfl (by decide) (by decide +kernel) rfl dX9_same_25 ?_
      refine lv_ifnullV (tgt := 39) hx hb dX9_same_28 (by decide) (fun c17 => ?_) (fun a18 c17 => ?_)
      · subst c17
        replace hw := hw.1 rfl
        exact t_X9_same_39 C0 t0 post hret  a12 a14   hw _ _ _ hW (lv_sub hl [2, 1, 0] rfl)
      · subst c17
        replace hw := hw.2 a18 rfl
        refine lv_aload hx hb dX9_same_31 (lv_at hl 0 rfl) ?_
        obtain ⟨o19, h20, hw⟩ := hw
        refine h_getRN C0 hW (host := RX9) (T := TX6) (kf := 0) in_X9_same_RX6 h20 rfl (by decide) (by decide +kernel) rfl dX9_same_33 ?_
        refine lv_ifnonnullV (tgt := 60) hx hb dX9_same_36 (by decide) (fun a22 c21 => ?_) (fun c21 => ?_)
        · subst c21
          replace hw := hw.2 a22 rfl
          refine lv_aload_n hx hb dX9_same_60 rfl (lv_at hl 1 rfl) ?_
          obtain ⟨o23, h24, hw⟩ := hw
          refine h_getRN C0 hW (host := RX9) (T := TX6) (kf := 0) in_X9_same_RX6 h24 rfl (by decide) (by decide +kernel) rfl dX9_same_61 ?_
          refine lv_aload hx hb dX9_same_64 (lv_at hl 0 rfl) ?_
          obtain ⟨o25, h26, hw⟩ := hw
          refine h_getRN C0 hW (host := RX9) (T := TX6) (kf := 0) in_X9_same_RX6 h26 rfl (by decide) (by decide +kernel) rfl dX9_same_66 ?_
          obtain ⟨a27, rfl, hw⟩ := hw
          obtain ⟨h29, hw⟩ := hw
          refine h_goi C0 hW (va_runV (As := [va_rf o25]) (rest := []) ⟨hx, hb, hml, ho, hts⟩ (k_J0_equals_9e (l := l) (u := u) (X := X) (sz := H.size) _ a27 o25 S  hw) (cwV 1 hts gX9_same_J0_equals_9ea2d rfl rfl rfl (by decide +kernel) ⟨Nat.le_of_ble_eq_true rfl, Nat.le_of_ble_eq_true rfl⟩) ⟨h_blind, (h_recvS C0 hW h29), (h_pre C0 hW [.ref a27, va_rf o25])⟩ rfl rfl hl.1 rfl (lv_room (Nat.le_of_ble_eq_true rfl)) dX9_same_69 ⟨Nat.le_refl _, Nat.le_refl _⟩) (fun r28 S30 H locs h31 hW => ?_)
          obtain ⟨h32, hp⟩ := h31
          rw [h32] at hW
          replace hw := hp
          refine lv_if_eq (tgt := 79) hx hb dX9_same_72 (by decide) (fun c33 => ?_) (fun c33 => ?_)
          · replace hw := hw.1 c33
            refine lv_iconst (v := 0) hx hb dX9_same_79 (by decide) ?_
            exact hret 0 S _ _ 0 0 (Nat.le_refl _) (Nat.le_refl _) ⟨rfl, hw⟩ rfl dX9_same_80 _ _ _ hW hl
          · replace hw := hw.2 c33
            refine lv_iconst (v := 1) hx hb dX9_same_75 (by decide) ?_
            refine lv_goto (tgt := 80) hx hb dX9_same_76 (by decide) ?_
            exact hret 1 S _ _ 0 0 (Nat.le_refl _) (Nat.le_refl _) ⟨rfl, hw⟩ rfl dX9_same_80 _ _ _ hW hl
        · subst c21
          replace hw := hw.1 rfl
          exact t_X9_same_39 C0 t0 post hret  a12 a14   hw _ _ _ hW (lv_sub hl [2, 1, 0] rfl)
    · subst c13
      replace hw := hw.1 rfl
      refine lv_iconst (v := (-1)) hx hb dX9_same_22 (by decide) ?_
      exact hret (-1) S _ _ 0 0 (Nat.le_refl _) (Nat.le_refl _) ⟨rfl, hw⟩ rfl dX9_same_23 _ _ _ hW hl
set_option maxHeartbeats 4000000 in
set_option maxRecDepth 100000 in
theorem k_X9_same {l : Launch} {D : va_G} {u : hU} {X : va_W} {sz : Nat} (post : Int32 → Prop) (t0 : Nat) (z1 : Int32) (z2 : Int32) (S : hS) (hw : w_X9_same u post t0 z1 z2 S) : hMi l yX9_same wsX9_same rm_X9_same D (gt u.2.1) u.1 u.2.2 sz X S [.ref t0, .int z1, .int z2] (fun r S' => S' = S ∧ post r) 0 0 := by
  refine hMi_of (cc := cX9_same) (nL := 5) (ty := .int) (own := RX9) (by decide) rfl rfl (Nat.le_of_ble_eq_true rfl) ?_
  intro p e s m args below meth c A Q C0 hin hret
  exact t_X9_same_0 C0 t0 post hret z1 z2 hw
abbrev rm_X9_isTyped : Room := { frames := 1, cells := 0, slots := 0, locals := 20 }
set_option maxHeartbeats 4000000 in
set_option maxRecDepth 100000 in
theorem k_X9_isTyped {l : Launch} (post : Int32 → Prop) (z1 : Int32) (hw : q_X9_isTyped post z1) : gMs l yX9_isTyped wsX9_isTyped rm_X9_isTyped [.int z1] post := by
  refine gMs_of (cc := cX9_isTyped) (nL := 1) (ty := .boolean) (own := RX9) (by decide) rfl rfl (Nat.le_of_ble_eq_true rfl) ?_
  intro p e s m args below meth c Q hx hb hml ho hts hret ls hl
  rw [q_X9_isTyped] at hw
  refine lv_iload_n hx hb dX9_isTyped_0 rfl (lv_at hl 0 rfl) ?_
  refine lv_bipush (v := 9) hx hb dX9_isTyped_1 (by decide) ?_
  refine lv_icmp_eq (tgt := 25) hx hb dX9_isTyped_3 (by decide) (fun c1 => ?_) (fun c1 => ?_)
  · replace hw := hw.1 c1
    refine lv_iconst (v := 1) hx hb dX9_isTyped_25 (by decide) ?_
    refine lv_goto (tgt := 30) hx hb dX9_isTyped_26 (by decide) ?_
    exact hret 1 _ _ hw (by decide) dX9_isTyped_30
  · replace hw := hw.2 c1
    refine lv_iload_n hx hb dX9_isTyped_6 rfl (lv_at hl 0 rfl) ?_
    refine lv_bipush (v := 10) hx hb dX9_isTyped_7 (by decide) ?_
    refine lv_icmp_eq (tgt := 25) hx hb dX9_isTyped_9 (by decide) (fun c2 => ?_) (fun c2 => ?_)
    · replace hw := hw.1 c2
      refine lv_iconst (v := 1) hx hb dX9_isTyped_25 (by decide) ?_
      refine lv_goto (tgt := 30) hx hb dX9_isTyped_26 (by decide) ?_
      exact hret 1 _ _ hw (by decide) dX9_isTyped_30
    · replace hw := hw.2 c2
      refine lv_iload_n hx hb dX9_isTyped_12 rfl (lv_at hl 0 rfl) ?_
      refine lv_bipush (v := 13) hx hb dX9_isTyped_13 (by decide) ?_
      refine lv_icmp_eq (tgt := 25) hx hb dX9_isTyped_15 (by decide) (fun c3 => ?_) (fun c3 => ?_)
      · replace hw := hw.1 c3
        refine lv_iconst (v := 1) hx hb dX9_isTyped_25 (by decide) ?_
        refine lv_goto (tgt := 30) hx hb dX9_isTyped_26 (by decide) ?_
        exact hret 1 _ _ hw (by decide) dX9_isTyped_30
      · replace hw := hw.2 c3
        refine lv_iload_n hx hb dX9_isTyped_18 rfl (lv_at hl 0 rfl) ?_
        refine g_calls (As := [.int z1]) (rest := []) ⟨hx, hb, hml, ho, hts⟩ hl.1 (k_X9_isPrinted (l := l) _ z1 hw) (va_cwS 1 hts gX9_isTyped_X9_isPrinted rfl rfl rfl (by decide +kernel) ⟨Nat.le_of_ble_eq_true rfl, Nat.le_of_ble_eq_true rfl⟩) (Nat.le_of_ble_eq_true rfl) dX9_isTyped_19 rfl ⟨Nat.le_refl _, Nat.le_refl _⟩ (fun r4 hp => ?_)
        replace hw := hp
        refine lv_if_eq (tgt := 29) hx hb dX9_isTyped_22 (by decide) (fun c5 => ?_) (fun c5 => ?_)
        · replace hw := hw.1 c5
          refine lv_iconst (v := 0) hx hb dX9_isTyped_29 (by decide) ?_
          exact hret 0 _ _ hw (by decide) dX9_isTyped_30
        · replace hw := hw.2 c5
          refine lv_iconst (v := 1) hx hb dX9_isTyped_25 (by decide) ?_
          refine lv_goto (tgt := 30) hx hb dX9_isTyped_26 (by decide) ?_
          exact hret 1 _ _ hw (by decide) dX9_isTyped_30
abbrev rm_X9_type (MC MS : Nat) : Room := { frames := 6, cells := MC, slots := MS, locals := 126 }
theorem in_X9_type_RX7 : ∀ w ∈ wsX70, w ∈ wsX9_type := fun w hw9 => List.mem_cons_of_mem _ (List.mem_append_left _ (List.mem_append_right _ hw9))
theorem in_X9_type_RX9 : ∀ w ∈ wsX90, w ∈ wsX9_type := fun w hw9 => List.mem_cons_of_mem _ (List.mem_append_left _ (List.mem_append_left _ (List.mem_append_right _ hw9)))
set_option maxHeartbeats 4000000 in
set_option maxRecDepth 100000 in
theorem t_X9_type_0 (C0 : hX p s m args c cX9_type 2 RX9 wsX9_type D (gt u.2.1) A u.1 u.2.2) (t0 : Nat) (post : Int32 → hS → Prop) (hret : ∀ (r : Int32) (S' : hS) (pc : Nat) (lv : List (Nat × Value)) (k n : Nat), k ≤ MC → n ≤ MS → post r S' → narrow .int (.int r) = .int r → decode cX9_type pc = .ok (.ireturn, 1) → gG p l e (rm_X9_type MC MS) s m args below meth c Q D A 2 k n (hC X S') pc lv [.int r])  : ∀ (z1 : Int32) (S : hS) (mc ms k n : Nat), k + mc ≤ MC ∧ n + ms ≤ MS → w_X9_type u post t0  z1 S mc ms → gG p l e (rm_X9_type MC MS) s m args below meth c Q D A 2 k n (hC X S) 0 [(0, .ref t0), (1, .int z1)] [] := by
  obtain ⟨⟨hx, hb, hml, ho, hts, hK, hA⟩, hR⟩ := id C0
  intro z1 S mc ms k n hkn hw H locs ls hW hl
  rw [w_X9_type] at hw
  refine lv_iload_n hx hb dX9_type_0 rfl (lv_at hl 1 rfl) ?_
  refine g_calls (As := [.int z1]) (rest := []) ⟨hx, hb, hml, ho, hts⟩ hl.1 (k_X9_isTyped (l := l) _ z1 hw) (va_cwS 1 hts gX9_type_X9_isTyped rfl rfl rfl (by decide +kernel) ⟨Nat.le_of_ble_eq_true rfl, Nat.le_of_ble_eq_true rfl⟩) (Nat.le_of_ble_eq_true rfl) dX9_type_1 rfl ⟨by show _ ≤ MC; omega, by show _ ≤ MS; omega⟩ (fun r1 hp => ?_)
  replace hw := hp
  refine lv_if_ne (tgt := 9) hx hb dX9_type_4 (by decide) (fun c2 => ?_) (fun c2 => ?_)
  · replace hw := hw.1 c2
    refine lv_aload_n hx hb dX9_type_9 rfl (lv_at hl 0 rfl) ?_
    obtain ⟨o3, h4, hw⟩ := hw
    refine h_getR C0 hW (T := TX9) (kf := 1) in_X9_type_RX9 h4 rfl (by decide) (List.mem_of_getElem? (i := 1) rfl) rfl dX9_type_10 ?_
    obtain ⟨a5, rfl, hw⟩ := hw
    obtain ⟨o6, h7, hw⟩ := hw
    refine h_getRN C0 hW (host := RX9) (T := TX7) (kf := 0) in_X9_type_RX7 h7 rfl (by decide) (by decide +kernel) rfl dX9_type_13 ?_
    obtain ⟨a8, rfl, hw⟩ := hw
    obtain ⟨h10, hw⟩ := hw
    refine h_goi C0 hW (va_runV (As := []) (rest := []) ⟨hx, hb, hml, ho, hts⟩ (k_J4_length_8a (l := l) (u := u) (X := X) (sz := H.size) _ a8  S  hw) (cwV 0 hts gX9_type_J4_length_8abf5 rfl rfl rfl (by decide +kernel) ⟨Nat.le_of_ble_eq_true rfl, Nat.le_of_ble_eq_true rfl⟩) ⟨h_blind, (h_recv C0 hW (ci := 1) rfl h10), (h_pre C0 hW [.ref a8])⟩ rfl rfl hl.1 rfl (lv_room (Nat.le_of_ble_eq_true rfl)) dX9_type_16 ⟨by show _ ≤ MC; omega, by show _ ≤ MS; omega⟩) (fun r9 S11 H locs h12 hW => ?_)
    obtain ⟨h13, hp⟩ := h12
    rw [h13] at hW
    replace hw := hp
    refine lv_sipush (v := 300) hx hb dX9_type_19 (by decide) ?_
    refine lv_icmp_lt (tgt := 28) hx hb dX9_type_22 (by decide) (fun c14 => ?_) (fun c14 => ?_)
    · replace hw := hw.1 c14
      refine lv_aload_n hx hb dX9_type_28 rfl (lv_at hl 0 rfl) ?_
      obtain ⟨o15, h16, hw⟩ := hw
      refine h_getR C0 hW (T := TX9) (kf := 1) in_X9_type_RX9 h16 rfl (by decide) (List.mem_of_getElem? (i := 1) rfl) rfl dX9_type_29 ?_
      obtain ⟨a17, rfl, hw⟩ := hw
      obtain ⟨o18, h19, hw⟩ := hw
      refine h_getRN C0 hW (host := RX9) (T := TX7) (kf := 0) in_X9_type_RX7 h19 rfl (by decide) (by decide +kernel) rfl dX9_type_32 ?_
      refine lv_iload_n hx hb dX9_type_35 rfl (lv_at hl 1 rfl) ?_
      refine lv_i2c hx hb dX9_type_36 rfl ?_
      obtain ⟨a20, rfl, hw⟩ := hw
      obtain ⟨h26, k22, n23, h24, h25, hw⟩ := hw
      refine h_goq C0 hW (va_runV (As := [.int ((z1 : Int32).toUInt32 % 65536).toInt32]) (rest := []) ⟨hx, hb, hml, ho, hts⟩ (k_J4_append_cf (l := l) (u := u) (X := X) (sz := H.size) _ a20 ((z1 : Int32).toUInt32 % 65536).toInt32 S k22 n23 hw) (cwV 1 hts gX9_type_J4_append_cf468 rfl rfl rfl (by decide +kernel) ⟨Nat.le_of_ble_eq_true rfl, Nat.le_of_ble_eq_true rfl⟩) ⟨h_blind, (h_recv C0 hW (ci := 1) rfl h26), (h_pre C0 hW [.ref a20, .int ((z1 : Int32).toUInt32 % 65536).toInt32])⟩ rfl rfl hl.1 rfl (lv_room (Nat.le_of_ble_eq_true rfl)) dX9_type_37 ⟨by show _ ≤ MC; omega, by show _ ≤ MS; omega⟩) (fun r21 S27 H locs h28 hW => ?_)
      replace hw := h28
      have hkn : (k + k22) + (mc - k22) ≤ MC ∧ (n + n23) + (ms - n23) ≤ MS := by omega
      refine lv_pop hx hb dX9_type_40 (va_rf_cat _) ?_
      refine lv_aload_n hx hb dX9_type_41 rfl (lv_at hl 0 rfl) ?_
      obtain ⟨o29, h30, hw⟩ := hw
      refine h_getR C0 hW (T := TX9) (kf := 1) in_X9_type_RX9 h30 rfl (by decide) (List.mem_of_getElem? (i := 1) rfl) rfl dX9_type_42 ?_
      obtain ⟨a31, rfl, hw⟩ := hw
      obtain ⟨o32, h33, hw⟩ := hw
      refine h_getRN C0 hW (host := RX9) (T := TX7) (kf := 0) in_X9_type_RX7 h33 rfl (by decide) (by decide +kernel) rfl dX9_type_45 ?_
      obtain ⟨a34, rfl, hw⟩ := hw
      obtain ⟨h36, hw⟩ := hw
      refine h_goi C0 hW (va_runV (As := []) (rest := []) ⟨hx, hb, hml, ho, hts⟩ (k_J4_length_8a (l := l) (u := u) (X := X) (sz := H.size) _ a34  S27  hw) (cwV 0 hts gX9_type_J4_length_8abf5 rfl rfl rfl (by decide +kernel) ⟨Nat.le_of_ble_eq_true rfl, Nat.le_of_ble_eq_true rfl⟩) ⟨h_blind, (h_recv C0 hW (ci := 1) rfl h36), (h_pre C0 hW [.ref a34])⟩ rfl rfl hl.1 rfl (lv_room (Nat.le_of_ble_eq_true rfl)) dX9_type_48 ⟨by show _ ≤ MC; omega, by show _ ≤ MS; omega⟩) (fun r35 S37 H locs h38 hW => ?_)
      obtain ⟨h39, hp⟩ := h38
      rw [h39] at hW
      replace hw := hp
      exact hret r35 S27 _ _ _ _ (by omega) (by omega) hw rfl dX9_type_51 _ _ _ hW hl
    · replace hw := hw.2 c14
      refine lv_bipush (v := (-3)) hx hb dX9_type_25 (by decide) ?_
      exact hret (-3) S _ _ _ _ (by omega) (by omega) hw rfl dX9_type_27 _ _ _ hW hl
  · replace hw := hw.2 c2
    refine lv_iconst (v := (-1)) hx hb dX9_type_7 (by decide) ?_
    exact hret (-1) S _ _ _ _ (by omega) (by omega) hw rfl dX9_type_8 _ _ _ hW hl
set_option maxHeartbeats 4000000 in
set_option maxRecDepth 100000 in
theorem k_X9_type {l : Launch} {D : va_G} {u : hU} {X : va_W} {sz : Nat} (post : Int32 → hS → Prop) (t0 : Nat) (z1 : Int32) (S : hS) (mc ms : Nat) (hw : w_X9_type u post t0 z1 S mc ms) : hMi l yX9_type wsX9_type (rm_X9_type mc ms) D (gt u.2.1) u.1 u.2.2 sz X S [.ref t0, .int z1] post mc ms := by
  refine hMi_of (cc := cX9_type) (nL := 2) (ty := .int) (own := RX9) (by decide) rfl rfl (Nat.le_of_ble_eq_true rfl) ?_
  intro p e s m args below meth c A Q C0 hin hret
  exact t_X9_type_0 C0 t0 post hret z1 S mc ms 0 0 ⟨by omega, by omega⟩ hw
abbrev rm_X9_tapeLength : Room := { frames := 2, cells := 0, slots := 0, locals := 40 }
theorem in_X9_tapeLength_RX7 : ∀ w ∈ wsX70, w ∈ wsX9_tapeLength := fun w hw9 => List.mem_cons_of_mem _ (List.mem_append_left _ (List.mem_append_right _ hw9))
theorem in_X9_tapeLength_RX9 : ∀ w ∈ wsX90, w ∈ wsX9_tapeLength := fun w hw9 => List.mem_cons_of_mem _ (List.mem_append_left _ (List.mem_append_left _ (List.mem_append_right _ hw9)))
set_option maxHeartbeats 4000000 in
set_option maxRecDepth 100000 in
theorem t_X9_tapeLength_0 (C0 : hX p s m args c cX9_tapeLength 1 RX9 wsX9_tapeLength D (gt u.2.1) A u.1 u.2.2) {S : hS} (t0 : Nat) (post : Int32 → Prop) (hret : ∀ (r : Int32) (S' : hS) (pc : Nat) (lv : List (Nat × Value)) (k n : Nat), k ≤ 0 → n ≤ 0 → (S' = S ∧ post r) → narrow .int (.int r) = .int r → decode cX9_tapeLength pc = .ok (.ireturn, 1) → gG p l e (rm_X9_tapeLength) s m args below meth c Q D A 1 k n (hC X S') pc lv [.int r])  : w_X9_tapeLength u post t0   S → gG p l e (rm_X9_tapeLength) s m args below meth c Q D A 1 0 0 (hC X S) 0 [(0, .ref t0)] [] := by
  obtain ⟨⟨hx, hb, hml, ho, hts, hK, hA⟩, hR⟩ := id C0
  intro  hw H locs ls hW hl
  rw [w_X9_tapeLength] at hw
  refine lv_aload_n hx hb dX9_tapeLength_0 rfl (lv_at hl 0 rfl) ?_
  obtain ⟨o1, h2, hw⟩ := hw
  refine h_getR C0 hW (T := TX9) (kf := 1) in_X9_tapeLength_RX9 h2 rfl (by decide) (List.mem_of_getElem? (i := 1) rfl) rfl dX9_tapeLength_1 ?_
  obtain ⟨a3, rfl, hw⟩ := hw
  obtain ⟨o4, h5, hw⟩ := hw
  refine h_getRN C0 hW (host := RX9) (T := TX7) (kf := 0) in_X9_tapeLength_RX7 h5 rfl (by decide) (by decide +kernel) rfl dX9_tapeLength_4 ?_
  obtain ⟨a6, rfl, hw⟩ := hw
  obtain ⟨h8, hw⟩ := hw
  refine h_goi C0 hW (va_runV (As := []) (rest := []) ⟨hx, hb, hml, ho, hts⟩ (k_J4_length_8a (l := l) (u := u) (X := X) (sz := H.size) _ a6  S  hw) (cwV 0 hts gX9_tapeLength_J4_length_8abf5 rfl rfl rfl (by decide +kernel) ⟨Nat.le_of_ble_eq_true rfl, Nat.le_of_ble_eq_true rfl⟩) ⟨h_blind, (h_recv C0 hW (ci := 1) rfl h8), (h_pre C0 hW [.ref a6])⟩ rfl rfl hl.1 rfl (lv_room (Nat.le_of_ble_eq_true rfl)) dX9_tapeLength_7 ⟨Nat.le_refl _, Nat.le_refl _⟩) (fun r7 S9 H locs h10 hW => ?_)
  obtain ⟨h11, hp⟩ := h10
  rw [h11] at hW
  replace hw := hp
  exact hret r7 S _ _ 0 0 (Nat.le_refl _) (Nat.le_refl _) ⟨rfl, hw⟩ rfl dX9_tapeLength_10 _ _ _ hW hl
set_option maxHeartbeats 4000000 in
set_option maxRecDepth 100000 in
theorem k_X9_tapeLength {l : Launch} {D : va_G} {u : hU} {X : va_W} {sz : Nat} (post : Int32 → Prop) (t0 : Nat) (S : hS) (hw : w_X9_tapeLength u post t0  S) : hMi l yX9_tapeLength wsX9_tapeLength rm_X9_tapeLength D (gt u.2.1) u.1 u.2.2 sz X S [.ref t0] (fun r S' => S' = S ∧ post r) 0 0 := by
  refine hMi_of (cc := cX9_tapeLength) (nL := 1) (ty := .int) (own := RX9) (by decide) rfl rfl (Nat.le_of_ble_eq_true rfl) ?_
  intro p e s m args below meth c A Q C0 hin hret
  exact t_X9_tapeLength_0 C0 t0 post hret  hw
abbrev rm_X9_wipe (MC MS : Nat) : Room := { frames := 6, cells := MC, slots := MS, locals := 126 }
theorem in_X9_wipe_RX7 : ∀ w ∈ wsX70, w ∈ wsX9_wipe := fun w hw9 => List.mem_cons_of_mem _ (List.mem_append_left _ (List.mem_append_right _ hw9))
theorem in_X9_wipe_RX9 : ∀ w ∈ wsX90, w ∈ wsX9_wipe := fun w hw9 => List.mem_cons_of_mem _ (List.mem_append_left _ (List.mem_append_left _ (List.mem_append_right _ hw9)))
set_option maxHeartbeats 4000000 in
set_option maxRecDepth 100000 in
theorem t_X9_wipe_0 (C0 : hX p s m args c cX9_wipe 2 RX9 wsX9_wipe D (gt u.2.1) A u.1 u.2.2) (t0 : Nat) (post : Int32 → hS → Prop) (hret : ∀ (r : Int32) (S' : hS) (pc : Nat) (lv : List (Nat × Value)) (k n : Nat), k ≤ MC → n ≤ MS → post r S' → narrow .int (.int r) = .int r → decode cX9_wipe pc = .ok (.ireturn, 1) → gG p l e (rm_X9_wipe MC MS) s m args below meth c Q D A 2 k n (hC X S') pc lv [.int r])  : ∀ (S : hS) (mc ms k n : Nat), k + mc ≤ MC ∧ n + ms ≤ MS → w_X9_wipe u post t0   S mc ms → gG p l e (rm_X9_wipe MC MS) s m args below meth c Q D A 2 k n (hC X S) 0 [(0, .ref t0)] [] := by
  obtain ⟨⟨hx, hb, hml, ho, hts, hK, hA⟩, hR⟩ := id C0
  intro  S mc ms k n hkn hw H locs ls hW hl
  rw [w_X9_wipe] at hw
  refine lv_aload_n hx hb dX9_wipe_0 rfl (lv_at hl 0 rfl) ?_
  obtain ⟨o1, h2, hw⟩ := hw
  refine h_getR C0 hW (T := TX9) (kf := 1) in_X9_wipe_RX9 h2 rfl (by decide) (List.mem_of_getElem? (i := 1) rfl) rfl dX9_wipe_1 ?_
  obtain ⟨a3, rfl, hw⟩ := hw
  obtain ⟨o4, h5, hw⟩ := hw
  refine h_getRN C0 hW (host := RX9) (T := TX7) (kf := 0) in_X9_wipe_RX7 h5 rfl (by decide) (by decide +kernel) rfl dX9_wipe_4 ?_
  obtain ⟨a6, rfl, hw⟩ := hw
  obtain ⟨h8, hw⟩ := hw
  refine h_goi C0 hW (va_runV (As := []) (rest := []) ⟨hx, hb, hml, ho, hts⟩ (k_J4_length_8a (l := l) (u := u) (X := X) (sz := H.size) _ a6  S  hw) (cwV 0 hts gX9_wipe_J4_length_8abf5 rfl rfl rfl (by decide +kernel) ⟨Nat.le_of_ble_eq_true rfl, Nat.le_of_ble_eq_true rfl⟩) ⟨h_blind, (h_recv C0 hW (ci := 1) rfl h8), (h_pre C0 hW [.ref a6])⟩ rfl rfl hl.1 rfl (lv_room (Nat.le_of_ble_eq_true rfl)) dX9_wipe_7 ⟨by show _ ≤ MC; omega, by show _ ≤ MS; omega⟩) (fun r7 S9 H locs h10 hW => ?_)
  obtain ⟨h11, hp⟩ := h10
  rw [h11] at hW
  replace hw := hp
  refine lv_istore_n (lv' := [(1, .int r7), (0, .ref t0)]) hx hb dX9_wipe_10 rfl hl (by decide) rfl (fun ls hl9 => ?_)
  replace hl := hl9
  refine lv_aload_n hx hb dX9_wipe_11 rfl (lv_at hl 1 rfl) ?_
  obtain ⟨o12, h13, hw⟩ := hw
  refine h_getR C0 hW (T := TX9) (kf := 1) in_X9_wipe_RX9 h13 rfl (by decide) (List.mem_of_getElem? (i := 1) rfl) rfl dX9_wipe_12 ?_
  obtain ⟨a14, rfl, hw⟩ := hw
  obtain ⟨o15, h16, hw⟩ := hw
  refine h_getRN C0 hW (host := RX9) (T := TX7) (kf := 0) in_X9_wipe_RX7 h16 rfl (by decide) (by decide +kernel) rfl dX9_wipe_15 ?_
  refine lv_iconst (v := 0) hx hb dX9_wipe_18 (by decide) ?_
  obtain ⟨a17, rfl, hw⟩ := hw
  obtain ⟨h23, k19, n20, h21, h22, hw⟩ := hw
  refine h_gov C0 hW (va_runV (As := [.int 0]) (rest := []) ⟨hx, hb, hml, ho, hts⟩ (k_J4_setLength_d0 (l := l) (u := u) (X := X) (sz := H.size) _ a17 0 S k19 n20 hw) (cwV 1 hts gX9_wipe_J4_setLength_d00df rfl rfl rfl (by decide +kernel) ⟨Nat.le_of_ble_eq_true rfl, Nat.le_of_ble_eq_true rfl⟩) ⟨h_blind, (h_recv C0 hW (ci := 1) rfl h23), (h_pre C0 hW [.ref a17, .int 0])⟩ rfl rfl hl.1 rfl (lv_room (Nat.le_of_ble_eq_true rfl)) dX9_wipe_19 ⟨by show _ ≤ MC; omega, by show _ ≤ MS; omega⟩) (fun S24 H locs h25 hW => ?_)
  replace hw := h25
  have hkn : (k + k19) + (mc - k19) ≤ MC ∧ (n + n20) + (ms - n20) ≤ MS := by omega
  refine lv_iload_n hx hb dX9_wipe_22 rfl (lv_at hl 0 rfl) ?_
  exact hret r7 S24 _ _ _ _ (by omega) (by omega) hw rfl dX9_wipe_23 _ _ _ hW hl
set_option maxHeartbeats 4000000 in
set_option maxRecDepth 100000 in
theorem k_X9_wipe {l : Launch} {D : va_G} {u : hU} {X : va_W} {sz : Nat} (post : Int32 → hS → Prop) (t0 : Nat) (S : hS) (mc ms : Nat) (hw : w_X9_wipe u post t0  S mc ms) : hMi l yX9_wipe wsX9_wipe (rm_X9_wipe mc ms) D (gt u.2.1) u.1 u.2.2 sz X S [.ref t0] post mc ms := by
  refine hMi_of (cc := cX9_wipe) (nL := 2) (ty := .int) (own := RX9) (by decide) rfl rfl (Nat.le_of_ble_eq_true rfl) ?_
  intro p e s m args below meth c A Q C0 hin hret
  exact t_X9_wipe_0 C0 t0 post hret  S mc ms 0 0 ⟨by omega, by omega⟩ hw
abbrev rm_X9_firstBrokenPlace (MC MS : Nat) : Room := { frames := 9, cells := MC, slots := MS, locals := 201 }
theorem in_X9_firstBrokenPlace_RX9 : ∀ w ∈ wsX90, w ∈ wsX9_firstBrokenPlace := fun w hw9 => List.mem_cons_of_mem _ (List.mem_append_left _ (List.mem_append_left _ (List.mem_append_right _ hw9)))
set_option maxHeartbeats 4000000 in
set_option maxRecDepth 100000 in
theorem t_X9_firstBrokenPlace_9 (C0 : hX p s m args c cX9_firstBrokenPlace 3 RX9 wsX9_firstBrokenPlace D (gt u.2.1) A u.1 u.2.2) (t0 : Nat) (post : Int32 → hS → Prop) (hret : ∀ (r : Int32) (S' : hS) (pc : Nat) (lv : List (Nat × Value)) (k n : Nat), k ≤ MC → n ≤ MS → post r S' → narrow .int (.int r) = .int r → decode cX9_firstBrokenPlace pc = .ok (.ireturn, 1) → gG p l e (rm_X9_firstBrokenPlace MC MS) s m args below meth c Q D A 3 k n (hC X S') pc lv [.int r])  : ∀ (nf : Nat) (x1 : Int32) (S : hS) (mc ms k n : Nat), k + mc ≤ MC ∧ n + ms ≤ MS → w_X9_firstBrokenPlace_9 u post t0  nf x1 S mc ms → gG p l e (rm_X9_firstBrokenPlace MC MS) s m args below meth c Q D A 3 k n (hC X S) 9 [(0, .ref t0), (1, .int x1)] [] := by
  obtain ⟨⟨hx, hb, hml, ho, hts, hK, hA⟩, hR⟩ := id C0
  intro nf
  induction nf with
  | zero => intro x1 S mc ms k n hkn hw; exact hw.elim
  | succ nf ih =>
    intro x1 S mc ms k n hkn hw H locs ls hW hl
    rw [w_X9_firstBrokenPlace_9] at hw
    refine lv_iload_n hx hb dX9_firstBrokenPlace_9 rfl (lv_at hl 1 rfl) ?_
    refine lv_sipush (v := 300) hx hb dX9_firstBrokenPlace_10 (by decide) ?_
    refine lv_icmp_gt (tgt := 48) hx hb dX9_firstBrokenPlace_13 (by decide) (fun c9 => ?_) (fun c9 => ?_)
    · replace hw := hw.1 c9
      refine lv_bipush (v := (-5)) hx hb dX9_firstBrokenPlace_48 (by decide) ?_
      exact hret (-5) S _ _ _ _ (by omega) (by omega) hw rfl dX9_firstBrokenPlace_50 _ _ _ hW hl
    · replace hw := hw.2 c9
      refine lv_aload_n hx hb dX9_firstBrokenPlace_16 rfl (lv_at hl 0 rfl) ?_
      obtain ⟨o10, h11, hw⟩ := hw
      refine h_getR C0 hW (T := TX9) (kf := 1) in_X9_firstBrokenPlace_RX9 h11 rfl (by decide) (List.mem_of_getElem? (i := 1) rfl) rfl dX9_firstBrokenPlace_17 ?_
      obtain ⟨a12, rfl, hw⟩ := hw
      obtain ⟨h14, hw⟩ := hw
      refine h_goi C0 hW (va_runV (As := []) (rest := []) ⟨hx, hb, hml, ho, hts⟩ (k_X7_readEntry (l := l) (u := u) (X := X) (sz := H.size) _ a12  S  hw) (cwV 0 hts gX9_firstBrokenPlace_X7_readEntry rfl rfl rfl (by decide +kernel) ⟨Nat.le_of_ble_eq_true rfl, Nat.le_of_ble_eq_true rfl⟩) ⟨h_blind, (h_recv C0 hW (ci := 8) rfl h14), (h_pre C0 hW [.ref a12])⟩ rfl rfl hl.1 rfl (lv_room (Nat.le_of_ble_eq_true rfl)) dX9_firstBrokenPlace_20 ⟨by show _ ≤ MC; omega, by show _ ≤ MS; omega⟩) (fun r13 S15 H locs h16 hW => ?_)
      replace hw := h16
      refine lv_if_eq (tgt := 48) hx hb dX9_firstBrokenPlace_23 (by decide) (fun c17 => ?_) (fun c17 => ?_)
      · replace hw := hw.1 c17
        refine lv_bipush (v := (-5)) hx hb dX9_firstBrokenPlace_48 (by decide) ?_
        exact hret (-5) S15 _ _ _ _ (by omega) (by omega) hw rfl dX9_firstBrokenPlace_50 _ _ _ hW hl
      · replace hw := hw.2 c17
        refine lv_aload_n hx hb dX9_firstBrokenPlace_26 rfl (lv_at hl 0 rfl) ?_
        obtain ⟨o18, h19, hw⟩ := hw
        refine h_getR C0 hW (T := TX9) (kf := 1) in_X9_firstBrokenPlace_RX9 h19 rfl (by decide) (List.mem_of_getElem? (i := 1) rfl) rfl dX9_firstBrokenPlace_27 ?_
        obtain ⟨a20, rfl, hw⟩ := hw
        obtain ⟨h26, k22, n23, h24, h25, hw⟩ := hw
        refine h_goi C0 hW (va_runV (As := []) (rest := []) ⟨hx, hb, hml, ho, hts⟩ (k_X7_brokenPlace (l := l) (u := u) (X := X) (sz := H.size) _ a20  S15 k22 n23 hw) (cwV 0 hts gX9_firstBrokenPlace_X7_brokenPlace rfl rfl rfl (by decide +kernel) ⟨Nat.le_of_ble_eq_true rfl, Nat.le_of_ble_eq_true rfl⟩) ⟨h_blind, (h_recv C0 hW (ci := 8) rfl h26), (h_pre C0 hW [.ref a20])⟩ rfl rfl hl.1 rfl (lv_room (Nat.le_of_ble_eq_true rfl)) dX9_firstBrokenPlace_30 ⟨by show _ ≤ MC; omega, by show _ ≤ MS; omega⟩) (fun r21 S27 H locs h28 hW => ?_)
        replace hw := h28
        have hkn : (k + k22) + (mc - k22) ≤ MC ∧ (n + n23) + (ms - n23) ≤ MS := by omega
        refine lv_istore_n (lv' := [(2, .int r21), (0, .ref t0), (1, .int x1)]) hx hb dX9_firstBrokenPlace_33 rfl hl (by decide) rfl (fun ls hl9 => ?_)
        replace hl := hl9
        refine lv_iload_n hx hb dX9_firstBrokenPlace_34 rfl (lv_at hl 0 rfl) ?_
        refine lv_bipush (v := (-5)) hx hb dX9_firstBrokenPlace_35 (by decide) ?_
        refine lv_icmp_eq (tgt := 42) hx hb dX9_firstBrokenPlace_37 (by decide) (fun c29 => ?_) (fun c29 => ?_)
        · replace hw := hw.1 c29
          obtain ⟨v30, ev30⟩ : ∃ y : Int32, y = x1 + 1 := ⟨_, rfl⟩
          replace hw := hw v30 ev30
          refine lv_iinc (v := v30) (lv' := [(1, .int v30), (2, .int r21), (0, .ref t0)]) hx hb dX9_firstBrokenPlace_42 hl (k := 2) rfl (by rw [ev30]; rfl) (by decide) rfl (fun ls hl9 => ?_)
          replace hl := hl9
          refine lv_goto (tgt := 9) hx hb dX9_firstBrokenPlace_45 (by decide) ?_
          exact ih v30 S27 (mc - k22) (ms - n23) _ _ hkn hw _ _ _ hW (lv_sub hl [2, 0] rfl)
        · replace hw := hw.2 c29
          refine lv_iload_n hx hb dX9_firstBrokenPlace_40 rfl (lv_at hl 0 rfl) ?_
          exact hret r21 S27 _ _ _ _ (by omega) (by omega) hw rfl dX9_firstBrokenPlace_41 _ _ _ hW hl
set_option maxHeartbeats 4000000 in
set_option maxRecDepth 100000 in
theorem t_X9_firstBrokenPlace_0 (C0 : hX p s m args c cX9_firstBrokenPlace 3 RX9 wsX9_firstBrokenPlace D (gt u.2.1) A u.1 u.2.2) (t0 : Nat) (post : Int32 → hS → Prop) (hret : ∀ (r : Int32) (S' : hS) (pc : Nat) (lv : List (Nat × Value)) (k n : Nat), k ≤ MC → n ≤ MS → post r S' → narrow .int (.int r) = .int r → decode cX9_firstBrokenPlace pc = .ok (.ireturn, 1) → gG p l e (rm_X9_firstBrokenPlace MC MS) s m args below meth c Q D A 3 k n (hC X S') pc lv [.int r])  : ∀ (S : hS) (mc ms k n : Nat), k + mc ≤ MC ∧ n + ms ≤ MS → w_X9_firstBrokenPlace u post t0   S mc ms → gG p l e (rm_X9_firstBrokenPlace MC MS) s m args below meth c Q D A 3 k n (hC X S) 0 [(0, .ref t0)] [] := by
  obtain ⟨⟨hx, hb, hml, ho, hts, hK, hA⟩, hR⟩ := id C0
  intro  S mc ms k n hkn hw H locs ls hW hl
  rw [w_X9_firstBrokenPlace] at hw
  refine lv_aload_n hx hb dX9_firstBrokenPlace_0 rfl (lv_at hl 0 rfl) ?_
  obtain ⟨o1, h2, hw⟩ := hw
  refine h_getR C0 hW (T := TX9) (kf := 1) in_X9_firstBrokenPlace_RX9 h2 rfl (by decide) (List.mem_of_getElem? (i := 1) rfl) rfl dX9_firstBrokenPlace_1 ?_
  obtain ⟨a3, rfl, hw⟩ := hw
  obtain ⟨h5, hw⟩ := hw
  refine h_gov C0 hW (va_runV (As := []) (rest := []) ⟨hx, hb, hml, ho, hts⟩ (k_X7_rewind (l := l) (u := u) (X := X) (sz := H.size) _ a3  S  hw) (cwV 0 hts gX9_firstBrokenPlace_X7_rewind rfl rfl rfl (by decide +kernel) ⟨Nat.le_of_ble_eq_true rfl, Nat.le_of_ble_eq_true rfl⟩) ⟨h_blind, (h_recv C0 hW (ci := 8) rfl h5), (h_pre C0 hW [.ref a3])⟩ rfl rfl hl.1 rfl (lv_room (Nat.le_of_ble_eq_true rfl)) dX9_firstBrokenPlace_4 ⟨by show _ ≤ MC; omega, by show _ ≤ MS; omega⟩) (fun S6 H locs h7 hW => ?_)
  replace hw := h7
  refine lv_iconst (v := 0) hx hb dX9_firstBrokenPlace_7 (by decide) ?_
  refine lv_istore_n (lv' := [(1, .int 0), (0, .ref t0)]) hx hb dX9_firstBrokenPlace_8 rfl hl (by decide) rfl (fun ls hl9 => ?_)
  replace hl := hl9
  obtain ⟨n8, hw⟩ := hw
  exact t_X9_firstBrokenPlace_9 C0 t0 post hret  n8 0 S6 mc ms _ _ hkn hw _ _ _ hW (lv_sub hl [1, 0] rfl)
set_option maxHeartbeats 4000000 in
set_option maxRecDepth 100000 in
theorem k_X9_firstBrokenPlace {l : Launch} {D : va_G} {u : hU} {X : va_W} {sz : Nat} (post : Int32 → hS → Prop) (t0 : Nat) (S : hS) (mc ms : Nat) (hw : w_X9_firstBrokenPlace u post t0  S mc ms) : hMi l yX9_firstBrokenPlace wsX9_firstBrokenPlace (rm_X9_firstBrokenPlace mc ms) D (gt u.2.1) u.1 u.2.2 sz X S [.ref t0] post mc ms := by
  refine hMi_of (cc := cX9_firstBrokenPlace) (nL := 3) (ty := .int) (own := RX9) (by decide) rfl rfl (Nat.le_of_ble_eq_true rfl) ?_
  intro p e s m args below meth c A Q C0 hin hret
  exact t_X9_firstBrokenPlace_0 C0 t0 post hret  S mc ms 0 0 ⟨by omega, by omega⟩ hw
abbrev rm_X9_load (MC MS : Nat) : Room := { frames := 10, cells := MC, slots := MS, locals := 223 }
theorem in_X9_load_RX9 : ∀ w ∈ wsX90, w ∈ wsX9_load := fun w hw9 => List.mem_cons_of_mem _ (List.mem_append_left _ (List.mem_append_left _ (List.mem_append_left _ (List.mem_append_left _ (List.mem_append_left _ (List.mem_append_left _ (List.mem_append_right _ hw9)))))))
set_option maxHeartbeats 4000000 in
set_option maxRecDepth 100000 in
theorem t_X9_load_94 (C0 : hX p s m args c cX9_load 4 RX9 wsX9_load D (gt u.2.1) A u.1 u.2.2) (t0 : Nat) (post : Int32 → hS → Prop) (hret : ∀ (r : Int32) (S' : hS) (pc : Nat) (lv : List (Nat × Value)) (k n : Nat), k ≤ MC → n ≤ MS → post r S' → narrow .int (.int r) = .int r → decode cX9_load pc = .ok (.ireturn, 1) → gG p l e (rm_X9_load MC MS) s m args below meth c Q D A 4 k n (hC X S') pc lv [.int r])  : ∀ (x2 : Nat) (x3 : Int32) (S : hS) (mc ms k n : Nat), k + mc ≤ MC ∧ n + ms ≤ MS → w_X9_load_94 u post t0  x2 x3 S mc ms → gG p l e (rm_X9_load MC MS) s m args below meth c Q D A 4 k n (hC X S) 94 [(0, .ref t0), (2, .ref x2), (3, .int x3)] [] := by
  obtain ⟨⟨hx, hb, hml, ho, hts, hK, hA⟩, hR⟩ := id C0
  intro x2 x3 S mc ms k n hkn hw H locs ls hW hl
  rw [w_X9_load_94] at hw
  refine lv_aload_n hx hb dX9_load_94 rfl (lv_at hl 1 rfl) ?_
  refine lv_aload_n hx hb dX9_load_95 rfl (lv_at hl 0 rfl) ?_
  obtain ⟨o79, h80, hw⟩ := hw
  refine h_getR C0 hW (T := TX9) (kf := 3) in_X9_load_RX9 h80 rfl (by decide) (List.mem_of_getElem? (i := 2) rfl) rfl dX9_load_96 ?_
  obtain ⟨h82, hw⟩ := hw
  refine h_gov C0 hW (va_runV (As := [va_rf o79]) (rest := []) ⟨hx, hb, hml, ho, hts⟩ (k_X3_takeAll (l := l) (u := u) (X := X) (sz := H.size) _ x2 o79 S  hw) (cwV 1 hts gX9_load_X3_takeAll rfl rfl rfl (by decide +kernel) ⟨Nat.le_of_ble_eq_true rfl, Nat.le_of_ble_eq_true rfl⟩) ⟨h_blind, (h_recv C0 hW (ci := 4) rfl h82), (h_pre C0 hW [.ref x2, va_rf o79])⟩ rfl rfl hl.1 rfl (lv_room (Nat.le_of_ble_eq_true rfl)) dX9_load_99 ⟨by show _ ≤ MC; omega, by show _ ≤ MS; omega⟩) (fun S83 H locs h84 hW => ?_)
  replace hw := h84
  refine lv_iload_n hx hb dX9_load_102 rfl (lv_at hl 2 rfl) ?_
  exact hret x3 S83 _ _ _ _ (by omega) (by omega) hw rfl dX9_load_103 _ _ _ hW hl
set_option maxHeartbeats 4000000 in
set_option maxRecDepth 100000 in
theorem t_X9_load_44 (C0 : hX p s m args c cX9_load 4 RX9 wsX9_load D (gt u.2.1) A u.1 u.2.2) (t0 : Nat) (post : Int32 → hS → Prop) (hret : ∀ (r : Int32) (S' : hS) (pc : Nat) (lv : List (Nat × Value)) (k n : Nat), k ≤ MC → n ≤ MS → post r S' → narrow .int (.int r) = .int r → decode cX9_load pc = .ok (.ireturn, 1) → gG p l e (rm_X9_load MC MS) s m args below meth c Q D A 4 k n (hC X S') pc lv [.int r])  : ∀ (nf : Nat) (x2 : Nat) (x3 : Int32) (S : hS) (mc ms k n : Nat), k + mc ≤ MC ∧ n + ms ≤ MS → w_X9_load_44 u post t0  nf x2 x3 S mc ms → gG p l e (rm_X9_load MC MS) s m args below meth c Q D A 4 k n (hC X S) 44 [(0, .ref t0), (2, .ref x2), (3, .int x3)] [] := by
  obtain ⟨⟨hx, hb, hml, ho, hts, hK, hA⟩, hR⟩ := id C0
  intro nf
  induction nf with
  | zero => intro x2 x3 S mc ms k n hkn hw; exact hw.elim
  | succ nf ih =>
    intro x2 x3 S mc ms k n hkn hw H locs ls hW hl
    rw [w_X9_load_44] at hw
    refine lv_iload_n hx hb dX9_load_44 rfl (lv_at hl 2 rfl) ?_
    refine lv_sipush (v := 300) hx hb dX9_load_45 (by decide) ?_
    refine lv_icmp_gt (tgt := 94) hx hb dX9_load_48 (by decide) (fun c35 => ?_) (fun c35 => ?_)
    · replace hw := hw.1 c35
      exact t_X9_load_94 C0 t0 post hret  x2 x3 S mc ms _ _ hkn hw _ _ _ hW (lv_sub hl [0, 1, 2] rfl)
    · replace hw := hw.2 c35
      refine lv_aload_n hx hb dX9_load_51 rfl (lv_at hl 0 rfl) ?_
      obtain ⟨o36, h37, hw⟩ := hw
      refine h_getR C0 hW (T := TX9) (kf := 1) in_X9_load_RX9 h37 rfl (by decide) (List.mem_of_getElem? (i := 3) rfl) rfl dX9_load_52 ?_
      obtain ⟨a38, rfl, hw⟩ := hw
      obtain ⟨h40, hw⟩ := hw
      refine h_goi C0 hW (va_runV (As := []) (rest := []) ⟨hx, hb, hml, ho, hts⟩ (k_X7_readEntry (l := l) (u := u) (X := X) (sz := H.size) _ a38  S  hw) (cwV 0 hts gX9_load_X7_readEntry rfl rfl rfl (by decide +kernel) ⟨Nat.le_of_ble_eq_true rfl, Nat.le_of_ble_eq_true rfl⟩) ⟨h_blind, (h_recv C0 hW (ci := 8) rfl h40), (h_pre C0 hW [.ref a38])⟩ rfl rfl hl.1 rfl (lv_room (Nat.le_of_ble_eq_true rfl)) dX9_load_55 ⟨by show _ ≤ MC; omega, by show _ ≤ MS; omega⟩) (fun r39 S41 H locs h42 hW => ?_)
      replace hw := h42
      refine lv_if_eq (tgt := 94) hx hb dX9_load_58 (by decide) (fun c43 => ?_) (fun c43 => ?_)
      · replace hw := hw.1 c43
        exact t_X9_load_94 C0 t0 post hret  x2 x3 S41 mc ms _ _ hkn hw _ _ _ hW (lv_sub hl [0, 1, 2] rfl)
      · replace hw := hw.2 c43
        refine lv_aload_n hx hb dX9_load_61 rfl (lv_at hl 0 rfl) ?_
        obtain ⟨o44, h45, hw⟩ := hw
        refine h_getR C0 hW (T := TX9) (kf := 3) in_X9_load_RX9 h45 rfl (by decide) (List.mem_of_getElem? (i := 2) rfl) rfl dX9_load_62 ?_
        refine lv_aload_n hx hb dX9_load_65 rfl (lv_at hl 0 rfl) ?_
        obtain ⟨o46, h47, hw⟩ := hw
        refine h_getR C0 hW (T := TX9) (kf := 1) in_X9_load_RX9 h47 rfl (by decide) (List.mem_of_getElem? (i := 3) rfl) rfl dX9_load_66 ?_
        obtain ⟨a48, rfl, hw⟩ := hw
        obtain ⟨h54, k50, n51, h52, h53, hw⟩ := hw
        refine h_goq C0 hW (va_runV (As := []) (rest := [va_rf o44]) ⟨hx, hb, hml, ho, hts⟩ (k_X7_keyText (l := l) (u := u) (X := X) (sz := H.size) _ a48  S41 k50 n51 hw) (cwV 0 hts gX9_load_X7_keyText rfl rfl rfl (by decide +kernel) ⟨Nat.le_of_ble_eq_true rfl, Nat.le_of_ble_eq_true rfl⟩) ⟨h_blind, (h_recv C0 hW (ci := 8) rfl h54), (h_pre C0 hW [.ref a48])⟩ rfl rfl hl.1 rfl (lv_room (by simp [va_rf_cat, va_c_ref, va_c_int, va_c_null])) dX9_load_69 ⟨by show _ ≤ MC; omega, by show _ ≤ MS; omega⟩) (fun r49 S55 H locs h56 hW => ?_)
        replace hw := h56
        have hkn : (k + k50) + (mc - k50) ≤ MC ∧ (n + n51) + (ms - n51) ≤ MS := by omega
        refine lv_aload_n hx hb dX9_load_72 rfl (lv_at hl 0 rfl) ?_
        obtain ⟨o57, h58, hw⟩ := hw
        refine h_getR C0 hW (T := TX9) (kf := 1) in_X9_load_RX9 h58 rfl (by decide) (List.mem_of_getElem? (i := 3) rfl) rfl dX9_load_73 ?_
        obtain ⟨a59, rfl, hw⟩ := hw
        obtain ⟨h65, k61, n62, h63, h64, hw⟩ := hw
        refine h_goq C0 hW (va_runV (As := []) (rest := [va_rf r49, va_rf o44]) ⟨hx, hb, hml, ho, hts⟩ (k_X7_valueText (l := l) (u := u) (X := X) (sz := H.size) _ a59  S55 k61 n62 hw) (cwV 0 hts gX9_load_X7_valueText rfl rfl rfl (by decide +kernel) ⟨Nat.le_of_ble_eq_true rfl, Nat.le_of_ble_eq_true rfl⟩) ⟨h_blind, (h_recv C0 hW (ci := 8) rfl h65), (h_pre C0 hW [.ref a59])⟩ rfl rfl hl.1 rfl (lv_room (by simp [va_rf_cat, va_c_ref, va_c_int, va_c_null])) dX9_load_76 ⟨by show _ ≤ MC; omega, by show _ ≤ MS; omega⟩) (fun r60 S66 H locs h67 hW => ?_)
        replace hw := h67
        have hkn : ((k + k50) + k61) + ((mc - k50) - k61) ≤ MC ∧ ((n + n51) + n62) + ((ms - n51) - n62) ≤ MS := by omega
        obtain ⟨a68, rfl, hw⟩ := hw
        obtain ⟨h74, k70, n71, h72, h73, hw⟩ := hw
        refine h_goi C0 hW (va_runV (As := [va_rf r49, va_rf r60]) (rest := []) ⟨hx, hb, hml, ho, hts⟩ (k_X3_put (l := l) (u := u) (X := X) (sz := H.size) _ a68 r49 r60 S66 k70 n71 hw) (cwV 2 hts gX9_load_X3_put rfl rfl rfl (by decide +kernel) ⟨Nat.le_of_ble_eq_true rfl, Nat.le_of_ble_eq_true rfl⟩) ⟨h_blind, (h_recv C0 hW (ci := 4) rfl h74), (h_pre C0 hW [.ref a68, va_rf r49, va_rf r60])⟩ rfl rfl hl.1 rfl (lv_room (Nat.le_of_ble_eq_true rfl)) dX9_load_79 ⟨by show _ ≤ MC; omega, by show _ ≤ MS; omega⟩) (fun r69 S75 H locs h76 hW => ?_)
        replace hw := h76
        have hkn : (((k + k50) + k61) + k70) + (((mc - k50) - k61) - k70) ≤ MC ∧ (((n + n51) + n62) + n71) + (((ms - n51) - n62) - n71) ≤ MS := by omega
        refine lv_if_ne (tgt := 88) hx hb dX9_load_82 (by decide) (fun c77 => ?_) (fun c77 => ?_)
        · replace hw := hw.1 c77
          obtain ⟨v78, ev78⟩ : ∃ y : Int32, y = x3 + 1 := ⟨_, rfl⟩
          replace hw := hw v78 ev78
          refine lv_iinc (v := v78) (lv' := [(3, .int v78), (0, .ref t0), (2, .ref x2)]) hx hb dX9_load_88 hl (k := 2) rfl (by rw [ev78]; rfl) (by decide) rfl (fun ls hl9 => ?_)
          replace hl := hl9
          refine lv_goto (tgt := 44) hx hb dX9_load_91 (by decide) ?_
          exact ih x2 v78 S75 (((mc - k50) - k61) - k70) (((ms - n51) - n62) - n71) _ _ hkn hw _ _ _ hW (lv_sub hl [1, 2, 0] rfl)
        · replace hw := hw.2 c77
          refine lv_bipush (v := (-3)) hx hb dX9_load_85 (by decide) ?_
          exact hret (-3) S75 _ _ _ _ (by omega) (by omega) hw rfl dX9_load_87 _ _ _ hW hl
set_option maxHeartbeats 4000000 in
set_option maxRecDepth 100000 in
theorem t_X9_load_0 (C0 : hX p s m args c cX9_load 4 RX9 wsX9_load D (gt u.2.1) A u.1 u.2.2) (t0 : Nat) (post : Int32 → hS → Prop) (hret : ∀ (r : Int32) (S' : hS) (pc : Nat) (lv : List (Nat × Value)) (k n : Nat), k ≤ MC → n ≤ MS → post r S' → narrow .int (.int r) = .int r → decode cX9_load pc = .ok (.ireturn, 1) → gG p l e (rm_X9_load MC MS) s m args below meth c Q D A 4 k n (hC X S') pc lv [.int r])  : ∀ (z1 : Int32) (S : hS) (mc ms k n : Nat), k + mc ≤ MC ∧ n + ms ≤ MS → w_X9_load u post t0  z1 S mc ms → gG p l e (rm_X9_load MC MS) s m args below meth c Q D A 4 k n (hC X S) 0 [(0, .ref t0), (1, .int z1)] [] := by
  obtain ⟨⟨hx, hb, hml, ho, hts, hK, hA⟩, hR⟩ := id C0
  intro z1 S mc ms k n hkn hw H locs ls hW hl
  rw [w_X9_load] at hw
  refine lv_aload_n hx hb dX9_load_0 rfl (lv_at hl 0 rfl) ?_
  obtain ⟨o1, h2, hw⟩ := hw
  refine h_getR C0 hW (T := TX9) (kf := 2) in_X9_load_RX9 h2 rfl (by decide) (List.mem_of_getElem? (i := 1) rfl) rfl dX9_load_1 ?_
  refine lv_iload_n hx hb dX9_load_4 rfl (lv_at hl 1 rfl) ?_
  obtain ⟨a3, rfl, hw⟩ := hw
  obtain ⟨h5, hw⟩ := hw
  refine h_goq C0 hW (va_runV (As := [.int z1]) (rest := []) ⟨hx, hb, hml, ho, hts⟩ (k_X4_layerAt (l := l) (u := u) (X := X) (sz := H.size) _ a3 z1 S  hw) (cwV 1 hts gX9_load_X4_layerAt rfl rfl rfl (by decide +kernel) ⟨Nat.le_of_ble_eq_true rfl, Nat.le_of_ble_eq_true rfl⟩) ⟨h_blind, (h_recv C0 hW (ci := 5) rfl h5), (h_pre C0 hW [.ref a3, .int z1])⟩ rfl rfl hl.1 rfl (lv_room (Nat.le_of_ble_eq_true rfl)) dX9_load_5 ⟨by show _ ≤ MC; omega, by show _ ≤ MS; omega⟩) (fun r4 S6 H locs h7 hW => ?_)
  obtain ⟨h8, hp⟩ := h7
  rw [h8] at hW
  replace hw := hp
  refine lv_astoreV_n (i := 2) (lv' := [(2, va_rf r4), (0, .ref t0), (1, .int z1)]) hx hb dX9_load_8 rfl hl (by decide) rfl (fun ls hl9 => ?_)
  replace hl := hl9
  refine lv_aloadV_n hx hb dX9_load_9 rfl (lv_at hl 0 rfl) ?_
  refine lv_ifnonnullV (tgt := 15) hx hb dX9_load_10 (by decide) (fun a10 c9 => ?_) (fun c9 => ?_)
  · subst c9
    replace hw := hw.2 a10 rfl
    refine lv_aload_n hx hb dX9_load_15 rfl (lv_at hl 1 rfl) ?_
    obtain ⟨h16, k12, n13, h14, h15, hw⟩ := hw
    refine h_goi C0 hW (va_runV (As := []) (rest := []) ⟨hx, hb, hml, ho, hts⟩ (k_X9_firstBrokenPlace (l := l) (u := u) (X := X) (sz := H.size) _ t0  S k12 n13 hw) (cwV 0 hts gX9_load_X9_firstBrokenPlace rfl rfl rfl (by decide +kernel) ⟨Nat.le_of_ble_eq_true rfl, Nat.le_of_ble_eq_true rfl⟩) ⟨h_blind, (h_recv C0 hW (ci := 10) rfl h16), (h_pre C0 hW [.ref t0])⟩ rfl rfl hl.1 rfl (lv_room (Nat.le_of_ble_eq_true rfl)) dX9_load_16 ⟨by show _ ≤ MC; omega, by show _ ≤ MS; omega⟩) (fun r11 S17 H locs h18 hW => ?_)
    replace hw := h18
    have hkn : (k + k12) + (mc - k12) ≤ MC ∧ (n + n13) + (ms - n13) ≤ MS := by omega
    refine lv_bipush (v := (-5)) hx hb dX9_load_19 (by decide) ?_
    refine lv_icmp_eq (tgt := 27) hx hb dX9_load_21 (by decide) (fun c19 => ?_) (fun c19 => ?_)
    · replace hw := hw.1 c19
      refine lv_aload_n hx hb dX9_load_27 rfl (lv_at hl 1 rfl) ?_
      obtain ⟨o20, h21, hw⟩ := hw
      refine h_getR C0 hW (T := TX9) (kf := 3) in_X9_load_RX9 h21 rfl (by decide) (List.mem_of_getElem? (i := 2) rfl) rfl dX9_load_28 ?_
      refine lv_aload_n hx hb dX9_load_31 rfl (lv_at hl 0 rfl) ?_
      obtain ⟨a22, rfl, hw⟩ := hw
      obtain ⟨h24, hw⟩ := hw
      refine h_gov C0 hW (va_runV (As := [.ref a10]) (rest := []) ⟨hx, hb, hml, ho, hts⟩ (k_X3_takeAll (l := l) (u := u) (X := X) (sz := H.size) _ a22 (some a10) S17  hw) (cwV 1 hts gX9_load_X3_takeAll rfl rfl rfl (by decide +kernel) ⟨Nat.le_of_ble_eq_true rfl, Nat.le_of_ble_eq_true rfl⟩) ⟨h_blind, (h_recv C0 hW (ci := 4) rfl h24), (h_pre C0 hW [.ref a22, .ref a10])⟩ rfl rfl hl.1 rfl (lv_room (Nat.le_of_ble_eq_true rfl)) dX9_load_32 ⟨by show _ ≤ MC; omega, by show _ ≤ MS; omega⟩) (fun S25 H locs h26 hW => ?_)
      replace hw := h26
      refine lv_iconst (v := 0) hx hb dX9_load_35 (by decide) ?_
      refine lv_istore_n (lv' := [(3, .int 0), (2, .ref a10), (0, .ref t0), (1, .int z1)]) hx hb dX9_load_36 rfl hl (by decide) rfl (fun ls hl9 => ?_)
      replace hl := hl9
      refine lv_aload_n hx hb dX9_load_37 rfl (lv_at hl 2 rfl) ?_
      obtain ⟨o27, h28, hw⟩ := hw
      refine h_getR C0 hW (T := TX9) (kf := 1) in_X9_load_RX9 h28 rfl (by decide) (List.mem_of_getElem? (i := 3) rfl) rfl dX9_load_38 ?_
      obtain ⟨a29, rfl, hw⟩ := hw
      obtain ⟨h31, hw⟩ := hw
      refine h_gov C0 hW (va_runV (As := []) (rest := []) ⟨hx, hb, hml, ho, hts⟩ (k_X7_rewind (l := l) (u := u) (X := X) (sz := H.size) _ a29  S25  hw) (cwV 0 hts gX9_load_X7_rewind rfl rfl rfl (by decide +kernel) ⟨Nat.le_of_ble_eq_true rfl, Nat.le_of_ble_eq_true rfl⟩) ⟨h_blind, (h_recv C0 hW (ci := 8) rfl h31), (h_pre C0 hW [.ref a29])⟩ rfl rfl hl.1 rfl (lv_room (Nat.le_of_ble_eq_true rfl)) dX9_load_41 ⟨by show _ ≤ MC; omega, by show _ ≤ MS; omega⟩) (fun S32 H locs h33 hW => ?_)
      replace hw := h33
      obtain ⟨n34, hw⟩ := hw
      exact t_X9_load_44 C0 t0 post hret  n34 a10 0 S32 (mc - k12) (ms - n13) _ _ hkn hw _ _ _ hW (lv_sub hl [2, 1, 0] rfl)
    · replace hw := hw.2 c19
      refine lv_bipush (v := (-6)) hx hb dX9_load_24 (by decide) ?_
      exact hret (-6) S17 _ _ _ _ (by omega) (by omega) hw rfl dX9_load_26 _ _ _ hW hl
  · subst c9
    replace hw := hw.1 rfl
    refine lv_iconst (v := (-1)) hx hb dX9_load_13 (by decide) ?_
    exact hret (-1) S _ _ _ _ (by omega) (by omega) hw rfl dX9_load_14 _ _ _ hW hl
set_option maxHeartbeats 4000000 in
set_option maxRecDepth 100000 in
theorem k_X9_load {l : Launch} {D : va_G} {u : hU} {X : va_W} {sz : Nat} (post : Int32 → hS → Prop) (t0 : Nat) (z1 : Int32) (S : hS) (mc ms : Nat) (hw : w_X9_load u post t0 z1 S mc ms) : hMi l yX9_load wsX9_load (rm_X9_load mc ms) D (gt u.2.1) u.1 u.2.2 sz X S [.ref t0, .int z1] post mc ms := by
  refine hMi_of (cc := cX9_load) (nL := 4) (ty := .int) (own := RX9) (by decide) rfl rfl (Nat.le_of_ble_eq_true rfl) ?_
  intro p e s m args below meth c A Q C0 hin hret
  exact t_X9_load_0 C0 t0 post hret z1 S mc ms 0 0 ⟨by omega, by omega⟩ hw
abbrev rm_X9_brokenAt (MC MS : Nat) : Room := { frames := 10, cells := MC, slots := MS, locals := 223 }
set_option maxHeartbeats 4000000 in
set_option maxRecDepth 100000 in
theorem t_X9_brokenAt_0 (C0 : hX p s m args c cX9_brokenAt 1 RX9 wsX9_brokenAt D (gt u.2.1) A u.1 u.2.2) (t0 : Nat) (post : Int32 → hS → Prop) (hret : ∀ (r : Int32) (S' : hS) (pc : Nat) (lv : List (Nat × Value)) (k n : Nat), k ≤ MC → n ≤ MS → post r S' → narrow .int (.int r) = .int r → decode cX9_brokenAt pc = .ok (.ireturn, 1) → gG p l e (rm_X9_brokenAt MC MS) s m args below meth c Q D A 1 k n (hC X S') pc lv [.int r])  : ∀ (S : hS) (mc ms k n : Nat), k + mc ≤ MC ∧ n + ms ≤ MS → w_X9_brokenAt u post t0   S mc ms → gG p l e (rm_X9_brokenAt MC MS) s m args below meth c Q D A 1 k n (hC X S) 0 [(0, .ref t0)] [] := by
  obtain ⟨⟨hx, hb, hml, ho, hts, hK, hA⟩, hR⟩ := id C0
  intro  S mc ms k n hkn hw H locs ls hW hl
  rw [w_X9_brokenAt] at hw
  refine lv_aload_n hx hb dX9_brokenAt_0 rfl (lv_at hl 0 rfl) ?_
  obtain ⟨h6, k2, n3, h4, h5, hw⟩ := hw
  refine h_goi C0 hW (va_runV (As := []) (rest := []) ⟨hx, hb, hml, ho, hts⟩ (k_X9_firstBrokenPlace (l := l) (u := u) (X := X) (sz := H.size) _ t0  S k2 n3 hw) (cwV 0 hts gX9_brokenAt_X9_firstBrokenPlace rfl rfl rfl (by decide +kernel) ⟨Nat.le_of_ble_eq_true rfl, Nat.le_of_ble_eq_true rfl⟩) ⟨h_blind, (h_recv C0 hW (ci := 10) rfl h6), (h_pre C0 hW [.ref t0])⟩ rfl rfl hl.1 rfl (lv_room (Nat.le_of_ble_eq_true rfl)) dX9_brokenAt_1 ⟨by show _ ≤ MC; omega, by show _ ≤ MS; omega⟩) (fun r1 S7 H locs h8 hW => ?_)
  replace hw := h8
  have hkn : (k + k2) + (mc - k2) ≤ MC ∧ (n + n3) + (ms - n3) ≤ MS := by omega
  exact hret r1 S7 _ _ _ _ (by omega) (by omega) hw rfl dX9_brokenAt_4 _ _ _ hW hl
set_option maxHeartbeats 4000000 in
set_option maxRecDepth 100000 in
theorem k_X9_brokenAt {l : Launch} {D : va_G} {u : hU} {X : va_W} {sz : Nat} (post : Int32 → hS → Prop) (t0 : Nat) (S : hS) (mc ms : Nat) (hw : w_X9_brokenAt u post t0  S mc ms) : hMi l yX9_brokenAt wsX9_brokenAt (rm_X9_brokenAt mc ms) D (gt u.2.1) u.1 u.2.2 sz X S [.ref t0] post mc ms := by
  refine hMi_of (cc := cX9_brokenAt) (nL := 1) (ty := .int) (own := RX9) (by decide) rfl rfl (Nat.le_of_ble_eq_true rfl) ?_
  intro p e s m args below meth c A Q C0 hin hret
  exact t_X9_brokenAt_0 C0 t0 post hret  S mc ms 0 0 ⟨by omega, by omega⟩ hw
abbrev rm_X9_write (MC MS : Nat) : Room := { frames := 8, cells := MC, slots := MS, locals := 174 }
theorem in_X9_write_RX7 : ∀ w ∈ wsX70, w ∈ wsX9_write := fun w hw9 => List.mem_cons_of_mem _ (List.mem_append_left _ (List.mem_append_left _ (List.mem_append_left _ (List.mem_append_left _ (List.mem_append_left _ (List.mem_append_right _ hw9))))))
theorem in_X9_write_RX9 : ∀ w ∈ wsX90, w ∈ wsX9_write := fun w hw9 => List.mem_cons_of_mem _ (List.mem_append_left _ (List.mem_append_left _ (List.mem_append_left _ (List.mem_append_left _ (List.mem_append_left _ (List.mem_append_left _ (List.mem_append_right _ hw9)))))))
set_option maxHeartbeats 4000000 in
set_option maxRecDepth 100000 in
theorem t_X9_write_0 (C0 : hX p s m args c cX9_write 3 RX9 wsX9_write D (gt u.2.1) A u.1 u.2.2) (t0 : Nat) (post : Int32 → hS → Prop) (hret : ∀ (r : Int32) (S' : hS) (pc : Nat) (lv : List (Nat × Value)) (k n : Nat), k ≤ MC → n ≤ MS → post r S' → narrow .int (.int r) = .int r → decode cX9_write pc = .ok (.ireturn, 1) → gG p l e (rm_X9_write MC MS) s m args below meth c Q D A 3 k n (hC X S') pc lv [.int r])  : ∀ (z1 : Int32) (S : hS) (mc ms k n : Nat), k + mc ≤ MC ∧ n + ms ≤ MS → w_X9_write u post t0  z1 S mc ms → gG p l e (rm_X9_write MC MS) s m args below meth c Q D A 3 k n (hC X S) 0 [(0, .ref t0), (1, .int z1)] [] := by
  obtain ⟨⟨hx, hb, hml, ho, hts, hK, hA⟩, hR⟩ := id C0
  intro z1 S mc ms k n hkn hw H locs ls hW hl
  rw [w_X9_write] at hw
  refine lv_aload_n hx hb dX9_write_0 rfl (lv_at hl 0 rfl) ?_
  obtain ⟨o1, h2, hw⟩ := hw
  refine h_getR C0 hW (T := TX9) (kf := 2) in_X9_write_RX9 h2 rfl (by decide) (List.mem_of_getElem? (i := 1) rfl) rfl dX9_write_1 ?_
  refine lv_iload_n hx hb dX9_write_4 rfl (lv_at hl 1 rfl) ?_
  obtain ⟨a3, rfl, hw⟩ := hw
  obtain ⟨h5, hw⟩ := hw
  refine h_goq C0 hW (va_runV (As := [.int z1]) (rest := []) ⟨hx, hb, hml, ho, hts⟩ (k_X4_layerAt (l := l) (u := u) (X := X) (sz := H.size) _ a3 z1 S  hw) (cwV 1 hts gX9_write_X4_layerAt rfl rfl rfl (by decide +kernel) ⟨Nat.le_of_ble_eq_true rfl, Nat.le_of_ble_eq_true rfl⟩) ⟨h_blind, (h_recv C0 hW (ci := 5) rfl h5), (h_pre C0 hW [.ref a3, .int z1])⟩ rfl rfl hl.1 rfl (lv_room (Nat.le_of_ble_eq_true rfl)) dX9_write_5 ⟨by show _ ≤ MC; omega, by show _ ≤ MS; omega⟩) (fun r4 S6 H locs h7 hW => ?_)
  obtain ⟨h8, hp⟩ := h7
  rw [h8] at hW
  replace hw := hp
  refine lv_astoreV_n (i := 2) (lv' := [(2, va_rf r4), (0, .ref t0), (1, .int z1)]) hx hb dX9_write_8 rfl hl (by decide) rfl (fun ls hl9 => ?_)
  replace hl := hl9
  refine lv_aloadV_n hx hb dX9_write_9 rfl (lv_at hl 0 rfl) ?_
  refine lv_ifnonnullV (tgt := 15) hx hb dX9_write_10 (by decide) (fun a10 c9 => ?_) (fun c9 => ?_)
  · subst c9
    replace hw := hw.2 a10 rfl
    refine lv_aload_n hx hb dX9_write_15 rfl (lv_at hl 0 rfl) ?_
    obtain ⟨h12, hw⟩ := hw
    refine h_goi C0 hW (va_runV (As := []) (rest := []) ⟨hx, hb, hml, ho, hts⟩ (k_X3_writtenLength (l := l) (u := u) (X := X) (sz := H.size) _ a10  S  hw) (cwV 0 hts gX9_write_X3_writtenLength rfl rfl rfl (by decide +kernel) ⟨Nat.le_of_ble_eq_true rfl, Nat.le_of_ble_eq_true rfl⟩) ⟨h_blind, (h_recv C0 hW (ci := 4) rfl h12), (h_pre C0 hW [.ref a10])⟩ rfl rfl hl.1 rfl (lv_room (Nat.le_of_ble_eq_true rfl)) dX9_write_16 ⟨by show _ ≤ MC; omega, by show _ ≤ MS; omega⟩) (fun r11 S13 H locs h14 hW => ?_)
    obtain ⟨h15, hp⟩ := h14
    rw [h15] at hW
    replace hw := hp
    refine lv_sipush (v := 300) hx hb dX9_write_19 (by decide) ?_
    refine lv_icmp_le (tgt := 28) hx hb dX9_write_22 (by decide) (fun c16 => ?_) (fun c16 => ?_)
    · replace hw := hw.1 c16
      refine lv_aload_n hx hb dX9_write_28 rfl (lv_at hl 1 rfl) ?_
      obtain ⟨o17, h18, hw⟩ := hw
      refine h_getR C0 hW (T := TX9) (kf := 1) in_X9_write_RX9 h18 rfl (by decide) (List.mem_of_getElem? (i := 2) rfl) rfl dX9_write_29 ?_
      obtain ⟨a19, rfl, hw⟩ := hw
      obtain ⟨o20, h21, hw⟩ := hw
      refine h_getRN C0 hW (host := RX9) (T := TX7) (kf := 0) in_X9_write_RX7 h21 rfl (by decide) (by decide +kernel) rfl dX9_write_32 ?_
      refine lv_iconst (v := 0) hx hb dX9_write_35 (by decide) ?_
      obtain ⟨a22, rfl, hw⟩ := hw
      obtain ⟨h28, k24, n25, h26, h27, hw⟩ := hw
      refine h_gov C0 hW (va_runV (As := [.int 0]) (rest := []) ⟨hx, hb, hml, ho, hts⟩ (k_J4_setLength_d0 (l := l) (u := u) (X := X) (sz := H.size) _ a22 0 S k24 n25 hw) (cwV 1 hts gX9_write_J4_setLength_d00df rfl rfl rfl (by decide +kernel) ⟨Nat.le_of_ble_eq_true rfl, Nat.le_of_ble_eq_true rfl⟩) ⟨h_blind, (h_recv C0 hW (ci := 1) rfl h28), (h_pre C0 hW [.ref a22, .int 0])⟩ rfl rfl hl.1 rfl (lv_room (Nat.le_of_ble_eq_true rfl)) dX9_write_36 ⟨by show _ ≤ MC; omega, by show _ ≤ MS; omega⟩) (fun S29 H locs h30 hW => ?_)
      replace hw := h30
      have hkn : (k + k24) + (mc - k24) ≤ MC ∧ (n + n25) + (ms - n25) ≤ MS := by omega
      refine lv_aload_n hx hb dX9_write_39 rfl (lv_at hl 0 rfl) ?_
      refine lv_aload_n hx hb dX9_write_40 rfl (lv_at hl 1 rfl) ?_
      obtain ⟨o31, h32, hw⟩ := hw
      refine h_getR C0 hW (T := TX9) (kf := 1) in_X9_write_RX9 h32 rfl (by decide) (List.mem_of_getElem? (i := 2) rfl) rfl dX9_write_41 ?_
      obtain ⟨a33, rfl, hw⟩ := hw
      obtain ⟨o34, h35, hw⟩ := hw
      refine h_getRN C0 hW (host := RX9) (T := TX7) (kf := 0) in_X9_write_RX7 h35 rfl (by decide) (by decide +kernel) rfl dX9_write_44 ?_
      obtain ⟨h41, k37, n38, h39, h40, hw⟩ := hw
      refine h_gov C0 hW (va_runV (As := [va_rf o34]) (rest := []) ⟨hx, hb, hml, ho, hts⟩ (k_X3_writeOnto (l := l) (u := u) (X := X) (sz := H.size) _ a10 o34 S29 k37 n38 hw) (cwV 1 hts gX9_write_X3_writeOnto rfl rfl rfl (by decide +kernel) ⟨Nat.le_of_ble_eq_true rfl, Nat.le_of_ble_eq_true rfl⟩) ⟨h_blind, (h_recv C0 hW (ci := 4) rfl h41), (h_pre C0 hW [.ref a10, va_rf o34])⟩ rfl rfl hl.1 rfl (lv_room (Nat.le_of_ble_eq_true rfl)) dX9_write_47 ⟨by show _ ≤ MC; omega, by show _ ≤ MS; omega⟩) (fun S42 H locs h43 hW => ?_)
      replace hw := h43
      have hkn : ((k + k24) + k37) + ((mc - k24) - k37) ≤ MC ∧ ((n + n25) + n38) + ((ms - n25) - n38) ≤ MS := by omega
      refine lv_aload_n hx hb dX9_write_50 rfl (lv_at hl 1 rfl) ?_
      obtain ⟨o44, h45, hw⟩ := hw
      refine h_getR C0 hW (T := TX9) (kf := 1) in_X9_write_RX9 h45 rfl (by decide) (List.mem_of_getElem? (i := 2) rfl) rfl dX9_write_51 ?_
      obtain ⟨a46, rfl, hw⟩ := hw
      obtain ⟨o47, h48, hw⟩ := hw
      refine h_getRN C0 hW (host := RX9) (T := TX7) (kf := 0) in_X9_write_RX7 h48 rfl (by decide) (by decide +kernel) rfl dX9_write_54 ?_
      obtain ⟨a49, rfl, hw⟩ := hw
      obtain ⟨h51, hw⟩ := hw
      refine h_goi C0 hW (va_runV (As := []) (rest := []) ⟨hx, hb, hml, ho, hts⟩ (k_J4_length_8a (l := l) (u := u) (X := X) (sz := H.size) _ a49  S42  hw) (cwV 0 hts gX9_write_J4_length_8abf5 rfl rfl rfl (by decide +kernel) ⟨Nat.le_of_ble_eq_true rfl, Nat.le_of_ble_eq_true rfl⟩) ⟨h_blind, (h_recv C0 hW (ci := 1) rfl h51), (h_pre C0 hW [.ref a49])⟩ rfl rfl hl.1 rfl (lv_room (Nat.le_of_ble_eq_true rfl)) dX9_write_57 ⟨by show _ ≤ MC; omega, by show _ ≤ MS; omega⟩) (fun r50 S52 H locs h53 hW => ?_)
      obtain ⟨h54, hp⟩ := h53
      rw [h54] at hW
      replace hw := hp
      exact hret r50 S42 _ _ _ _ (by omega) (by omega) hw rfl dX9_write_60 _ _ _ hW hl
    · replace hw := hw.2 c16
      refine lv_bipush (v := (-3)) hx hb dX9_write_25 (by decide) ?_
      exact hret (-3) S _ _ _ _ (by omega) (by omega) hw rfl dX9_write_27 _ _ _ hW hl
  · subst c9
    replace hw := hw.1 rfl
    refine lv_iconst (v := (-1)) hx hb dX9_write_13 (by decide) ?_
    exact hret (-1) S _ _ _ _ (by omega) (by omega) hw rfl dX9_write_14 _ _ _ hW hl
set_option maxHeartbeats 4000000 in
set_option maxRecDepth 100000 in
theorem k_X9_write {l : Launch} {D : va_G} {u : hU} {X : va_W} {sz : Nat} (post : Int32 → hS → Prop) (t0 : Nat) (z1 : Int32) (S : hS) (mc ms : Nat) (hw : w_X9_write u post t0 z1 S mc ms) : hMi l yX9_write wsX9_write (rm_X9_write mc ms) D (gt u.2.1) u.1 u.2.2 sz X S [.ref t0, .int z1] post mc ms := by
  refine hMi_of (cc := cX9_write) (nL := 3) (ty := .int) (own := RX9) (by decide) rfl rfl (Nat.le_of_ble_eq_true rfl) ?_
  intro p e s m args below meth c A Q C0 hin hret
  exact t_X9_write_0 C0 t0 post hret z1 S mc ms 0 0 ⟨by omega, by omega⟩ hw
abbrev rm_X9_refuseNull : Room := { frames := 0, cells := 0, slots := 0, locals := 0 }
theorem in_X9_refuseNull_RX9 : ∀ w ∈ wsX90, w ∈ wsX9_refuseNull := fun w hw9 => List.mem_cons_of_mem _ (List.mem_append_right _ hw9)
set_option maxHeartbeats 4000000 in
set_option maxRecDepth 100000 in
theorem t_X9_refuseNull_0 (C0 : hX p s m args c cX9_refuseNull 1 RX9 wsX9_refuseNull D (gt u.2.1) A u.1 u.2.2) (t0 : Nat) (post : Int32 → hS → Prop) (hret : ∀ (r : Int32) (S' : hS) (pc : Nat) (lv : List (Nat × Value)) (k n : Nat), k ≤ 0 → n ≤ 0 → post r S' → narrow .int (.int r) = .int r → decode cX9_refuseNull pc = .ok (.ireturn, 1) → gG p l e (rm_X9_refuseNull) s m args below meth c Q D A 1 k n (hC X S') pc lv [.int r])  : ∀ (S : hS), w_X9_refuseNull u post t0   S → gG p l e (rm_X9_refuseNull) s m args below meth c Q D A 1 0 0 (hC X S) 0 [(0, .ref t0)] [] := by
  obtain ⟨⟨hx, hb, hml, ho, hts, hK, hA⟩, hR⟩ := id C0
  intro  S hw H locs ls hW hl
  rw [w_X9_refuseNull] at hw
  refine lv_aload_n hx hb dX9_refuseNull_0 rfl (lv_at hl 0 rfl) ?_
  refine lv_dup hx hb dX9_refuseNull_1 rfl ?_
  obtain ⟨v1, h2, hw⟩ := hw
  refine h_getI C0 hW (T := TX9) (kf := 7) in_X9_refuseNull_RX9 h2 rfl (by decide) (List.mem_of_getElem? (i := 1) rfl) rfl dX9_refuseNull_2 ?_
  refine lv_iconst (v := 1) hx hb dX9_refuseNull_5 (by decide) ?_
  refine lv_iadd hx hb dX9_refuseNull_6 ?_
  obtain ⟨fs3, h4, h5, hw⟩ := hw
  refine h_put C0 hW (T := TX9) (kf := 7) (ty := .int) in_X9_refuseNull_RX9 h4 rfl (by decide) h5 tyX9 tyX9_ok nmX9 (List.mem_of_getElem? (i := 1) rfl) rfl (Or.inl rfl) (by decide +kernel) rfl rfl dX9_refuseNull_7 rfl (fun H locs hW => ?_)
  obtain ⟨S6, eS6⟩ : ∃ z : hS, z = upS S t0 (.inr (10, fs3.set 7 (.int (v1 + 1)))) := ⟨_, rfl⟩
  rw [← eS6] at hW
  replace hw := hw S6 eS6
  refine lv_bipush (v := (-7)) hx hb dX9_refuseNull_10 (by decide) ?_
  exact hret (-7) S6 _ _ 0 0 (Nat.le_refl _) (Nat.le_refl _) hw rfl dX9_refuseNull_12 _ _ _ hW hl
set_option maxHeartbeats 4000000 in
set_option maxRecDepth 100000 in
theorem k_X9_refuseNull {l : Launch} {D : va_G} {u : hU} {X : va_W} {sz : Nat} (post : Int32 → hS → Prop) (t0 : Nat) (S : hS) (hw : w_X9_refuseNull u post t0  S) : hMi l yX9_refuseNull wsX9_refuseNull rm_X9_refuseNull D (gt u.2.1) u.1 u.2.2 sz X S [.ref t0] post 0 0 := by
  refine hMi_of (cc := cX9_refuseNull) (nL := 1) (ty := .int) (own := RX9) (by decide) rfl rfl (Nat.le_of_ble_eq_true rfl) ?_
  intro p e s m args below meth c A Q C0 hin hret
  exact t_X9_refuseNull_0 C0 t0 post hret  S hw
abbrev rm_X9_get : Room := { frames := 9, cells := 0, slots := 0, locals := 201 }
theorem in_X9_get_RX6 : ∀ w ∈ wsX60, w ∈ wsX9_get := fun w hw9 => List.mem_cons_of_mem _ (List.mem_append_left _ (List.mem_append_left _ (List.mem_append_left _ (List.mem_append_left _ (List.mem_append_right _ hw9)))))
theorem in_X9_get_RX9 : ∀ w ∈ wsX90, w ∈ wsX9_get := fun w hw9 => List.mem_cons_of_mem _ (List.mem_append_left _ (List.mem_append_left _ (List.mem_append_left _ (List.mem_append_left _ (List.mem_append_left _ (List.mem_append_right _ hw9))))))
set_option maxHeartbeats 4000000 in
set_option maxRecDepth 100000 in
theorem t_X9_get_0 (C0 : hX p s m args c cX9_get 7 RX9 wsX9_get D (gt u.2.1) A u.1 u.2.2) (t0 : Nat) (post : Int32 → hS → Prop) (hret : ∀ (r : Int32) (S' : hS) (pc : Nat) (lv : List (Nat × Value)) (k n : Nat), k ≤ 0 → n ≤ 0 → post r S' → narrow .int (.int r) = .int r → decode cX9_get pc = .ok (.ireturn, 1) → gG p l e (rm_X9_get) s m args below meth c Q D A 7 k n (hC X S') pc lv [.int r])  : ∀ (z1 : Int32) (z2 : Int32) (z3 : Int32) (S : hS), w_X9_get u post t0  z1 z2 z3 S → gG p l e (rm_X9_get) s m args below meth c Q D A 7 0 0 (hC X S) 0 [(0, .ref t0), (1, .int z1), (2, .int z2), (3, .int z3)] [] := by
  obtain ⟨⟨hx, hb, hml, ho, hts, hK, hA⟩, hR⟩ := id C0
  intro z1 z2 z3 S hw H locs ls hW hl
  rw [w_X9_get] at hw
  refine lv_aload_n hx hb dX9_get_0 rfl (lv_at hl 0 rfl) ?_
  refine lv_iload_n hx hb dX9_get_1 rfl (lv_at hl 2 rfl) ?_
  obtain ⟨h2, hw⟩ := hw
  refine h_goq C0 hW (va_runV (As := [.int z2]) (rest := []) ⟨hx, hb, hml, ho, hts⟩ (k_X9_slotAt (l := l) (u := u) (X := X) (sz := H.size) _ t0 z2 S  hw) (cwV 1 hts gX9_get_X9_slotAt rfl rfl rfl (by decide +kernel) ⟨Nat.le_of_ble_eq_true rfl, Nat.le_of_ble_eq_true rfl⟩) ⟨h_blind, (h_recv C0 hW (ci := 10) rfl h2), (h_pre C0 hW [.ref t0, .int z2])⟩ rfl rfl hl.1 rfl (lv_room (Nat.le_of_ble_eq_true rfl)) dX9_get_2 ⟨Nat.le_refl _, Nat.le_refl _⟩) (fun r1 S3 H locs h4 hW => ?_)
  obtain ⟨h5, hp⟩ := h4
  rw [h5] at hW
  replace hw := hp
  refine lv_astoreV (i := 4) (lv' := [(4, va_rf r1), (0, .ref t0), (1, .int z1), (2, .int z2), (3, .int z3)]) hx hb dX9_get_5 hl (by decide) rfl (fun ls hl9 => ?_)
  replace hl := hl9
  refine lv_aload_n hx hb dX9_get_7 rfl (lv_at hl 1 rfl) ?_
  refine lv_iload_n hx hb dX9_get_8 rfl (lv_at hl 4 rfl) ?_
  obtain ⟨h7, hw⟩ := hw
  refine h_goq C0 hW (va_runV (As := [.int z3]) (rest := []) ⟨hx, hb, hml, ho, hts⟩ (k_X9_slotAt (l := l) (u := u) (X := X) (sz := H.size) _ t0 z3 S  hw) (cwV 1 hts gX9_get_X9_slotAt rfl rfl rfl (by decide +kernel) ⟨Nat.le_of_ble_eq_true rfl, Nat.le_of_ble_eq_true rfl⟩) ⟨h_blind, (h_recv C0 hW (ci := 10) rfl h7), (h_pre C0 hW [.ref t0, .int z3])⟩ rfl rfl hl.1 rfl (lv_room (Nat.le_of_ble_eq_true rfl)) dX9_get_9 ⟨Nat.le_refl _, Nat.le_refl _⟩) (fun r6 S8 H locs h9 hW => ?_)
  obtain ⟨h10, hp⟩ := h9
  rw [h10] at hW
  replace hw := hp
  refine lv_astoreV (i := 5) (lv' := [(5, va_rf r6), (4, va_rf r1), (0, .ref t0), (1, .int z1), (2, .int z2), (3, .int z3)]) hx hb dX9_get_12 hl (by decide) (by show (5, va_rf r6) :: List.filter (fun q : Nat × Value => !(q.1 == 5) && !(q.1 + 1 == 5 && q.2.category == 2)) [(4, va_rf r1), (0, .ref t0), (1, .int z1), (2, .int z2), (3, .int z3)] = [(5, va_rf r6), (4, va_rf r1), (0, .ref t0), (1, .int z1), (2, .int z2), (3, .int z3)]; simp [va_rf_cat, va_c_ref, va_c_int, va_c_null]) (fun ls hl9 => ?_)
  replace hl := hl9
  refine lv_aload_n hx hb dX9_get_14 rfl (lv_at hl 2 rfl) ?_
  obtain ⟨o11, h12, hw⟩ := hw
  refine h_getR C0 hW (T := TX9) (kf := 2) in_X9_get_RX9 h12 rfl (by decide) (List.mem_of_getElem? (i := 1) rfl) rfl dX9_get_15 ?_
  refine lv_iload_n hx hb dX9_get_18 rfl (lv_at hl 3 rfl) ?_
  obtain ⟨a13, rfl, hw⟩ := hw
  obtain ⟨h15, hw⟩ := hw
  refine h_goq C0 hW (va_runV (As := [.int z1]) (rest := []) ⟨hx, hb, hml, ho, hts⟩ (k_X4_layerAt (l := l) (u := u) (X := X) (sz := H.size) _ a13 z1 S  hw) (cwV 1 hts gX9_get_X4_layerAt rfl rfl rfl (by decide +kernel) ⟨Nat.le_of_ble_eq_true rfl, Nat.le_of_ble_eq_true rfl⟩) ⟨h_blind, (h_recv C0 hW (ci := 5) rfl h15), (h_pre C0 hW [.ref a13, .int z1])⟩ rfl rfl hl.1 rfl (lv_room (Nat.le_of_ble_eq_true rfl)) dX9_get_19 ⟨Nat.le_refl _, Nat.le_refl _⟩) (fun r14 S16 H locs h17 hW => ?_)
  obtain ⟨h18, hp⟩ := h17
  rw [h18] at hW
  replace hw := hp
  refine lv_ifnullV (tgt := 35) hx hb dX9_get_22 (by decide) (fun c19 => ?_) (fun a20 c19 => ?_)
  · subst c19
    replace hw := hw.1 rfl
    refine lv_iconst (v := (-1)) hx hb dX9_get_35 (by decide) ?_
    exact hret (-1) S _ _ 0 0 (Nat.le_refl _) (Nat.le_refl _) hw rfl dX9_get_36 _ _ _ hW hl
  · subst c19
    replace hw := hw.2 a20 rfl
    refine lv_aloadV hx hb dX9_get_25 (lv_at hl 1 rfl) ?_
    refine lv_ifnullV (tgt := 35) hx hb dX9_get_27 (by decide) (fun c21 => ?_) (fun a22 c21 => ?_)
    · subst c21
      replace hw := hw.1 rfl
      refine lv_iconst (v := (-1)) hx hb dX9_get_35 (by decide) ?_
      exact hret (-1) S _ _ 0 0 (Nat.le_refl _) (Nat.le_refl _) hw rfl dX9_get_36 _ _ _ hW hl
    · subst c21
      replace hw := hw.2 a22 rfl
      refine lv_aloadV hx hb dX9_get_30 (lv_at hl 0 rfl) ?_
      refine lv_ifnonnullV (tgt := 37) hx hb dX9_get_32 (by decide) (fun a24 c23 => ?_) (fun c23 => ?_)
      · subst c23
        replace hw := hw.2 a24 rfl
        refine lv_aload hx hb dX9_get_37 (lv_at hl 1 rfl) ?_
        obtain ⟨o25, h26, hw⟩ := hw
        refine h_getRN C0 hW (host := RX9) (T := TX6) (kf := 0) in_X9_get_RX6 h26 rfl (by decide) (by decide +kernel) rfl dX9_get_39 ?_
        refine lv_ifnonnullV (tgt := 50) hx hb dX9_get_42 (by decide) (fun a28 c27 => ?_) (fun c27 => ?_)
        · subst c27
          replace hw := hw.2 a28 rfl
          refine lv_aload_n hx hb dX9_get_50 rfl (lv_at hl 2 rfl) ?_
          obtain ⟨o33, h34, hw⟩ := hw
          refine h_getR C0 hW (T := TX9) (kf := 2) in_X9_get_RX9 h34 rfl (by decide) (List.mem_of_getElem? (i := 1) rfl) rfl dX9_get_51 ?_
          refine lv_iload_n hx hb dX9_get_54 rfl (lv_at hl 3 rfl) ?_
          refine lv_aload hx hb dX9_get_55 (lv_at hl 1 rfl) ?_
          obtain ⟨o35, h36, hw⟩ := hw
          refine h_getRN C0 hW (host := RX9) (T := TX6) (kf := 0) in_X9_get_RX6 h36 rfl (by decide) (by decide +kernel) rfl dX9_get_57 ?_
          obtain ⟨a37, rfl, hw⟩ := hw
          obtain ⟨h39, hw⟩ := hw
          refine h_goq C0 hW (va_runV (As := [.int z1, va_rf o35]) (rest := []) ⟨hx, hb, hml, ho, hts⟩ (k_X4_lookUp (l := l) (u := u) (X := X) (sz := H.size) _ a37 z1 o35 S  hw) (cwV 2 hts gX9_get_X4_lookUp rfl rfl rfl (by decide +kernel) ⟨Nat.le_of_ble_eq_true rfl, Nat.le_of_ble_eq_true rfl⟩) ⟨h_blind, (h_recv C0 hW (ci := 5) rfl h39), (h_pre C0 hW [.ref a37, .int z1, va_rf o35])⟩ rfl rfl hl.1 rfl (lv_room (Nat.le_of_ble_eq_true rfl)) dX9_get_60 ⟨Nat.le_refl _, Nat.le_refl _⟩) (fun r38 S40 H locs h41 hW => ?_)
          obtain ⟨h42, hp⟩ := h41
          rw [h42] at hW
          replace hw := hp
          refine lv_astoreV (i := 6) (lv' := [(6, va_rf r38), (5, .ref a24), (4, .ref a22), (0, .ref t0), (1, .int z1), (2, .int z2), (3, .int z3)]) hx hb dX9_get_63 hl (by decide) rfl (fun ls hl9 => ?_)
          replace hl := hl9
          refine lv_aloadV hx hb dX9_get_65 (lv_at hl 0 rfl) ?_
          refine lv_ifnonnullV (tgt := 73) hx hb dX9_get_67 (by decide) (fun a44 c43 => ?_) (fun c43 => ?_)
          · subst c43
            replace hw := hw.2 a44 rfl
            refine lv_aload hx hb dX9_get_73 (lv_at hl 1 rfl) ?_
            refine lv_aload hx hb dX9_get_75 (lv_at hl 0 rfl) ?_
            refine h_goi C0 hW (va_runS (As := [.ref a24, .ref a44]) (rest := []) ⟨hx, hb, hml, ho, hts⟩ (k_X9_putInto (l := l) (u := u) (X := X) (sz := H.size) _ (some a24) (some a44) S  hw) (va_cwS 2 hts gX9_get_X9_putInto rfl rfl rfl (by decide +kernel) ⟨Nat.le_of_ble_eq_true rfl, Nat.le_of_ble_eq_true rfl⟩) ⟨h_blind, (h_pre C0 hW [.ref a24, .ref a44])⟩ rfl rfl hl.1 rfl (lv_room (Nat.le_of_ble_eq_true rfl)) dX9_get_77 ⟨Nat.le_refl _, Nat.le_refl _⟩) (fun r45 S46 H locs h47 hW => ?_)
            replace hw := h47
            exact hret r45 S46 _ _ 0 0 (Nat.le_refl _) (Nat.le_refl _) hw rfl dX9_get_80 _ _ _ hW hl
          · subst c43
            replace hw := hw.1 rfl
            refine lv_bipush (v := (-5)) hx hb dX9_get_70 (by decide) ?_
            exact hret (-5) S _ _ 0 0 (Nat.le_refl _) (Nat.le_refl _) hw rfl dX9_get_72 _ _ _ hW hl
        · subst c27
          replace hw := hw.1 rfl
          refine lv_aload_n hx hb dX9_get_45 rfl (lv_at hl 2 rfl) ?_
          obtain ⟨h30, hw⟩ := hw
          refine h_goi C0 hW (va_runV (As := []) (rest := []) ⟨hx, hb, hml, ho, hts⟩ (k_X9_refuseNull (l := l) (u := u) (X := X) (sz := H.size) _ t0  S  hw) (cwV 0 hts gX9_get_X9_refuseNull rfl rfl rfl (by decide +kernel) ⟨Nat.le_of_ble_eq_true rfl, Nat.le_of_ble_eq_true rfl⟩) ⟨h_blind, (h_recv C0 hW (ci := 10) rfl h30), (h_pre C0 hW [.ref t0])⟩ rfl rfl hl.1 rfl (lv_room (Nat.le_of_ble_eq_true rfl)) dX9_get_46 ⟨Nat.le_refl _, Nat.le_refl _⟩) (fun r29 S31 H locs h32 hW => ?_)
          replace hw := h32
          exact hret r29 S31 _ _ 0 0 (Nat.le_refl _) (Nat.le_refl _) hw rfl dX9_get_49 _ _ _ hW hl
      · subst c23
        replace hw := hw.1 rfl
        refine lv_iconst (v := (-1)) hx hb dX9_get_35 (by decide) ?_
        exact hret (-1) S _ _ 0 0 (Nat.le_refl _) (Nat.le_refl _) hw rfl dX9_get_36 _ _ _ hW hl
set_option maxHeartbeats 4000000 in
set_option maxRecDepth 100000 in
theorem k_X9_get {l : Launch} {D : va_G} {u : hU} {X : va_W} {sz : Nat} (post : Int32 → hS → Prop) (t0 : Nat) (z1 : Int32) (z2 : Int32) (z3 : Int32) (S : hS) (hw : w_X9_get u post t0 z1 z2 z3 S) : hMi l yX9_get wsX9_get rm_X9_get D (gt u.2.1) u.1 u.2.2 sz X S [.ref t0, .int z1, .int z2, .int z3] post 0 0 := by
  refine hMi_of (cc := cX9_get) (nL := 7) (ty := .int) (own := RX9) (by decide) rfl rfl (Nat.le_of_ble_eq_true rfl) ?_
  intro p e s m args below meth c A Q C0 hin hret
  exact t_X9_get_0 C0 t0 post hret z1 z2 z3 S hw
end RAWM
