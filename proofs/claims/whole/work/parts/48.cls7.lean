section RAWM
variable {p : Program} {l : Launch} {e : Env} {s : State} {m : MethodId} {args : Array Value} {below : List Frame} {meth : Method} {c : Code} {Q : State → Prop}
variable {D : va_G} {A : Nat → Prop} {u : hU} {X : va_W} {MC MS : Nat}
abbrev rm_X9_merge (MC MS : Nat) : Room := { frames := 9, cells := MC, slots := MS, locals := 197 }
theorem in_X9_merge_RX2 : ∀ w ∈ wsX20, w ∈ wsX9_merge := fun w hw9 => List.mem_cons_of_mem _ (List.mem_append_left _ (List.mem_append_left _ (List.mem_append_right _ hw9)))
theorem in_X9_merge_RX9 : ∀ w ∈ wsX90, w ∈ wsX9_merge := fun w hw9 => List.mem_cons_of_mem _ (List.mem_append_left _ (List.mem_append_left _ (List.mem_append_left _ (List.mem_append_right _ hw9))))
set_option maxHeartbeats 4000000 in
set_option maxRecDepth 100000 in
theorem t_X9_merge_0 (C0 : hX p s m args c cX9_merge 5 RX9 wsX9_merge D (gt u.2.1) A u.1 u.2.2) (t0 : Nat) (post : Int32 → hS → Prop) (hret : ∀ (r : Int32) (S' : hS) (pc : Nat) (lv : List (Nat × Value)) (k n : Nat), k ≤ MC → n ≤ MS → post r S' → narrow .int (.int r) = .int r → decode cX9_merge pc = .ok (.ireturn, 1) → gG p l e (rm_X9_merge MC MS) s m args below meth c Q D A 5 k n (hC X S') pc lv [.int r])  : ∀ (z1 : Int32) (z2 : Int32) (S : hS) (mc ms k n : Nat), k + mc ≤ MC ∧ n + ms ≤ MS → w_X9_merge u post t0  z1 z2 S mc ms → gG p l e (rm_X9_merge MC MS) s m args below meth c Q D A 5 k n (hC X S) 0 [(0, .ref t0), (1, .int z1), (2, .int z2)] [] := by
  obtain ⟨⟨hx, hb, hml, ho, hts, hK, hA⟩, hR⟩ := id C0
  intro z1 z2 S mc ms k n hkn hw H locs ls hW hl
  rw [w_X9_merge] at hw
  refine lv_iload_n hx hb dX9_merge_0 rfl (lv_at hl 1 rfl) ?_
  refine lv_iconst (v := 3) hx hb dX9_merge_1 (by decide) ?_
  refine g_calls (As := [.int z1, .int 3]) (rest := []) ⟨hx, hb, hml, ho, hts⟩ hl.1 (k_X9_isWithin (l := l) _ z1 3 hw) (va_cwS 2 hts gX9_merge_X9_isWithin rfl rfl rfl (by decide +kernel) ⟨Nat.le_of_ble_eq_true rfl, Nat.le_of_ble_eq_true rfl⟩) (Nat.le_of_ble_eq_true rfl) dX9_merge_2 rfl ⟨by show _ ≤ MC; omega, by show _ ≤ MS; omega⟩ (fun r1 hp => ?_)
  replace hw := hp
  refine lv_if_eq (tgt := 21) hx hb dX9_merge_5 (by decide) (fun c2 => ?_) (fun c2 => ?_)
  · replace hw := hw.1 c2
    refine lv_iconst (v := (-1)) hx hb dX9_merge_21 (by decide) ?_
    exact hret (-1) S _ _ _ _ (by omega) (by omega) hw rfl dX9_merge_22 _ _ _ hW hl
  · replace hw := hw.2 c2
    refine lv_iload_n hx hb dX9_merge_8 rfl (lv_at hl 2 rfl) ?_
    refine lv_iconst (v := 3) hx hb dX9_merge_9 (by decide) ?_
    refine g_calls (As := [.int z2, .int 3]) (rest := []) ⟨hx, hb, hml, ho, hts⟩ hl.1 (k_X9_isWithin (l := l) _ z2 3 hw) (va_cwS 2 hts gX9_merge_X9_isWithin rfl rfl rfl (by decide +kernel) ⟨Nat.le_of_ble_eq_true rfl, Nat.le_of_ble_eq_true rfl⟩) (Nat.le_of_ble_eq_true rfl) dX9_merge_10 rfl ⟨by show _ ≤ MC; omega, by show _ ≤ MS; omega⟩ (fun r3 hp => ?_)
    replace hw := hp
    refine lv_if_eq (tgt := 21) hx hb dX9_merge_13 (by decide) (fun c4 => ?_) (fun c4 => ?_)
    · replace hw := hw.1 c4
      refine lv_iconst (v := (-1)) hx hb dX9_merge_21 (by decide) ?_
      exact hret (-1) S _ _ _ _ (by omega) (by omega) hw rfl dX9_merge_22 _ _ _ hW hl
    · replace hw := hw.2 c4
      refine lv_iload_n hx hb dX9_merge_16 rfl (lv_at hl 1 rfl) ?_
      refine lv_iload_n hx hb dX9_merge_17 rfl (lv_at hl 2 rfl) ?_
      refine lv_icmp_ne (tgt := 23) hx hb dX9_merge_18 (by decide) (fun c5 => ?_) (fun c5 => ?_)
      · replace hw := hw.1 c5
        refine lv_aload_n hx hb dX9_merge_23 rfl (lv_at hl 0 rfl) ?_
        obtain ⟨o6, h7, hw⟩ := hw
        refine h_getR C0 hW (T := TX9) (kf := 6) in_X9_merge_RX9 h7 rfl (by decide) (List.mem_of_getElem? (i := 1) rfl) rfl dX9_merge_24 ?_
        refine lv_iload_n hx hb dX9_merge_27 rfl (lv_at hl 1 rfl) ?_
        obtain ⟨a8, rfl, hw⟩ := hw
        obtain ⟨N9, g10, h11, h12, hw⟩ := hw
        refine h_qald C0 hW 7 h11 rfl h12 dX9_merge_28 (fun o13 eo13 => ?_)
        replace hw := hw o13 eo13
        refine lv_astoreV_n (i := 3) (lv' := [(3, va_rf o13), (0, .ref t0), (1, .int z1), (2, .int z2)]) hx hb dX9_merge_29 rfl hl (by decide) rfl (fun ls hl9 => ?_)
        replace hl := hl9
        refine lv_aload_n hx hb dX9_merge_30 rfl (lv_at hl 1 rfl) ?_
        obtain ⟨o14, h15, hw⟩ := hw
        refine h_getR C0 hW (T := TX9) (kf := 6) in_X9_merge_RX9 h15 rfl (by decide) (List.mem_of_getElem? (i := 1) rfl) rfl dX9_merge_31 ?_
        refine lv_iload_n hx hb dX9_merge_34 rfl (lv_at hl 3 rfl) ?_
        obtain ⟨a16, rfl, hw⟩ := hw
        obtain ⟨N17, g18, h19, h20, hw⟩ := hw
        refine h_qald C0 hW 7 h19 rfl h20 dX9_merge_35 (fun o21 eo21 => ?_)
        replace hw := hw o21 eo21
        refine lv_astoreV (i := 4) (lv' := [(4, va_rf o21), (3, va_rf o13), (0, .ref t0), (1, .int z1), (2, .int z2)]) hx hb dX9_merge_36 hl (by decide) (by show (4, va_rf o21) :: List.filter (fun q : Nat × Value => !(q.1 == 4) && !(q.1 + 1 == 4 && q.2.category == 2)) [(3, va_rf o13), (0, .ref t0), (1, .int z1), (2, .int z2)] = [(4, va_rf o21), (3, va_rf o13), (0, .ref t0), (1, .int z1), (2, .int z2)]; simp [va_rf_cat, va_c_ref, va_c_int, va_c_null]) (fun ls hl9 => ?_)
        replace hl := hl9
        refine lv_aloadV_n hx hb dX9_merge_38 rfl (lv_at hl 1 rfl) ?_
        refine lv_ifnullV (tgt := 47) hx hb dX9_merge_39 (by decide) (fun c22 => ?_) (fun a23 c22 => ?_)
        · subst c22
          replace hw := hw.1 rfl
          refine lv_bipush (v := (-4)) hx hb dX9_merge_47 (by decide) ?_
          exact hret (-4) S _ _ _ _ (by omega) (by omega) hw rfl dX9_merge_49 _ _ _ hW hl
        · subst c22
          replace hw := hw.2 a23 rfl
          refine lv_aloadV hx hb dX9_merge_42 (lv_at hl 0 rfl) ?_
          refine lv_ifnonnullV (tgt := 50) hx hb dX9_merge_44 (by decide) (fun a25 c24 => ?_) (fun c24 => ?_)
          · subst c24
            replace hw := hw.2 a25 rfl
            refine lv_aload hx hb dX9_merge_50 (lv_at hl 0 rfl) ?_
            obtain ⟨o26, h27, hw⟩ := hw
            refine h_getRN C0 hW (host := RX9) (T := TX2) (kf := 3) in_X9_merge_RX2 h27 rfl (by decide) (by decide +kernel) rfl dX9_merge_52 ?_
            refine lv_ifnonnullV (tgt := 63) hx hb dX9_merge_55 (by decide) (fun a29 c28 => ?_) (fun c28 => ?_)
            · subst c28
              replace hw := hw.2 a29 rfl
              refine lv_aload_n hx hb dX9_merge_63 rfl (lv_at hl 1 rfl) ?_
              refine lv_aload hx hb dX9_merge_64 (lv_at hl 0 rfl) ?_
              obtain ⟨o35, h36, hw⟩ := hw
              refine h_getRN C0 hW (host := RX9) (T := TX2) (kf := 3) in_X9_merge_RX2 h36 rfl (by decide) (by decide +kernel) rfl dX9_merge_66 ?_
              obtain ⟨k38, n39, h40, h41, hw⟩ := hw
              refine h_goi C0 hW (va_runS (As := [.ref a23, va_rf o35]) (rest := []) ⟨hx, hb, hml, ho, hts⟩ (k_X9_addTo (l := l) (u := u) (X := X) (sz := H.size) _ (some a23) o35 S k38 n39 hw) (va_cwS 2 hts gX9_merge_X9_addTo rfl rfl rfl (by decide +kernel) ⟨Nat.le_of_ble_eq_true rfl, Nat.le_of_ble_eq_true rfl⟩) ⟨h_blind, (h_pre C0 hW [.ref a23, va_rf o35])⟩ rfl rfl hl.1 rfl (lv_room (Nat.le_of_ble_eq_true rfl)) dX9_merge_69 ⟨by show _ ≤ MC; omega, by show _ ≤ MS; omega⟩) (fun r37 S42 H locs h43 hW => ?_)
              replace hw := h43
              have hkn : (k + k38) + (mc - k38) ≤ MC ∧ (n + n39) + (ms - n39) ≤ MS := by omega
              exact hret r37 S42 _ _ _ _ (by omega) (by omega) hw rfl dX9_merge_72 _ _ _ hW hl
            · subst c28
              replace hw := hw.1 rfl
              refine lv_aload_n hx hb dX9_merge_58 rfl (lv_at hl 1 rfl) ?_
              obtain ⟨h31, hw⟩ := hw
              refine h_goi C0 hW (va_runV (As := []) (rest := []) ⟨hx, hb, hml, ho, hts⟩ (k_X2_resultLength (l := l) (u := u) (X := X) (sz := H.size) _ a23  S  hw) (cwV 0 hts gX9_merge_X2_resultLength rfl rfl rfl (by decide +kernel) ⟨Nat.le_of_ble_eq_true rfl, Nat.le_of_ble_eq_true rfl⟩) ⟨h_blind, (h_recv C0 hW (ci := 3) rfl h31), (h_pre C0 hW [.ref a23])⟩ rfl rfl hl.1 rfl (lv_room (Nat.le_of_ble_eq_true rfl)) dX9_merge_59 ⟨by show _ ≤ MC; omega, by show _ ≤ MS; omega⟩) (fun r30 S32 H locs h33 hW => ?_)
              obtain ⟨h34, hp⟩ := h33
              rw [h34] at hW
              replace hw := hp
              exact hret r30 S _ _ _ _ (by omega) (by omega) hw rfl dX9_merge_62 _ _ _ hW hl
          · subst c24
            replace hw := hw.1 rfl
            refine lv_bipush (v := (-4)) hx hb dX9_merge_47 (by decide) ?_
            exact hret (-4) S _ _ _ _ (by omega) (by omega) hw rfl dX9_merge_49 _ _ _ hW hl
      · replace hw := hw.2 c5
        refine lv_iconst (v := (-1)) hx hb dX9_merge_21 (by decide) ?_
        exact hret (-1) S _ _ _ _ (by omega) (by omega) hw rfl dX9_merge_22 _ _ _ hW hl
set_option maxHeartbeats 4000000 in
set_option maxRecDepth 100000 in
theorem k_X9_merge {l : Launch} {D : va_G} {u : hU} {X : va_W} {sz : Nat} (post : Int32 → hS → Prop) (t0 : Nat) (z1 : Int32) (z2 : Int32) (S : hS) (mc ms : Nat) (hw : w_X9_merge u post t0 z1 z2 S mc ms) : hMi l yX9_merge wsX9_merge (rm_X9_merge mc ms) D (gt u.2.1) u.1 u.2.2 sz X S [.ref t0, .int z1, .int z2] post mc ms := by
  refine hMi_of (cc := cX9_merge) (nL := 5) (ty := .int) (own := RX9) (by decide) rfl rfl (Nat.le_of_ble_eq_true rfl) ?_
  intro p e s m args below meth c A Q C0 hin hret
  exact t_X9_merge_0 C0 t0 post hret z1 z2 S mc ms 0 0 ⟨by omega, by omega⟩ hw
abbrev rm_X9_joined (MC MS : Nat) : Room := { frames := 8, cells := MC, slots := MS, locals := 175 }
theorem in_X9_joined_RX9 : ∀ w ∈ wsX90, w ∈ wsX9_joined := fun w hw9 => List.mem_cons_of_mem _ (List.mem_append_left _ (List.mem_append_left _ (List.mem_append_left _ (List.mem_append_left _ (List.mem_append_right _ hw9)))))
set_option maxHeartbeats 4000000 in
set_option maxRecDepth 100000 in
theorem t_X9_joined_0 (C0 : hX p s m args c cX9_joined 5 RX9 wsX9_joined D (gt u.2.1) A u.1 u.2.2) (t0 : Nat) (post : Int32 → hS → Prop) (hret : ∀ (r : Int32) (S' : hS) (pc : Nat) (lv : List (Nat × Value)) (k n : Nat), k ≤ MC → n ≤ MS → post r S' → narrow .int (.int r) = .int r → decode cX9_joined pc = .ok (.ireturn, 1) → gG p l e (rm_X9_joined MC MS) s m args below meth c Q D A 5 k n (hC X S') pc lv [.int r])  : ∀ (z1 : Int32) (z2 : Int32) (S : hS) (mc ms k n : Nat), k + mc ≤ MC ∧ n + ms ≤ MS → w_X9_joined u post t0  z1 z2 S mc ms → gG p l e (rm_X9_joined MC MS) s m args below meth c Q D A 5 k n (hC X S) 0 [(0, .ref t0), (1, .int z1), (2, .int z2)] [] := by
  obtain ⟨⟨hx, hb, hml, ho, hts, hK, hA⟩, hR⟩ := id C0
  intro z1 z2 S mc ms k n hkn hw H locs ls hW hl
  rw [w_X9_joined] at hw
  refine lv_aload_n hx hb dX9_joined_0 rfl (lv_at hl 0 rfl) ?_
  refine lv_iload_n hx hb dX9_joined_1 rfl (lv_at hl 2 rfl) ?_
  obtain ⟨h2, hw⟩ := hw
  refine h_goq C0 hW (va_runV (As := [.int z2]) (rest := []) ⟨hx, hb, hml, ho, hts⟩ (k_X9_slotAt (l := l) (u := u) (X := X) (sz := H.size) _ t0 z2 S  hw) (cwV 1 hts gX9_joined_X9_slotAt rfl rfl rfl (by decide +kernel) ⟨Nat.le_of_ble_eq_true rfl, Nat.le_of_ble_eq_true rfl⟩) ⟨h_blind, (h_recv C0 hW (ci := 10) rfl h2), (h_pre C0 hW [.ref t0, .int z2])⟩ rfl rfl hl.1 rfl (lv_room (Nat.le_of_ble_eq_true rfl)) dX9_joined_2 ⟨by show _ ≤ MC; omega, by show _ ≤ MS; omega⟩) (fun r1 S3 H locs h4 hW => ?_)
  obtain ⟨h5, hp⟩ := h4
  rw [h5] at hW
  replace hw := hp
  refine lv_astoreV_n (i := 3) (lv' := [(3, va_rf r1), (0, .ref t0), (1, .int z1), (2, .int z2)]) hx hb dX9_joined_5 rfl hl (by decide) rfl (fun ls hl9 => ?_)
  replace hl := hl9
  refine lv_iload_n hx hb dX9_joined_6 rfl (lv_at hl 2 rfl) ?_
  refine lv_iconst (v := 3) hx hb dX9_joined_7 (by decide) ?_
  refine g_calls (As := [.int z1, .int 3]) (rest := []) ⟨hx, hb, hml, ho, hts⟩ hl.1 (k_X9_isWithin (l := l) _ z1 3 hw) (va_cwS 2 hts gX9_joined_X9_isWithin rfl rfl rfl (by decide +kernel) ⟨Nat.le_of_ble_eq_true rfl, Nat.le_of_ble_eq_true rfl⟩) (Nat.le_of_ble_eq_true rfl) dX9_joined_8 rfl ⟨by show _ ≤ MC; omega, by show _ ≤ MS; omega⟩ (fun r6 hp => ?_)
  replace hw := hp
  refine lv_if_eq (tgt := 18) hx hb dX9_joined_11 (by decide) (fun c7 => ?_) (fun c7 => ?_)
  · replace hw := hw.1 c7
    refine lv_iconst (v := (-1)) hx hb dX9_joined_18 (by decide) ?_
    exact hret (-1) S _ _ _ _ (by omega) (by omega) hw rfl dX9_joined_19 _ _ _ hW hl
  · replace hw := hw.2 c7
    refine lv_aloadV_n hx hb dX9_joined_14 rfl (lv_at hl 0 rfl) ?_
    refine lv_ifnonnullV (tgt := 20) hx hb dX9_joined_15 (by decide) (fun a9 c8 => ?_) (fun c8 => ?_)
    · subst c8
      replace hw := hw.2 a9 rfl
      refine lv_aload_n hx hb dX9_joined_20 rfl (lv_at hl 1 rfl) ?_
      obtain ⟨o10, h11, hw⟩ := hw
      refine h_getR C0 hW (T := TX9) (kf := 6) in_X9_joined_RX9 h11 rfl (by decide) (List.mem_of_getElem? (i := 1) rfl) rfl dX9_joined_21 ?_
      refine lv_iload_n hx hb dX9_joined_24 rfl (lv_at hl 2 rfl) ?_
      obtain ⟨a12, rfl, hw⟩ := hw
      obtain ⟨N13, g14, h15, h16, hw⟩ := hw
      refine h_qald C0 hW 7 h15 rfl h16 dX9_joined_25 (fun o17 eo17 => ?_)
      replace hw := hw o17 eo17
      refine lv_astoreV (i := 4) (lv' := [(4, va_rf o17), (3, .ref a9), (0, .ref t0), (1, .int z1), (2, .int z2)]) hx hb dX9_joined_26 hl (by decide) rfl (fun ls hl9 => ?_)
      replace hl := hl9
      refine lv_aloadV hx hb dX9_joined_28 (lv_at hl 0 rfl) ?_
      refine lv_ifnonnullV (tgt := 36) hx hb dX9_joined_30 (by decide) (fun a19 c18 => ?_) (fun c18 => ?_)
      · subst c18
        replace hw := hw.2 a19 rfl
        refine lv_aload_n hx hb dX9_joined_36 rfl (lv_at hl 1 rfl) ?_
        refine lv_aload hx hb dX9_joined_37 (lv_at hl 0 rfl) ?_
        obtain ⟨h25, k21, n22, h23, h24, hw⟩ := hw
        refine h_goq C0 hW (va_runV (As := []) (rest := [.ref a9]) ⟨hx, hb, hml, ho, hts⟩ (k_X2_result (l := l) (u := u) (X := X) (sz := H.size) _ a19  S k21 n22 hw) (cwV 0 hts gX9_joined_X2_result rfl rfl rfl (by decide +kernel) ⟨Nat.le_of_ble_eq_true rfl, Nat.le_of_ble_eq_true rfl⟩) ⟨h_blind, (h_recv C0 hW (ci := 3) rfl h25), (h_pre C0 hW [.ref a19])⟩ rfl rfl hl.1 rfl (lv_room (Nat.le_of_ble_eq_true rfl)) dX9_joined_39 ⟨by show _ ≤ MC; omega, by show _ ≤ MS; omega⟩) (fun r20 S26 H locs h27 hW => ?_)
        replace hw := h27
        have hkn : (k + k21) + (mc - k21) ≤ MC ∧ (n + n22) + (ms - n22) ≤ MS := by omega
        refine h_goi C0 hW (va_runS (As := [.ref a9, va_rf r20]) (rest := []) ⟨hx, hb, hml, ho, hts⟩ (k_X9_putInto (l := l) (u := u) (X := X) (sz := H.size) _ (some a9) r20 S26  hw) (va_cwS 2 hts gX9_joined_X9_putInto rfl rfl rfl (by decide +kernel) ⟨Nat.le_of_ble_eq_true rfl, Nat.le_of_ble_eq_true rfl⟩) ⟨h_blind, (h_pre C0 hW [.ref a9, va_rf r20])⟩ rfl rfl hl.1 rfl (lv_room (Nat.le_of_ble_eq_true rfl)) dX9_joined_42 ⟨by show _ ≤ MC; omega, by show _ ≤ MS; omega⟩) (fun r28 S29 H locs h30 hW => ?_)
        replace hw := h30
        exact hret r28 S29 _ _ _ _ (by omega) (by omega) hw rfl dX9_joined_45 _ _ _ hW hl
      · subst c18
        replace hw := hw.1 rfl
        refine lv_bipush (v := (-4)) hx hb dX9_joined_33 (by decide) ?_
        exact hret (-4) S _ _ _ _ (by omega) (by omega) hw rfl dX9_joined_35 _ _ _ hW hl
    · subst c8
      replace hw := hw.1 rfl
      refine lv_iconst (v := (-1)) hx hb dX9_joined_18 (by decide) ?_
      exact hret (-1) S _ _ _ _ (by omega) (by omega) hw rfl dX9_joined_19 _ _ _ hW hl
set_option maxHeartbeats 4000000 in
set_option maxRecDepth 100000 in
theorem k_X9_joined {l : Launch} {D : va_G} {u : hU} {X : va_W} {sz : Nat} (post : Int32 → hS → Prop) (t0 : Nat) (z1 : Int32) (z2 : Int32) (S : hS) (mc ms : Nat) (hw : w_X9_joined u post t0 z1 z2 S mc ms) : hMi l yX9_joined wsX9_joined (rm_X9_joined mc ms) D (gt u.2.1) u.1 u.2.2 sz X S [.ref t0, .int z1, .int z2] post mc ms := by
  refine hMi_of (cc := cX9_joined) (nL := 5) (ty := .int) (own := RX9) (by decide) rfl rfl (Nat.le_of_ble_eq_true rfl) ?_
  intro p e s m args below meth c A Q C0 hin hret
  exact t_X9_joined_0 C0 t0 post hret z1 z2 S mc ms 0 0 ⟨by omega, by omega⟩ hw
abbrev rm_X9_joinedLength : Room := { frames := 3, cells := 0, slots := 0, locals := 60 }
theorem in_X9_joinedLength_RX9 : ∀ w ∈ wsX90, w ∈ wsX9_joinedLength := fun w hw9 => List.mem_cons_of_mem _ (List.mem_append_left _ (List.mem_append_left _ (List.mem_append_right _ hw9)))
set_option maxHeartbeats 4000000 in
set_option maxRecDepth 100000 in
theorem t_X9_joinedLength_0 (C0 : hX p s m args c cX9_joinedLength 3 RX9 wsX9_joinedLength D (gt u.2.1) A u.1 u.2.2) {S : hS} (t0 : Nat) (post : Int32 → Prop) (hret : ∀ (r : Int32) (S' : hS) (pc : Nat) (lv : List (Nat × Value)) (k n : Nat), k ≤ 0 → n ≤ 0 → (S' = S ∧ post r) → narrow .int (.int r) = .int r → decode cX9_joinedLength pc = .ok (.ireturn, 1) → gG p l e (rm_X9_joinedLength) s m args below meth c Q D A 3 k n (hC X S') pc lv [.int r])  : ∀ (z1 : Int32), w_X9_joinedLength u post t0  z1 S → gG p l e (rm_X9_joinedLength) s m args below meth c Q D A 3 0 0 (hC X S) 0 [(0, .ref t0), (1, .int z1)] [] := by
  obtain ⟨⟨hx, hb, hml, ho, hts, hK, hA⟩, hR⟩ := id C0
  intro z1 hw H locs ls hW hl
  rw [w_X9_joinedLength] at hw
  refine lv_iload_n hx hb dX9_joinedLength_0 rfl (lv_at hl 1 rfl) ?_
  refine lv_iconst (v := 3) hx hb dX9_joinedLength_1 (by decide) ?_
  refine g_calls (As := [.int z1, .int 3]) (rest := []) ⟨hx, hb, hml, ho, hts⟩ hl.1 (k_X9_isWithin (l := l) _ z1 3 hw) (va_cwS 2 hts gX9_joinedLength_X9_isWithin rfl rfl rfl (by decide +kernel) ⟨Nat.le_of_ble_eq_true rfl, Nat.le_of_ble_eq_true rfl⟩) (Nat.le_of_ble_eq_true rfl) dX9_joinedLength_2 rfl ⟨Nat.le_refl _, Nat.le_refl _⟩ (fun r1 hp => ?_)
  replace hw := hp
  refine lv_if_ne (tgt := 10) hx hb dX9_joinedLength_5 (by decide) (fun c2 => ?_) (fun c2 => ?_)
  · replace hw := hw.1 c2
    refine lv_aload_n hx hb dX9_joinedLength_10 rfl (lv_at hl 0 rfl) ?_
    obtain ⟨o3, h4, hw⟩ := hw
    refine h_getR C0 hW (T := TX9) (kf := 6) in_X9_joinedLength_RX9 h4 rfl (by decide) (List.mem_of_getElem? (i := 1) rfl) rfl dX9_joinedLength_11 ?_
    refine lv_iload_n hx hb dX9_joinedLength_14 rfl (lv_at hl 1 rfl) ?_
    obtain ⟨a5, rfl, hw⟩ := hw
    obtain ⟨N6, g7, h8, h9, hw⟩ := hw
    refine h_qald C0 hW 7 h8 rfl h9 dX9_joinedLength_15 (fun o10 eo10 => ?_)
    replace hw := hw o10 eo10
    refine lv_astoreV_n (i := 2) (lv' := [(2, va_rf o10), (0, .ref t0), (1, .int z1)]) hx hb dX9_joinedLength_16 rfl hl (by decide) rfl (fun ls hl9 => ?_)
    replace hl := hl9
    refine lv_aloadV_n hx hb dX9_joinedLength_17 rfl (lv_at hl 0 rfl) ?_
    refine lv_ifnonnullV (tgt := 24) hx hb dX9_joinedLength_18 (by decide) (fun a12 c11 => ?_) (fun c11 => ?_)
    · subst c11
      replace hw := hw.2 a12 rfl
      refine lv_aload_n hx hb dX9_joinedLength_24 rfl (lv_at hl 0 rfl) ?_
      obtain ⟨h14, hw⟩ := hw
      refine h_goi C0 hW (va_runV (As := []) (rest := []) ⟨hx, hb, hml, ho, hts⟩ (k_X2_resultLength (l := l) (u := u) (X := X) (sz := H.size) _ a12  S  hw) (cwV 0 hts gX9_joinedLength_X2_resultLength rfl rfl rfl (by decide +kernel) ⟨Nat.le_of_ble_eq_true rfl, Nat.le_of_ble_eq_true rfl⟩) ⟨h_blind, (h_recv C0 hW (ci := 3) rfl h14), (h_pre C0 hW [.ref a12])⟩ rfl rfl hl.1 rfl (lv_room (Nat.le_of_ble_eq_true rfl)) dX9_joinedLength_25 ⟨Nat.le_refl _, Nat.le_refl _⟩) (fun r13 S15 H locs h16 hW => ?_)
      obtain ⟨h17, hp⟩ := h16
      rw [h17] at hW
      replace hw := hp
      exact hret r13 S _ _ 0 0 (Nat.le_refl _) (Nat.le_refl _) ⟨rfl, hw⟩ rfl dX9_joinedLength_28 _ _ _ hW hl
    · subst c11
      replace hw := hw.1 rfl
      refine lv_bipush (v := (-4)) hx hb dX9_joinedLength_21 (by decide) ?_
      exact hret (-4) S _ _ 0 0 (Nat.le_refl _) (Nat.le_refl _) ⟨rfl, hw⟩ rfl dX9_joinedLength_23 _ _ _ hW hl
  · replace hw := hw.2 c2
    refine lv_iconst (v := (-1)) hx hb dX9_joinedLength_8 (by decide) ?_
    exact hret (-1) S _ _ 0 0 (Nat.le_refl _) (Nat.le_refl _) ⟨rfl, hw⟩ rfl dX9_joinedLength_9 _ _ _ hW hl
set_option maxHeartbeats 4000000 in
set_option maxRecDepth 100000 in
theorem k_X9_joinedLength {l : Launch} {D : va_G} {u : hU} {X : va_W} {sz : Nat} (post : Int32 → Prop) (t0 : Nat) (z1 : Int32) (S : hS) (hw : w_X9_joinedLength u post t0 z1 S) : hMi l yX9_joinedLength wsX9_joinedLength rm_X9_joinedLength D (gt u.2.1) u.1 u.2.2 sz X S [.ref t0, .int z1] (fun r S' => S' = S ∧ post r) 0 0 := by
  refine hMi_of (cc := cX9_joinedLength) (nL := 3) (ty := .int) (own := RX9) (by decide) rfl rfl (Nat.le_of_ble_eq_true rfl) ?_
  intro p e s m args below meth c A Q C0 hin hret
  exact t_X9_joinedLength_0 C0 t0 post hret z1 hw
abbrev rm_X9_setJoined (MC MS : Nat) : Room := { frames := 8, cells := MC, slots := MS, locals := 175 }
theorem in_X9_setJoined_RX6 : ∀ w ∈ wsX60, w ∈ wsX9_setJoined := fun w hw9 => List.mem_cons_of_mem _ (List.mem_append_left _ (List.mem_append_left _ (List.mem_append_left _ (List.mem_append_left _ (List.mem_append_left _ (List.mem_append_left _ (List.mem_append_right _ hw9)))))))
theorem in_X9_setJoined_RX9 : ∀ w ∈ wsX90, w ∈ wsX9_setJoined := fun w hw9 => List.mem_cons_of_mem _ (List.mem_append_left _ (List.mem_append_left _ (List.mem_append_left _ (List.mem_append_left _ (List.mem_append_left _ (List.mem_append_left _ (List.mem_append_left _ (List.mem_append_right _ hw9))))))))
set_option maxHeartbeats 4000000 in
set_option maxRecDepth 100000 in
theorem t_X9_setJoined_0 (C0 : hX p s m args c cX9_setJoined 7 RX9 wsX9_setJoined D (gt u.2.1) A u.1 u.2.2) (t0 : Nat) (post : Int32 → hS → Prop) (hret : ∀ (r : Int32) (S' : hS) (pc : Nat) (lv : List (Nat × Value)) (k n : Nat), k ≤ MC → n ≤ MS → post r S' → narrow .int (.int r) = .int r → decode cX9_setJoined pc = .ok (.ireturn, 1) → gG p l e (rm_X9_setJoined MC MS) s m args below meth c Q D A 7 k n (hC X S') pc lv [.int r])  : ∀ (z1 : Int32) (z2 : Int32) (z3 : Int32) (S : hS) (mc ms k n : Nat), k + mc ≤ MC ∧ n + ms ≤ MS → w_X9_setJoined u post t0  z1 z2 z3 S mc ms → gG p l e (rm_X9_setJoined MC MS) s m args below meth c Q D A 7 k n (hC X S) 0 [(0, .ref t0), (1, .int z1), (2, .int z2), (3, .int z3)] [] := by
  obtain ⟨⟨hx, hb, hml, ho, hts, hK, hA⟩, hR⟩ := id C0
  intro z1 z2 z3 S mc ms k n hkn hw H locs ls hW hl
  rw [w_X9_setJoined] at hw
  refine lv_aload_n hx hb dX9_setJoined_0 rfl (lv_at hl 0 rfl) ?_
  obtain ⟨o1, h2, hw⟩ := hw
  refine h_getR C0 hW (T := TX9) (kf := 2) in_X9_setJoined_RX9 h2 rfl (by decide) (List.mem_of_getElem? (i := 1) rfl) rfl dX9_setJoined_1 ?_
  refine lv_iload_n hx hb dX9_setJoined_4 rfl (lv_at hl 1 rfl) ?_
  obtain ⟨a3, rfl, hw⟩ := hw
  obtain ⟨h5, hw⟩ := hw
  refine h_goq C0 hW (va_runV (As := [.int z1]) (rest := []) ⟨hx, hb, hml, ho, hts⟩ (k_X4_layerAt (l := l) (u := u) (X := X) (sz := H.size) _ a3 z1 S  hw) (cwV 1 hts gX9_setJoined_X4_layerAt rfl rfl rfl (by decide +kernel) ⟨Nat.le_of_ble_eq_true rfl, Nat.le_of_ble_eq_true rfl⟩) ⟨h_blind, (h_recv C0 hW (ci := 5) rfl h5), (h_pre C0 hW [.ref a3, .int z1])⟩ rfl rfl hl.1 rfl (lv_room (Nat.le_of_ble_eq_true rfl)) dX9_setJoined_5 ⟨by show _ ≤ MC; omega, by show _ ≤ MS; omega⟩) (fun r4 S6 H locs h7 hW => ?_)
  obtain ⟨h8, hp⟩ := h7
  rw [h8] at hW
  replace hw := hp
  refine lv_astoreV (i := 4) (lv' := [(4, va_rf r4), (0, .ref t0), (1, .int z1), (2, .int z2), (3, .int z3)]) hx hb dX9_setJoined_8 hl (by decide) rfl (fun ls hl9 => ?_)
  replace hl := hl9
  refine lv_aload_n hx hb dX9_setJoined_10 rfl (lv_at hl 1 rfl) ?_
  refine lv_iload_n hx hb dX9_setJoined_11 rfl (lv_at hl 3 rfl) ?_
  obtain ⟨h10, hw⟩ := hw
  refine h_goq C0 hW (va_runV (As := [.int z2]) (rest := []) ⟨hx, hb, hml, ho, hts⟩ (k_X9_slotAt (l := l) (u := u) (X := X) (sz := H.size) _ t0 z2 S  hw) (cwV 1 hts gX9_setJoined_X9_slotAt rfl rfl rfl (by decide +kernel) ⟨Nat.le_of_ble_eq_true rfl, Nat.le_of_ble_eq_true rfl⟩) ⟨h_blind, (h_recv C0 hW (ci := 10) rfl h10), (h_pre C0 hW [.ref t0, .int z2])⟩ rfl rfl hl.1 rfl (lv_room (Nat.le_of_ble_eq_true rfl)) dX9_setJoined_12 ⟨by show _ ≤ MC; omega, by show _ ≤ MS; omega⟩) (fun r9 S11 H locs h12 hW => ?_)
  obtain ⟨h13, hp⟩ := h12
  rw [h13] at hW
  replace hw := hp
  refine lv_astoreV (i := 5) (lv' := [(5, va_rf r9), (4, va_rf r4), (0, .ref t0), (1, .int z1), (2, .int z2), (3, .int z3)]) hx hb dX9_setJoined_15 hl (by decide) (by show (5, va_rf r9) :: List.filter (fun q : Nat × Value => !(q.1 == 5) && !(q.1 + 1 == 5 && q.2.category == 2)) [(4, va_rf r4), (0, .ref t0), (1, .int z1), (2, .int z2), (3, .int z3)] = [(5, va_rf r9), (4, va_rf r4), (0, .ref t0), (1, .int z1), (2, .int z2), (3, .int z3)]; simp [va_rf_cat, va_c_ref, va_c_int, va_c_null]) (fun ls hl9 => ?_)
  replace hl := hl9
  refine lv_aloadV hx hb dX9_setJoined_17 (lv_at hl 1 rfl) ?_
  refine lv_ifnullV (tgt := 35) hx hb dX9_setJoined_19 (by decide) (fun c14 => ?_) (fun a15 c14 => ?_)
  · subst c14
    replace hw := hw.1 rfl
    refine lv_iconst (v := (-1)) hx hb dX9_setJoined_35 (by decide) ?_
    exact hret (-1) S _ _ _ _ (by omega) (by omega) hw rfl dX9_setJoined_36 _ _ _ hW hl
  · subst c14
    replace hw := hw.2 a15 rfl
    refine lv_aloadV hx hb dX9_setJoined_22 (lv_at hl 0 rfl) ?_
    refine lv_ifnullV (tgt := 35) hx hb dX9_setJoined_24 (by decide) (fun c16 => ?_) (fun a17 c16 => ?_)
    · subst c16
      replace hw := hw.1 rfl
      refine lv_iconst (v := (-1)) hx hb dX9_setJoined_35 (by decide) ?_
      exact hret (-1) S _ _ _ _ (by omega) (by omega) hw rfl dX9_setJoined_36 _ _ _ hW hl
    · subst c16
      replace hw := hw.2 a17 rfl
      refine lv_iload_n hx hb dX9_setJoined_27 rfl (lv_at hl 5 rfl) ?_
      refine lv_iconst (v := 3) hx hb dX9_setJoined_28 (by decide) ?_
      refine g_calls (As := [.int z3, .int 3]) (rest := []) ⟨hx, hb, hml, ho, hts⟩ hl.1 (k_X9_isWithin (l := l) _ z3 3 hw) (va_cwS 2 hts gX9_setJoined_X9_isWithin rfl rfl rfl (by decide +kernel) ⟨Nat.le_of_ble_eq_true rfl, Nat.le_of_ble_eq_true rfl⟩) (Nat.le_of_ble_eq_true rfl) dX9_setJoined_29 rfl ⟨by show _ ≤ MC; omega, by show _ ≤ MS; omega⟩ (fun r18 hp => ?_)
      replace hw := hp
      refine lv_if_ne (tgt := 37) hx hb dX9_setJoined_32 (by decide) (fun c19 => ?_) (fun c19 => ?_)
      · replace hw := hw.1 c19
        refine lv_aload_n hx hb dX9_setJoined_37 rfl (lv_at hl 2 rfl) ?_
        obtain ⟨o20, h21, hw⟩ := hw
        refine h_getR C0 hW (T := TX9) (kf := 6) in_X9_setJoined_RX9 h21 rfl (by decide) (List.mem_of_getElem? (i := 2) rfl) rfl dX9_setJoined_38 ?_
        refine lv_iload_n hx hb dX9_setJoined_41 rfl (lv_at hl 5 rfl) ?_
        obtain ⟨a22, rfl, hw⟩ := hw
        obtain ⟨N23, g24, h25, h26, hw⟩ := hw
        refine h_qald C0 hW 7 h25 rfl h26 dX9_setJoined_42 (fun o27 eo27 => ?_)
        replace hw := hw o27 eo27
        refine lv_astoreV (i := 6) (lv' := [(6, va_rf o27), (5, .ref a17), (4, .ref a15), (0, .ref t0), (1, .int z1), (2, .int z2), (3, .int z3)]) hx hb dX9_setJoined_43 hl (by decide) rfl (fun ls hl9 => ?_)
        replace hl := hl9
        refine lv_aloadV hx hb dX9_setJoined_45 (lv_at hl 0 rfl) ?_
        refine lv_ifnonnullV (tgt := 53) hx hb dX9_setJoined_47 (by decide) (fun a29 c28 => ?_) (fun c28 => ?_)
        · subst c28
          replace hw := hw.2 a29 rfl
          refine lv_aload hx hb dX9_setJoined_53 (lv_at hl 1 rfl) ?_
          obtain ⟨o30, h31, hw⟩ := hw
          refine h_getRN C0 hW (host := RX9) (T := TX6) (kf := 0) in_X9_setJoined_RX6 h31 rfl (by decide) (by decide +kernel) rfl dX9_setJoined_55 ?_
          refine lv_ifnonnullV (tgt := 66) hx hb dX9_setJoined_58 (by decide) (fun a33 c32 => ?_) (fun c32 => ?_)
          · subst c32
            replace hw := hw.2 a33 rfl
            refine lv_aload hx hb dX9_setJoined_66 (lv_at hl 2 rfl) ?_
            refine lv_aload hx hb dX9_setJoined_68 (lv_at hl 1 rfl) ?_
            obtain ⟨o38, h39, hw⟩ := hw
            refine h_getRN C0 hW (host := RX9) (T := TX6) (kf := 0) in_X9_setJoined_RX6 h39 rfl (by decide) (by decide +kernel) rfl dX9_setJoined_70 ?_
            refine lv_aload hx hb dX9_setJoined_73 (lv_at hl 0 rfl) ?_
            obtain ⟨h45, k41, n42, h43, h44, hw⟩ := hw
            refine h_goq C0 hW (va_runV (As := []) (rest := [va_rf o38, .ref a15]) ⟨hx, hb, hml, ho, hts⟩ (k_X2_result (l := l) (u := u) (X := X) (sz := H.size) _ a29  S k41 n42 hw) (cwV 0 hts gX9_setJoined_X2_result rfl rfl rfl (by decide +kernel) ⟨Nat.le_of_ble_eq_true rfl, Nat.le_of_ble_eq_true rfl⟩) ⟨h_blind, (h_recv C0 hW (ci := 3) rfl h45), (h_pre C0 hW [.ref a29])⟩ rfl rfl hl.1 rfl (lv_room (by simp [va_rf_cat, va_c_ref, va_c_int, va_c_null])) dX9_setJoined_75 ⟨by show _ ≤ MC; omega, by show _ ≤ MS; omega⟩) (fun r40 S46 H locs h47 hW => ?_)
            replace hw := h47
            have hkn : (k + k41) + (mc - k41) ≤ MC ∧ (n + n42) + (ms - n42) ≤ MS := by omega
            obtain ⟨h53, k49, n50, h51, h52, hw⟩ := hw
            refine h_goi C0 hW (va_runV (As := [va_rf o38, va_rf r40]) (rest := []) ⟨hx, hb, hml, ho, hts⟩ (k_X3_put (l := l) (u := u) (X := X) (sz := H.size) _ a15 o38 r40 S46 k49 n50 hw) (cwV 2 hts gX9_setJoined_X3_put rfl rfl rfl (by decide +kernel) ⟨Nat.le_of_ble_eq_true rfl, Nat.le_of_ble_eq_true rfl⟩) ⟨h_blind, (h_recv C0 hW (ci := 4) rfl h53), (h_pre C0 hW [.ref a15, va_rf o38, va_rf r40])⟩ rfl rfl hl.1 rfl (lv_room (Nat.le_of_ble_eq_true rfl)) dX9_setJoined_78 ⟨by show _ ≤ MC; omega, by show _ ≤ MS; omega⟩) (fun r48 S54 H locs h55 hW => ?_)
            replace hw := h55
            have hkn : ((k + k41) + k49) + ((mc - k41) - k49) ≤ MC ∧ ((n + n42) + n50) + ((ms - n42) - n50) ≤ MS := by omega
            refine lv_if_ne (tgt := 87) hx hb dX9_setJoined_81 (by decide) (fun c56 => ?_) (fun c56 => ?_)
            · replace hw := hw.1 c56
              refine lv_aload hx hb dX9_setJoined_87 (lv_at hl 2 rfl) ?_
              obtain ⟨h58, hw⟩ := hw
              refine h_goi C0 hW (va_runV (As := []) (rest := []) ⟨hx, hb, hml, ho, hts⟩ (k_X3_entryCount (l := l) (u := u) (X := X) (sz := H.size) _ a15  S54  hw) (cwV 0 hts gX9_setJoined_X3_entryCount rfl rfl rfl (by decide +kernel) ⟨Nat.le_of_ble_eq_true rfl, Nat.le_of_ble_eq_true rfl⟩) ⟨h_blind, (h_recv C0 hW (ci := 4) rfl h58), (h_pre C0 hW [.ref a15])⟩ rfl rfl hl.1 rfl (lv_room (Nat.le_of_ble_eq_true rfl)) dX9_setJoined_89 ⟨by show _ ≤ MC; omega, by show _ ≤ MS; omega⟩) (fun r57 S59 H locs h60 hW => ?_)
              obtain ⟨h61, hp⟩ := h60
              rw [h61] at hW
              replace hw := hp
              exact hret r57 S54 _ _ _ _ (by omega) (by omega) hw rfl dX9_setJoined_92 _ _ _ hW hl
            · replace hw := hw.2 c56
              refine lv_bipush (v := (-3)) hx hb dX9_setJoined_84 (by decide) ?_
              exact hret (-3) S54 _ _ _ _ (by omega) (by omega) hw rfl dX9_setJoined_86 _ _ _ hW hl
          · subst c32
            replace hw := hw.1 rfl
            refine lv_aload_n hx hb dX9_setJoined_61 rfl (lv_at hl 3 rfl) ?_
            obtain ⟨h35, hw⟩ := hw
            refine h_goi C0 hW (va_runV (As := []) (rest := []) ⟨hx, hb, hml, ho, hts⟩ (k_X9_refuseNull (l := l) (u := u) (X := X) (sz := H.size) _ t0  S  hw) (cwV 0 hts gX9_setJoined_X9_refuseNull rfl rfl rfl (by decide +kernel) ⟨Nat.le_of_ble_eq_true rfl, Nat.le_of_ble_eq_true rfl⟩) ⟨h_blind, (h_recv C0 hW (ci := 10) rfl h35), (h_pre C0 hW [.ref t0])⟩ rfl rfl hl.1 rfl (lv_room (Nat.le_of_ble_eq_true rfl)) dX9_setJoined_62 ⟨by show _ ≤ MC; omega, by show _ ≤ MS; omega⟩) (fun r34 S36 H locs h37 hW => ?_)
            replace hw := h37
            exact hret r34 S36 _ _ _ _ (by omega) (by omega) hw rfl dX9_setJoined_65 _ _ _ hW hl
        · subst c28
          replace hw := hw.1 rfl
          refine lv_bipush (v := (-4)) hx hb dX9_setJoined_50 (by decide) ?_
          exact hret (-4) S _ _ _ _ (by omega) (by omega) hw rfl dX9_setJoined_52 _ _ _ hW hl
      · replace hw := hw.2 c19
        refine lv_iconst (v := (-1)) hx hb dX9_setJoined_35 (by decide) ?_
        exact hret (-1) S _ _ _ _ (by omega) (by omega) hw rfl dX9_setJoined_36 _ _ _ hW hl
set_option maxHeartbeats 4000000 in
set_option maxRecDepth 100000 in
theorem k_X9_setJoined {l : Launch} {D : va_G} {u : hU} {X : va_W} {sz : Nat} (post : Int32 → hS → Prop) (t0 : Nat) (z1 : Int32) (z2 : Int32) (z3 : Int32) (S : hS) (mc ms : Nat) (hw : w_X9_setJoined u post t0 z1 z2 z3 S mc ms) : hMi l yX9_setJoined wsX9_setJoined (rm_X9_setJoined mc ms) D (gt u.2.1) u.1 u.2.2 sz X S [.ref t0, .int z1, .int z2, .int z3] post mc ms := by
  refine hMi_of (cc := cX9_setJoined) (nL := 7) (ty := .int) (own := RX9) (by decide) rfl rfl (Nat.le_of_ble_eq_true rfl) ?_
  intro p e s m args below meth c A Q C0 hin hret
  exact t_X9_setJoined_0 C0 t0 post hret z1 z2 z3 S mc ms 0 0 ⟨by omega, by omega⟩ hw
abbrev rm_X9_keep (MC MS : Nat) : Room := { frames := 3, cells := MC, slots := MS, locals := 53 }
theorem in_X9_keep_RX4 : ∀ w ∈ wsX40, w ∈ wsX9_keep := fun w hw9 => List.mem_cons_of_mem _ (List.mem_append_left _ (List.mem_append_right _ hw9))
theorem in_X9_keep_RX9 : ∀ w ∈ wsX90, w ∈ wsX9_keep := fun w hw9 => List.mem_cons_of_mem _ (List.mem_append_left _ (List.mem_append_left _ (List.mem_append_right _ hw9)))
set_option maxHeartbeats 4000000 in
set_option maxRecDepth 100000 in
theorem t_X9_keep_36 (C0 : hX p s m args c cX9_keep 3 RX9 wsX9_keep D (gt u.2.1) A u.1 u.2.2) (t0 : Nat) (post : Int32 → hS → Prop) (hret : ∀ (r : Int32) (S' : hS) (pc : Nat) (lv : List (Nat × Value)) (k n : Nat), k ≤ MC → n ≤ MS → post r S' → narrow .int (.int r) = .int r → decode cX9_keep pc = .ok (.ireturn, 1) → gG p l e (rm_X9_keep MC MS) s m args below meth c Q D A 3 k n (hC X S') pc lv [.int r])  : ∀ (x2 : Nat) (S : hS) (mc ms k n : Nat), k + mc ≤ MC ∧ n + ms ≤ MS → w_X9_keep_36 u post t0  x2 S mc ms → gG p l e (rm_X9_keep MC MS) s m args below meth c Q D A 3 k n (hC X S) 36 [(0, .ref t0), (2, .ref x2)] [] := by
  obtain ⟨⟨hx, hb, hml, ho, hts, hK, hA⟩, hR⟩ := id C0
  intro x2 S mc ms k n hkn hw H locs ls hW hl
  rw [w_X9_keep_36] at hw
  refine lv_aload_n hx hb dX9_keep_36 rfl (lv_at hl 1 rfl) ?_
  refine lv_aload_n hx hb dX9_keep_37 rfl (lv_at hl 0 rfl) ?_
  obtain ⟨o34, h35, hw⟩ := hw
  refine h_getR C0 hW (T := TX9) (kf := 2) in_X9_keep_RX9 h35 rfl (by decide) (List.mem_of_getElem? (i := 5) rfl) rfl dX9_keep_38 ?_
  obtain ⟨h37, hw⟩ := hw
  refine h_gov C0 hW (va_runV (As := [va_rf o34]) (rest := []) ⟨hx, hb, hml, ho, hts⟩ (k_X4_takeAll (l := l) (u := u) (X := X) (sz := H.size) _ x2 o34 S  hw) (cwV 1 hts gX9_keep_X4_takeAll rfl rfl rfl (by decide +kernel) ⟨Nat.le_of_ble_eq_true rfl, Nat.le_of_ble_eq_true rfl⟩) ⟨h_blind, (h_recv C0 hW (ci := 5) rfl h37), (h_pre C0 hW [.ref x2, va_rf o34])⟩ rfl rfl hl.1 rfl (lv_room (Nat.le_of_ble_eq_true rfl)) dX9_keep_41 ⟨by show _ ≤ MC; omega, by show _ ≤ MS; omega⟩) (fun S38 H locs h39 hW => ?_)
  replace hw := h39
  refine lv_aload_n hx hb dX9_keep_44 rfl (lv_at hl 1 rfl) ?_
  obtain ⟨h41, hw⟩ := hw
  refine h_goi C0 hW (va_runV (As := []) (rest := []) ⟨hx, hb, hml, ho, hts⟩ (k_X4_entryCount (l := l) (u := u) (X := X) (sz := H.size) _ x2  S38  hw) (cwV 0 hts gX9_keep_X4_entryCount rfl rfl rfl (by decide +kernel) ⟨Nat.le_of_ble_eq_true rfl, Nat.le_of_ble_eq_true rfl⟩) ⟨h_blind, (h_recv C0 hW (ci := 5) rfl h41), (h_pre C0 hW [.ref x2])⟩ rfl rfl hl.1 rfl (lv_room (Nat.le_of_ble_eq_true rfl)) dX9_keep_45 ⟨by show _ ≤ MC; omega, by show _ ≤ MS; omega⟩) (fun r40 S42 H locs h43 hW => ?_)
  obtain ⟨h44, hp⟩ := h43
  rw [h44] at hW
  replace hw := hp
  exact hret r40 S38 _ _ _ _ (by omega) (by omega) hw rfl dX9_keep_48 _ _ _ hW hl
set_option maxHeartbeats 4000000 in
set_option maxRecDepth 100000 in
theorem t_X9_keep_0 (C0 : hX p s m args c cX9_keep 3 RX9 wsX9_keep D (gt u.2.1) A u.1 u.2.2) (t0 : Nat) (post : Int32 → hS → Prop) (hret : ∀ (r : Int32) (S' : hS) (pc : Nat) (lv : List (Nat × Value)) (k n : Nat), k ≤ MC → n ≤ MS → post r S' → narrow .int (.int r) = .int r → decode cX9_keep pc = .ok (.ireturn, 1) → gG p l e (rm_X9_keep MC MS) s m args below meth c Q D A 3 k n (hC X S') pc lv [.int r])  : ∀ (z1 : Int32) (S : hS) (mc ms k n : Nat), k + mc ≤ MC ∧ n + ms ≤ MS → w_X9_keep u post t0  z1 S mc ms → gG p l e (rm_X9_keep MC MS) s m args below meth c Q D A 3 k n (hC X S) 0 [(0, .ref t0), (1, .int z1)] [] := by
  obtain ⟨⟨hx, hb, hml, ho, hts, hK, hA⟩, hR⟩ := id C0
  intro z1 S mc ms k n hkn hw H locs ls hW hl
  rw [w_X9_keep] at hw
  refine lv_iload_n hx hb dX9_keep_0 rfl (lv_at hl 1 rfl) ?_
  refine lv_iconst (v := 2) hx hb dX9_keep_1 (by decide) ?_
  refine g_calls (As := [.int z1, .int 2]) (rest := []) ⟨hx, hb, hml, ho, hts⟩ hl.1 (k_X9_isWithin (l := l) _ z1 2 hw) (va_cwS 2 hts gX9_keep_X9_isWithin rfl rfl rfl (by decide +kernel) ⟨Nat.le_of_ble_eq_true rfl, Nat.le_of_ble_eq_true rfl⟩) (Nat.le_of_ble_eq_true rfl) dX9_keep_2 rfl ⟨by show _ ≤ MC; omega, by show _ ≤ MS; omega⟩ (fun r1 hp => ?_)
  replace hw := hp
  refine lv_if_ne (tgt := 10) hx hb dX9_keep_5 (by decide) (fun c2 => ?_) (fun c2 => ?_)
  · replace hw := hw.1 c2
    refine lv_aload_n hx hb dX9_keep_10 rfl (lv_at hl 0 rfl) ?_
    obtain ⟨o3, h4, hw⟩ := hw
    refine h_getR C0 hW (T := TX9) (kf := 4) in_X9_keep_RX9 h4 rfl (by decide) (List.mem_of_getElem? (i := 1) rfl) rfl dX9_keep_11 ?_
    refine lv_iload_n hx hb dX9_keep_14 rfl (lv_at hl 1 rfl) ?_
    obtain ⟨a5, rfl, hw⟩ := hw
    obtain ⟨N6, g7, h8, h9, hw⟩ := hw
    refine h_qald C0 hW 5 h8 rfl h9 dX9_keep_15 (fun o10 eo10 => ?_)
    replace hw := hw o10 eo10
    refine lv_astoreV_n (i := 2) (lv' := [(2, va_rf o10), (0, .ref t0), (1, .int z1)]) hx hb dX9_keep_16 rfl hl (by decide) rfl (fun ls hl9 => ?_)
    replace hl := hl9
    refine lv_aloadV_n hx hb dX9_keep_17 rfl (lv_at hl 0 rfl) ?_
    refine lv_ifnonnullV (tgt := 36) hx hb dX9_keep_18 (by decide) (fun a12 c11 => ?_) (fun c11 => ?_)
    · subst c11
      replace hw := hw.2 a12 rfl
      exact t_X9_keep_36 C0 t0 post hret  a12 S mc ms _ _ hkn hw _ _ _ hW (lv_sub hl [1, 0] rfl)
    · subst c11
      replace hw := hw.1 rfl
      obtain ⟨h16, h17, hw⟩ := hw
      refine h_new C0 hW (ci := 5) (fs := [.null]) in_X9_keep_RX4 rfl tyX4 tyX4_ok (List.mem_of_getElem? (i := 2) rfl) (List.mem_of_getElem? (i := 3) rfl) (List.mem_of_getElem? (i := 4) rfl) (fun j hj => by rcases (show j = 0 by omega) with rfl <;> rfl) (by show _ ≤ MC; omega) (by show _ ≤ MS; omega) dX9_keep_21 (fun q13 H h14 hW => ?_)
      obtain ⟨S15, eS15⟩ : ∃ z : hS, z = adS S q13 (.inr (5, [.null])) := ⟨_, rfl⟩
      rw [← eS15] at hW
      replace hw := hw q13 S15 h14 eS15
      have hkn : (k + 1) + (mc - 1) ≤ MC ∧ (n + 1) + (ms - 1) ≤ MS := by omega
      refine lv_dup hx hb dX9_keep_24 rfl ?_
      obtain ⟨k19, n20, h21, h22, hw⟩ := hw
      refine h_gov C0 hW (va_runI (As := []) (rest := [.ref q13]) ⟨hx, hb, hml, ho, hts⟩ (k_X4_init (l := l) (u := u) (X := X) (sz := H.size) _ q13  S15 k19 n20 hw) (cwI 0 hts gX9_keep_X4_init rfl rfl rfl (hts _ (List.mem_of_getElem? (i := 4) rfl)) (hts _ (List.mem_of_getElem? (i := 10) rfl)) (hts _ (List.mem_of_getElem? (i := 11) rfl)) rfl (by decide +kernel) ⟨Nat.le_of_ble_eq_true rfl, Nat.le_of_ble_eq_true rfl⟩) ⟨h_blind, (h_pre C0 hW [.ref q13])⟩ rfl rfl hl.1 rfl (lv_room (Nat.le_of_ble_eq_true rfl)) dX9_keep_25 ⟨by show _ ≤ MC; omega, by show _ ≤ MS; omega⟩) (fun S23 H locs h24 hW => ?_)
      replace hw := h24
      have hkn : ((k + 1) + k19) + ((mc - 1) - k19) ≤ MC ∧ ((n + 1) + n20) + ((ms - 1) - n20) ≤ MS := by omega
      refine lv_astore_n (i := 2) (lv' := [(2, .ref q13), (0, .ref t0), (1, .int z1)]) hx hb dX9_keep_28 rfl hl (by decide) rfl (fun ls hl9 => ?_)
      replace hl := hl9
      refine lv_aload_n hx hb dX9_keep_29 rfl (lv_at hl 1 rfl) ?_
      obtain ⟨o25, h26, hw⟩ := hw
      refine h_getR C0 hW (T := TX9) (kf := 4) in_X9_keep_RX9 h26 rfl (by decide) (List.mem_of_getElem? (i := 1) rfl) rfl dX9_keep_30 ?_
      refine lv_iload_n hx hb dX9_keep_33 rfl (lv_at hl 2 rfl) ?_
      refine lv_aload_n hx hb dX9_keep_34 rfl (lv_at hl 0 rfl) ?_
      obtain ⟨a27, rfl, hw⟩ := hw
      obtain ⟨N28, g29, h30, h31, h33, hw⟩ := hw
      refine h_qast C0 hW 5 5 h30 rfl h33 rfl h31 dX9_keep_35 (fun H locs hW => ?_)
      obtain ⟨S32, eS32⟩ : ∃ z : hS, z = upS S23 a27 (.inl (u.2.1 5, N28, .inr (.inr (.inr (.inr (va_up g29 (z1 : Int32).toNatClampNeg (some q13))))))) := ⟨_, rfl⟩
      rw [← eS32] at hW
      replace hw := hw S32 eS32
      exact t_X9_keep_36 C0 t0 post hret  q13 S32 ((mc - 1) - k19) ((ms - 1) - n20) _ _ hkn hw _ _ _ hW (lv_sub hl [1, 0] rfl)
  · replace hw := hw.2 c2
    refine lv_iconst (v := (-1)) hx hb dX9_keep_8 (by decide) ?_
    exact hret (-1) S _ _ _ _ (by omega) (by omega) hw rfl dX9_keep_9 _ _ _ hW hl
set_option maxHeartbeats 4000000 in
set_option maxRecDepth 100000 in
theorem k_X9_keep {l : Launch} {D : va_G} {u : hU} {X : va_W} {sz : Nat} (post : Int32 → hS → Prop) (t0 : Nat) (z1 : Int32) (S : hS) (mc ms : Nat) (hw : w_X9_keep u post t0 z1 S mc ms) : hMi l yX9_keep wsX9_keep (rm_X9_keep mc ms) D (gt u.2.1) u.1 u.2.2 sz X S [.ref t0, .int z1] post mc ms := by
  refine hMi_of (cc := cX9_keep) (nL := 3) (ty := .int) (own := RX9) (by decide) rfl rfl (Nat.le_of_ble_eq_true rfl) ?_
  intro p e s m args below meth c A Q C0 hin hret
  exact t_X9_keep_0 C0 t0 post hret z1 S mc ms 0 0 ⟨by omega, by omega⟩ hw
abbrev rm_X9_restore : Room := { frames := 2, cells := 0, slots := 0, locals := 45 }
theorem in_X9_restore_RX9 : ∀ w ∈ wsX90, w ∈ wsX9_restore := fun w hw9 => List.mem_cons_of_mem _ (List.mem_append_left _ (List.mem_append_left _ (List.mem_append_right _ hw9)))
set_option maxHeartbeats 4000000 in
set_option maxRecDepth 100000 in
theorem t_X9_restore_0 (C0 : hX p s m args c cX9_restore 3 RX9 wsX9_restore D (gt u.2.1) A u.1 u.2.2) (t0 : Nat) (post : Int32 → hS → Prop) (hret : ∀ (r : Int32) (S' : hS) (pc : Nat) (lv : List (Nat × Value)) (k n : Nat), k ≤ 0 → n ≤ 0 → post r S' → narrow .int (.int r) = .int r → decode cX9_restore pc = .ok (.ireturn, 1) → gG p l e (rm_X9_restore) s m args below meth c Q D A 3 k n (hC X S') pc lv [.int r])  : ∀ (z1 : Int32) (S : hS), w_X9_restore u post t0  z1 S → gG p l e (rm_X9_restore) s m args below meth c Q D A 3 0 0 (hC X S) 0 [(0, .ref t0), (1, .int z1)] [] := by
  obtain ⟨⟨hx, hb, hml, ho, hts, hK, hA⟩, hR⟩ := id C0
  intro z1 S hw H locs ls hW hl
  rw [w_X9_restore] at hw
  refine lv_iload_n hx hb dX9_restore_0 rfl (lv_at hl 1 rfl) ?_
  refine lv_iconst (v := 2) hx hb dX9_restore_1 (by decide) ?_
  refine g_calls (As := [.int z1, .int 2]) (rest := []) ⟨hx, hb, hml, ho, hts⟩ hl.1 (k_X9_isWithin (l := l) _ z1 2 hw) (va_cwS 2 hts gX9_restore_X9_isWithin rfl rfl rfl (by decide +kernel) ⟨Nat.le_of_ble_eq_true rfl, Nat.le_of_ble_eq_true rfl⟩) (Nat.le_of_ble_eq_true rfl) dX9_restore_2 rfl ⟨Nat.le_refl _, Nat.le_refl _⟩ (fun r1 hp => ?_)
  replace hw := hp
  refine lv_if_ne (tgt := 10) hx hb dX9_restore_5 (by decide) (fun c2 => ?_) (fun c2 => ?_)
  · replace hw := hw.1 c2
    refine lv_aload_n hx hb dX9_restore_10 rfl (lv_at hl 0 rfl) ?_
    obtain ⟨o3, h4, hw⟩ := hw
    refine h_getR C0 hW (T := TX9) (kf := 4) in_X9_restore_RX9 h4 rfl (by decide) (List.mem_of_getElem? (i := 1) rfl) rfl dX9_restore_11 ?_
    refine lv_iload_n hx hb dX9_restore_14 rfl (lv_at hl 1 rfl) ?_
    obtain ⟨a5, rfl, hw⟩ := hw
    obtain ⟨N6, g7, h8, h9, hw⟩ := hw
    refine h_qald C0 hW 5 h8 rfl h9 dX9_restore_15 (fun o10 eo10 => ?_)
    replace hw := hw o10 eo10
    refine lv_astoreV_n (i := 2) (lv' := [(2, va_rf o10), (0, .ref t0), (1, .int z1)]) hx hb dX9_restore_16 rfl hl (by decide) rfl (fun ls hl9 => ?_)
    replace hl := hl9
    refine lv_aloadV_n hx hb dX9_restore_17 rfl (lv_at hl 0 rfl) ?_
    refine lv_ifnonnullV (tgt := 24) hx hb dX9_restore_18 (by decide) (fun a12 c11 => ?_) (fun c11 => ?_)
    · subst c11
      replace hw := hw.2 a12 rfl
      refine lv_aload_n hx hb dX9_restore_24 rfl (lv_at hl 1 rfl) ?_
      obtain ⟨o13, h14, hw⟩ := hw
      refine h_getR C0 hW (T := TX9) (kf := 2) in_X9_restore_RX9 h14 rfl (by decide) (List.mem_of_getElem? (i := 2) rfl) rfl dX9_restore_25 ?_
      refine lv_aload_n hx hb dX9_restore_28 rfl (lv_at hl 0 rfl) ?_
      obtain ⟨a15, rfl, hw⟩ := hw
      obtain ⟨h17, hw⟩ := hw
      refine h_gov C0 hW (va_runV (As := [.ref a12]) (rest := []) ⟨hx, hb, hml, ho, hts⟩ (k_X4_takeAll (l := l) (u := u) (X := X) (sz := H.size) _ a15 (some a12) S  hw) (cwV 1 hts gX9_restore_X4_takeAll rfl rfl rfl (by decide +kernel) ⟨Nat.le_of_ble_eq_true rfl, Nat.le_of_ble_eq_true rfl⟩) ⟨h_blind, (h_recv C0 hW (ci := 5) rfl h17), (h_pre C0 hW [.ref a15, .ref a12])⟩ rfl rfl hl.1 rfl (lv_room (Nat.le_of_ble_eq_true rfl)) dX9_restore_29 ⟨Nat.le_refl _, Nat.le_refl _⟩) (fun S18 H locs h19 hW => ?_)
      replace hw := h19
      refine lv_aload_n hx hb dX9_restore_32 rfl (lv_at hl 1 rfl) ?_
      obtain ⟨o20, h21, hw⟩ := hw
      refine h_getR C0 hW (T := TX9) (kf := 2) in_X9_restore_RX9 h21 rfl (by decide) (List.mem_of_getElem? (i := 2) rfl) rfl dX9_restore_33 ?_
      obtain ⟨a22, rfl, hw⟩ := hw
      obtain ⟨h24, hw⟩ := hw
      refine h_goi C0 hW (va_runV (As := []) (rest := []) ⟨hx, hb, hml, ho, hts⟩ (k_X4_entryCount (l := l) (u := u) (X := X) (sz := H.size) _ a22  S18  hw) (cwV 0 hts gX9_restore_X4_entryCount rfl rfl rfl (by decide +kernel) ⟨Nat.le_of_ble_eq_true rfl, Nat.le_of_ble_eq_true rfl⟩) ⟨h_blind, (h_recv C0 hW (ci := 5) rfl h24), (h_pre C0 hW [.ref a22])⟩ rfl rfl hl.1 rfl (lv_room (Nat.le_of_ble_eq_true rfl)) dX9_restore_36 ⟨Nat.le_refl _, Nat.le_refl _⟩) (fun r23 S25 H locs h26 hW => ?_)
      obtain ⟨h27, hp⟩ := h26
      rw [h27] at hW
      replace hw := hp
      exact hret r23 S18 _ _ 0 0 (Nat.le_refl _) (Nat.le_refl _) hw rfl dX9_restore_39 _ _ _ hW hl
    · subst c11
      replace hw := hw.1 rfl
      refine lv_bipush (v := (-4)) hx hb dX9_restore_21 (by decide) ?_
      exact hret (-4) S _ _ 0 0 (Nat.le_refl _) (Nat.le_refl _) hw rfl dX9_restore_23 _ _ _ hW hl
  · replace hw := hw.2 c2
    refine lv_iconst (v := (-1)) hx hb dX9_restore_8 (by decide) ?_
    exact hret (-1) S _ _ 0 0 (Nat.le_refl _) (Nat.le_refl _) hw rfl dX9_restore_9 _ _ _ hW hl
set_option maxHeartbeats 4000000 in
set_option maxRecDepth 100000 in
theorem k_X9_restore {l : Launch} {D : va_G} {u : hU} {X : va_W} {sz : Nat} (post : Int32 → hS → Prop) (t0 : Nat) (z1 : Int32) (S : hS) (hw : w_X9_restore u post t0 z1 S) : hMi l yX9_restore wsX9_restore rm_X9_restore D (gt u.2.1) u.1 u.2.2 sz X S [.ref t0, .int z1] post 0 0 := by
  refine hMi_of (cc := cX9_restore) (nL := 3) (ty := .int) (own := RX9) (by decide) rfl rfl (Nat.le_of_ble_eq_true rfl) ?_
  intro p e s m args below meth c A Q C0 hin hret
  exact t_X9_restore_0 C0 t0 post hret z1 S hw
abbrev rm_X9_refusals : Room := { frames := 0, cells := 0, slots := 0, locals := 0 }
theorem in_X9_refusals_RX9 : ∀ w ∈ wsX90, w ∈ wsX9_refusals := fun w hw9 => List.mem_cons_of_mem _ (List.mem_append_right _ hw9)
set_option maxHeartbeats 4000000 in
set_option maxRecDepth 100000 in
theorem t_X9_refusals_0 (C0 : hX p s m args c cX9_refusals 2 RX9 wsX9_refusals D (gt u.2.1) A u.1 u.2.2) {S : hS} (t0 : Nat) (post : Int32 → Prop) (hret : ∀ (r : Int32) (S' : hS) (pc : Nat) (lv : List (Nat × Value)) (k n : Nat), k ≤ 0 → n ≤ 0 → (S' = S ∧ post r) → narrow .int (.int r) = .int r → decode cX9_refusals pc = .ok (.ireturn, 1) → gG p l e (rm_X9_refusals) s m args below meth c Q D A 2 k n (hC X S') pc lv [.int r])  : ∀ (z1 : Int32), w_X9_refusals u post t0  z1 S → gG p l e (rm_X9_refusals) s m args below meth c Q D A 2 0 0 (hC X S) 0 [(0, .ref t0), (1, .int z1)] [] := by
  obtain ⟨⟨hx, hb, hml, ho, hts, hK, hA⟩, hR⟩ := id C0
  intro z1 hw H locs ls hW hl
  rw [w_X9_refusals] at hw
  refine lv_iload_n hx hb dX9_refusals_0 rfl (lv_at hl 1 rfl) ?_
  by_cases c1 : z1 = 0
  · replace hw := hw.1 c1
    refine lv_lookup (tgt := 28) (off := 27) hx hb dX9_refusals_1 (by decide) (by rw [c1]; decide) (by decide) ?_
    refine lv_aload_n hx hb dX9_refusals_28 rfl (lv_at hl 0 rfl) ?_
    obtain ⟨v2, h3, hw⟩ := hw
    refine h_getI C0 hW (T := TX9) (kf := 7) in_X9_refusals_RX9 h3 rfl (by decide) (List.mem_of_getElem? (i := 1) rfl) rfl dX9_refusals_29 ?_
    exact hret v2 S _ _ 0 0 (Nat.le_refl _) (Nat.le_refl _) ⟨rfl, hw⟩ rfl dX9_refusals_32 _ _ _ hW hl
  by_cases c4 : z1 = 1
  · replace hw := hw.2.1 c4
    refine lv_lookup (tgt := 33) (off := 32) hx hb dX9_refusals_1 (by decide) (by rw [c4]; decide) (by decide) ?_
    refine lv_aload_n hx hb dX9_refusals_33 rfl (lv_at hl 0 rfl) ?_
    obtain ⟨v5, h6, hw⟩ := hw
    refine h_getI C0 hW (T := TX9) (kf := 8) in_X9_refusals_RX9 h6 rfl (by decide) (List.mem_of_getElem? (i := 2) rfl) rfl dX9_refusals_34 ?_
    exact hret v5 S _ _ 0 0 (Nat.le_refl _) (Nat.le_refl _) ⟨rfl, hw⟩ rfl dX9_refusals_37 _ _ _ hW hl
  replace hw := hw.2.2 c1 c4
  refine lv_lookup (tgt := 38) (off := 37) hx hb dX9_refusals_1 (by decide) (by show Op.lookupswitch.offset [(0, 27), (1, 32)] 37 (z1 : Int32).toInt = 37; rw [Op.lookupswitch.offset_cons, if_neg (sw_ne (v := 0) (by decide) c1)]; rw [Op.lookupswitch.offset_cons, if_neg (sw_ne (v := 1) (by decide) c4)]; rfl) (by decide) ?_
  refine lv_iconst (v := (-1)) hx hb dX9_refusals_38 (by decide) ?_
  exact hret (-1) S _ _ 0 0 (Nat.le_refl _) (Nat.le_refl _) ⟨rfl, hw⟩ rfl dX9_refusals_39 _ _ _ hW hl
set_option maxHeartbeats 4000000 in
set_option maxRecDepth 100000 in
theorem k_X9_refusals {l : Launch} {D : va_G} {u : hU} {X : va_W} {sz : Nat} (post : Int32 → Prop) (t0 : Nat) (z1 : Int32) (S : hS) (hw : w_X9_refusals u post t0 z1 S) : hMi l yX9_refusals wsX9_refusals rm_X9_refusals D (gt u.2.1) u.1 u.2.2 sz X S [.ref t0, .int z1] (fun r S' => S' = S ∧ post r) 0 0 := by
  refine hMi_of (cc := cX9_refusals) (nL := 2) (ty := .int) (own := RX9) (by decide) rfl rfl (Nat.le_of_ble_eq_true rfl) ?_
  intro p e s m args below meth c A Q C0 hin hret
  exact t_X9_refusals_0 C0 t0 post hret z1 hw
end RAWM
