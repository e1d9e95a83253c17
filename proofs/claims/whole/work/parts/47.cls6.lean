section RAWM
variable {p : Program} {l : Launch} {e : Env} {s : State} {m : MethodId} {args : Array Value} {below : List Frame} {meth : Method} {c : Code} {Q : State → Prop}
variable {D : va_G} {A : Nat → Prop} {u : hU} {X : va_W} {MC MS : Nat}
abbrev rm_X9_keyFrom : Room := { frames := 6, cells := 0, slots := 0, locals := 132 }
theorem in_X9_keyFrom_RX6 : ∀ w ∈ wsX60, w ∈ wsX9_keyFrom := fun w hw9 => List.mem_cons_of_mem _ (List.mem_append_left _ (List.mem_append_left _ (List.mem_append_left _ (List.mem_append_left _ (List.mem_append_right _ hw9)))))
theorem in_X9_keyFrom_RX9 : ∀ w ∈ wsX90, w ∈ wsX9_keyFrom := fun w hw9 => List.mem_cons_of_mem _ (List.mem_append_left _ (List.mem_append_left _ (List.mem_append_left _ (List.mem_append_left _ (List.mem_append_left _ (List.mem_append_right _ hw9))))))
set_option maxHeartbeats 4000000 in
set_option maxRecDepth 100000 in
theorem t_X9_keyFrom_0 (C0 : hX p s m args c cX9_keyFrom 8 RX9 wsX9_keyFrom D (gt u.2.1) A u.1 u.2.2) (t0 : Nat) (post : Int32 → hS → Prop) (hret : ∀ (r : Int32) (S' : hS) (pc : Nat) (lv : List (Nat × Value)) (k n : Nat), k ≤ 0 → n ≤ 0 → post r S' → narrow .int (.int r) = .int r → decode cX9_keyFrom pc = .ok (.ireturn, 1) → gG p l e (rm_X9_keyFrom) s m args below meth c Q D A 8 k n (hC X S') pc lv [.int r])  : ∀ (z1 : Int32) (z2 : Int32) (z3 : Int32) (S : hS), w_X9_keyFrom u post t0  z1 z2 z3 S → gG p l e (rm_X9_keyFrom) s m args below meth c Q D A 8 0 0 (hC X S) 0 [(0, .ref t0), (1, .int z1), (2, .int z2), (3, .int z3)] [] := by
  obtain ⟨⟨hx, hb, hml, ho, hts, hK, hA⟩, hR⟩ := id C0
  intro z1 z2 z3 S hw H locs ls hW hl
  rw [w_X9_keyFrom] at hw
  refine lv_aload_n hx hb dX9_keyFrom_0 rfl (lv_at hl 0 rfl) ?_
  obtain ⟨o1, h2, hw⟩ := hw
  refine h_getR C0 hW (T := TX9) (kf := 2) in_X9_keyFrom_RX9 h2 rfl (by decide) (List.mem_of_getElem? (i := 1) rfl) rfl dX9_keyFrom_1 ?_
  refine lv_iload_n hx hb dX9_keyFrom_4 rfl (lv_at hl 1 rfl) ?_
  obtain ⟨a3, rfl, hw⟩ := hw
  obtain ⟨h5, hw⟩ := hw
  refine h_goq C0 hW (va_runV (As := [.int z1]) (rest := []) ⟨hx, hb, hml, ho, hts⟩ (k_X4_layerAt (l := l) (u := u) (X := X) (sz := H.size) _ a3 z1 S  hw) (cwV 1 hts gX9_keyFrom_X4_layerAt rfl rfl rfl (by decide +kernel) ⟨Nat.le_of_ble_eq_true rfl, Nat.le_of_ble_eq_true rfl⟩) ⟨h_blind, (h_recv C0 hW (ci := 5) rfl h5), (h_pre C0 hW [.ref a3, .int z1])⟩ rfl rfl hl.1 rfl (lv_room (Nat.le_of_ble_eq_true rfl)) dX9_keyFrom_5 ⟨Nat.le_refl _, Nat.le_refl _⟩) (fun r4 S6 H locs h7 hW => ?_)
  obtain ⟨h8, hp⟩ := h7
  rw [h8] at hW
  replace hw := hp
  refine lv_astoreV (i := 4) (lv' := [(4, va_rf r4), (0, .ref t0), (1, .int z1), (2, .int z2), (3, .int z3)]) hx hb dX9_keyFrom_8 hl (by decide) rfl (fun ls hl9 => ?_)
  replace hl := hl9
  refine lv_aload_n hx hb dX9_keyFrom_10 rfl (lv_at hl 1 rfl) ?_
  refine lv_iload_n hx hb dX9_keyFrom_11 rfl (lv_at hl 3 rfl) ?_
  obtain ⟨h10, hw⟩ := hw
  refine h_goq C0 hW (va_runV (As := [.int z2]) (rest := []) ⟨hx, hb, hml, ho, hts⟩ (k_X9_slotAt (l := l) (u := u) (X := X) (sz := H.size) _ t0 z2 S  hw) (cwV 1 hts gX9_keyFrom_X9_slotAt rfl rfl rfl (by decide +kernel) ⟨Nat.le_of_ble_eq_true rfl, Nat.le_of_ble_eq_true rfl⟩) ⟨h_blind, (h_recv C0 hW (ci := 10) rfl h10), (h_pre C0 hW [.ref t0, .int z2])⟩ rfl rfl hl.1 rfl (lv_room (Nat.le_of_ble_eq_true rfl)) dX9_keyFrom_12 ⟨Nat.le_refl _, Nat.le_refl _⟩) (fun r9 S11 H locs h12 hW => ?_)
  obtain ⟨h13, hp⟩ := h12
  rw [h13] at hW
  replace hw := hp
  refine lv_astoreV (i := 5) (lv' := [(5, va_rf r9), (4, va_rf r4), (0, .ref t0), (1, .int z1), (2, .int z2), (3, .int z3)]) hx hb dX9_keyFrom_15 hl (by decide) (by show (5, va_rf r9) :: List.filter (fun q : Nat × Value => !(q.1 == 5) && !(q.1 + 1 == 5 && q.2.category == 2)) [(4, va_rf r4), (0, .ref t0), (1, .int z1), (2, .int z2), (3, .int z3)] = [(5, va_rf r9), (4, va_rf r4), (0, .ref t0), (1, .int z1), (2, .int z2), (3, .int z3)]; simp [va_rf_cat, va_c_ref, va_c_int, va_c_null]) (fun ls hl9 => ?_)
  replace hl := hl9
  refine lv_aload_n hx hb dX9_keyFrom_17 rfl (lv_at hl 2 rfl) ?_
  refine lv_iload_n hx hb dX9_keyFrom_18 rfl (lv_at hl 5 rfl) ?_
  obtain ⟨h15, hw⟩ := hw
  refine h_goq C0 hW (va_runV (As := [.int z3]) (rest := []) ⟨hx, hb, hml, ho, hts⟩ (k_X9_slotAt (l := l) (u := u) (X := X) (sz := H.size) _ t0 z3 S  hw) (cwV 1 hts gX9_keyFrom_X9_slotAt rfl rfl rfl (by decide +kernel) ⟨Nat.le_of_ble_eq_true rfl, Nat.le_of_ble_eq_true rfl⟩) ⟨h_blind, (h_recv C0 hW (ci := 10) rfl h15), (h_pre C0 hW [.ref t0, .int z3])⟩ rfl rfl hl.1 rfl (lv_room (Nat.le_of_ble_eq_true rfl)) dX9_keyFrom_19 ⟨Nat.le_refl _, Nat.le_refl _⟩) (fun r14 S16 H locs h17 hW => ?_)
  obtain ⟨h18, hp⟩ := h17
  rw [h18] at hW
  replace hw := hp
  refine lv_astoreV (i := 6) (lv' := [(6, va_rf r14), (5, va_rf r9), (4, va_rf r4), (0, .ref t0), (1, .int z1), (2, .int z2), (3, .int z3)]) hx hb dX9_keyFrom_22 hl (by decide) (by show (6, va_rf r14) :: List.filter (fun q : Nat × Value => !(q.1 == 6) && !(q.1 + 1 == 6 && q.2.category == 2)) [(5, va_rf r9), (4, va_rf r4), (0, .ref t0), (1, .int z1), (2, .int z2), (3, .int z3)] = [(6, va_rf r14), (5, va_rf r9), (4, va_rf r4), (0, .ref t0), (1, .int z1), (2, .int z2), (3, .int z3)]; simp [va_rf_cat, va_c_ref, va_c_int, va_c_null]) (fun ls hl9 => ?_)
  replace hl := hl9
  refine lv_aloadV hx hb dX9_keyFrom_24 (lv_at hl 2 rfl) ?_
  refine lv_ifnullV (tgt := 39) hx hb dX9_keyFrom_26 (by decide) (fun c19 => ?_) (fun a20 c19 => ?_)
  · subst c19
    replace hw := hw.1 rfl
    refine lv_iconst (v := (-1)) hx hb dX9_keyFrom_39 (by decide) ?_
    exact hret (-1) S _ _ 0 0 (Nat.le_refl _) (Nat.le_refl _) hw rfl dX9_keyFrom_40 _ _ _ hW hl
  · subst c19
    replace hw := hw.2 a20 rfl
    refine lv_aloadV hx hb dX9_keyFrom_29 (lv_at hl 1 rfl) ?_
    refine lv_ifnullV (tgt := 39) hx hb dX9_keyFrom_31 (by decide) (fun c21 => ?_) (fun a22 c21 => ?_)
    · subst c21
      replace hw := hw.1 rfl
      refine lv_iconst (v := (-1)) hx hb dX9_keyFrom_39 (by decide) ?_
      exact hret (-1) S _ _ 0 0 (Nat.le_refl _) (Nat.le_refl _) hw rfl dX9_keyFrom_40 _ _ _ hW hl
    · subst c21
      replace hw := hw.2 a22 rfl
      refine lv_aloadV hx hb dX9_keyFrom_34 (lv_at hl 0 rfl) ?_
      refine lv_ifnonnullV (tgt := 41) hx hb dX9_keyFrom_36 (by decide) (fun a24 c23 => ?_) (fun c23 => ?_)
      · subst c23
        replace hw := hw.2 a24 rfl
        refine lv_aload hx hb dX9_keyFrom_41 (lv_at hl 1 rfl) ?_
        obtain ⟨o25, h26, hw⟩ := hw
        refine h_getRN C0 hW (host := RX9) (T := TX6) (kf := 0) in_X9_keyFrom_RX6 h26 rfl (by decide) (by decide +kernel) rfl dX9_keyFrom_43 ?_
        refine lv_ifnonnullV (tgt := 52) hx hb dX9_keyFrom_46 (by decide) (fun a28 c27 => ?_) (fun c27 => ?_)
        · subst c27
          replace hw := hw.2 a28 rfl
          refine lv_aload hx hb dX9_keyFrom_52 (lv_at hl 2 rfl) ?_
          refine lv_aload hx hb dX9_keyFrom_54 (lv_at hl 2 rfl) ?_
          refine lv_aload hx hb dX9_keyFrom_56 (lv_at hl 1 rfl) ?_
          obtain ⟨o29, h30, hw⟩ := hw
          refine h_getRN C0 hW (host := RX9) (T := TX6) (kf := 0) in_X9_keyFrom_RX6 h30 rfl (by decide) (by decide +kernel) rfl dX9_keyFrom_58 ?_
          obtain ⟨h32, hw⟩ := hw
          refine h_goi C0 hW (va_runV (As := [va_rf o29]) (rest := [.ref a20]) ⟨hx, hb, hml, ho, hts⟩ (k_X3_placeFrom (l := l) (u := u) (X := X) (sz := H.size) _ a20 o29 S  hw) (cwV 1 hts gX9_keyFrom_X3_placeFrom rfl rfl rfl (by decide +kernel) ⟨Nat.le_of_ble_eq_true rfl, Nat.le_of_ble_eq_true rfl⟩) ⟨h_blind, (h_recv C0 hW (ci := 4) rfl h32), (h_pre C0 hW [.ref a20, va_rf o29])⟩ rfl rfl hl.1 rfl (lv_room (Nat.le_of_ble_eq_true rfl)) dX9_keyFrom_61 ⟨Nat.le_refl _, Nat.le_refl _⟩) (fun r31 S33 H locs h34 hW => ?_)
          obtain ⟨h35, hp⟩ := h34
          rw [h35] at hW
          replace hw := hp
          obtain ⟨h37, hw⟩ := hw
          refine h_goq C0 hW (va_runV (As := [.int r31]) (rest := []) ⟨hx, hb, hml, ho, hts⟩ (k_X3_keyAt (l := l) (u := u) (X := X) (sz := H.size) _ a20 r31 S  hw) (cwV 1 hts gX9_keyFrom_X3_keyAt rfl rfl rfl (by decide +kernel) ⟨Nat.le_of_ble_eq_true rfl, Nat.le_of_ble_eq_true rfl⟩) ⟨h_blind, (h_recv C0 hW (ci := 4) rfl h37), (h_pre C0 hW [.ref a20, .int r31])⟩ rfl rfl hl.1 rfl (lv_room (Nat.le_of_ble_eq_true rfl)) dX9_keyFrom_64 ⟨Nat.le_refl _, Nat.le_refl _⟩) (fun r36 S38 H locs h39 hW => ?_)
          obtain ⟨h40, hp⟩ := h39
          rw [h40] at hW
          replace hw := hp
          refine lv_astoreV (i := 7) (lv' := [(7, va_rf r36), (6, .ref a24), (5, .ref a22), (4, .ref a20), (0, .ref t0), (1, .int z1), (2, .int z2), (3, .int z3)]) hx hb dX9_keyFrom_67 hl (by decide) rfl (fun ls hl9 => ?_)
          replace hl := hl9
          refine lv_aloadV hx hb dX9_keyFrom_69 (lv_at hl 0 rfl) ?_
          refine lv_ifnonnullV (tgt := 77) hx hb dX9_keyFrom_71 (by decide) (fun a42 c41 => ?_) (fun c41 => ?_)
          · subst c41
            replace hw := hw.2 a42 rfl
            refine lv_aload hx hb dX9_keyFrom_77 (lv_at hl 1 rfl) ?_
            refine lv_aload hx hb dX9_keyFrom_79 (lv_at hl 0 rfl) ?_
            refine h_goi C0 hW (va_runS (As := [.ref a24, .ref a42]) (rest := []) ⟨hx, hb, hml, ho, hts⟩ (k_X9_putInto (l := l) (u := u) (X := X) (sz := H.size) _ (some a24) (some a42) S  hw) (va_cwS 2 hts gX9_keyFrom_X9_putInto rfl rfl rfl (by decide +kernel) ⟨Nat.le_of_ble_eq_true rfl, Nat.le_of_ble_eq_true rfl⟩) ⟨h_blind, (h_pre C0 hW [.ref a24, .ref a42])⟩ rfl rfl hl.1 rfl (lv_room (Nat.le_of_ble_eq_true rfl)) dX9_keyFrom_81 ⟨Nat.le_refl _, Nat.le_refl _⟩) (fun r43 S44 H locs h45 hW => ?_)
            replace hw := h45
            exact hret r43 S44 _ _ 0 0 (Nat.le_refl _) (Nat.le_refl _) hw rfl dX9_keyFrom_84 _ _ _ hW hl
          · subst c41
            replace hw := hw.1 rfl
            refine lv_bipush (v := (-5)) hx hb dX9_keyFrom_74 (by decide) ?_
            exact hret (-5) S _ _ 0 0 (Nat.le_refl _) (Nat.le_refl _) hw rfl dX9_keyFrom_76 _ _ _ hW hl
        · subst c27
          replace hw := hw.1 rfl
          refine lv_bipush (v := (-2)) hx hb dX9_keyFrom_49 (by decide) ?_
          exact hret (-2) S _ _ 0 0 (Nat.le_refl _) (Nat.le_refl _) hw rfl dX9_keyFrom_51 _ _ _ hW hl
      · subst c23
        replace hw := hw.1 rfl
        refine lv_iconst (v := (-1)) hx hb dX9_keyFrom_39 (by decide) ?_
        exact hret (-1) S _ _ 0 0 (Nat.le_refl _) (Nat.le_refl _) hw rfl dX9_keyFrom_40 _ _ _ hW hl
set_option maxHeartbeats 4000000 in
set_option maxRecDepth 100000 in
theorem k_X9_keyFrom {l : Launch} {D : va_G} {u : hU} {X : va_W} {sz : Nat} (post : Int32 → hS → Prop) (t0 : Nat) (z1 : Int32) (z2 : Int32) (z3 : Int32) (S : hS) (hw : w_X9_keyFrom u post t0 z1 z2 z3 S) : hMi l yX9_keyFrom wsX9_keyFrom rm_X9_keyFrom D (gt u.2.1) u.1 u.2.2 sz X S [.ref t0, .int z1, .int z2, .int z3] post 0 0 := by
  refine hMi_of (cc := cX9_keyFrom) (nL := 8) (ty := .int) (own := RX9) (by decide) rfl rfl (Nat.le_of_ble_eq_true rfl) ?_
  intro p e s m args below meth c A Q C0 hin hret
  exact t_X9_keyFrom_0 C0 t0 post hret z1 z2 z3 S hw
abbrev rm_X9_alike : Room := { frames := 3, cells := 0, slots := 0, locals := 68 }
theorem in_X9_alike_RX9 : ∀ w ∈ wsX90, w ∈ wsX9_alike := fun w hw9 => List.mem_cons_of_mem _ (List.mem_append_left _ (List.mem_append_left _ (List.mem_append_left _ (List.mem_append_left _ (List.mem_append_right _ hw9)))))
set_option maxHeartbeats 4000000 in
set_option maxRecDepth 100000 in
theorem t_X9_alike_0 (C0 : hX p s m args c cX9_alike 5 RX9 wsX9_alike D (gt u.2.1) A u.1 u.2.2) {S : hS} (t0 : Nat) (post : Int32 → Prop) (hret : ∀ (r : Int32) (S' : hS) (pc : Nat) (lv : List (Nat × Value)) (k n : Nat), k ≤ 0 → n ≤ 0 → (S' = S ∧ post r) → narrow .int (.int r) = .int r → decode cX9_alike pc = .ok (.ireturn, 1) → gG p l e (rm_X9_alike) s m args below meth c Q D A 5 k n (hC X S') pc lv [.int r])  : ∀ (z1 : Int32) (z2 : Int32), w_X9_alike u post t0  z1 z2 S → gG p l e (rm_X9_alike) s m args below meth c Q D A 5 0 0 (hC X S) 0 [(0, .ref t0), (1, .int z1), (2, .int z2)] [] := by
  obtain ⟨⟨hx, hb, hml, ho, hts, hK, hA⟩, hR⟩ := id C0
  intro z1 z2 hw H locs ls hW hl
  rw [w_X9_alike] at hw
  refine lv_aload_n hx hb dX9_alike_0 rfl (lv_at hl 0 rfl) ?_
  obtain ⟨o1, h2, hw⟩ := hw
  refine h_getR C0 hW (T := TX9) (kf := 2) in_X9_alike_RX9 h2 rfl (by decide) (List.mem_of_getElem? (i := 1) rfl) rfl dX9_alike_1 ?_
  refine lv_iload_n hx hb dX9_alike_4 rfl (lv_at hl 1 rfl) ?_
  obtain ⟨a3, rfl, hw⟩ := hw
  obtain ⟨h5, hw⟩ := hw
  refine h_goq C0 hW (va_runV (As := [.int z1]) (rest := []) ⟨hx, hb, hml, ho, hts⟩ (k_X4_layerAt (l := l) (u := u) (X := X) (sz := H.size) _ a3 z1 S  hw) (cwV 1 hts gX9_alike_X4_layerAt rfl rfl rfl (by decide +kernel) ⟨Nat.le_of_ble_eq_true rfl, Nat.le_of_ble_eq_true rfl⟩) ⟨h_blind, (h_recv C0 hW (ci := 5) rfl h5), (h_pre C0 hW [.ref a3, .int z1])⟩ rfl rfl hl.1 rfl (lv_room (Nat.le_of_ble_eq_true rfl)) dX9_alike_5 ⟨Nat.le_refl _, Nat.le_refl _⟩) (fun r4 S6 H locs h7 hW => ?_)
  obtain ⟨h8, hp⟩ := h7
  rw [h8] at hW
  replace hw := hp
  refine lv_astoreV_n (i := 3) (lv' := [(3, va_rf r4), (0, .ref t0), (1, .int z1), (2, .int z2)]) hx hb dX9_alike_8 rfl hl (by decide) rfl (fun ls hl9 => ?_)
  replace hl := hl9
  refine lv_aload_n hx hb dX9_alike_9 rfl (lv_at hl 1 rfl) ?_
  obtain ⟨o9, h10, hw⟩ := hw
  refine h_getR C0 hW (T := TX9) (kf := 2) in_X9_alike_RX9 h10 rfl (by decide) (List.mem_of_getElem? (i := 1) rfl) rfl dX9_alike_10 ?_
  refine lv_iload_n hx hb dX9_alike_13 rfl (lv_at hl 3 rfl) ?_
  obtain ⟨a11, rfl, hw⟩ := hw
  obtain ⟨h13, hw⟩ := hw
  refine h_goq C0 hW (va_runV (As := [.int z2]) (rest := []) ⟨hx, hb, hml, ho, hts⟩ (k_X4_layerAt (l := l) (u := u) (X := X) (sz := H.size) _ a11 z2 S  hw) (cwV 1 hts gX9_alike_X4_layerAt rfl rfl rfl (by decide +kernel) ⟨Nat.le_of_ble_eq_true rfl, Nat.le_of_ble_eq_true rfl⟩) ⟨h_blind, (h_recv C0 hW (ci := 5) rfl h13), (h_pre C0 hW [.ref a11, .int z2])⟩ rfl rfl hl.1 rfl (lv_room (Nat.le_of_ble_eq_true rfl)) dX9_alike_14 ⟨Nat.le_refl _, Nat.le_refl _⟩) (fun r12 S14 H locs h15 hW => ?_)
  obtain ⟨h16, hp⟩ := h15
  rw [h16] at hW
  replace hw := hp
  refine lv_astoreV (i := 4) (lv' := [(4, va_rf r12), (3, va_rf r4), (0, .ref t0), (1, .int z1), (2, .int z2)]) hx hb dX9_alike_17 hl (by decide) (by show (4, va_rf r12) :: List.filter (fun q : Nat × Value => !(q.1 == 4) && !(q.1 + 1 == 4 && q.2.category == 2)) [(3, va_rf r4), (0, .ref t0), (1, .int z1), (2, .int z2)] = [(4, va_rf r12), (3, va_rf r4), (0, .ref t0), (1, .int z1), (2, .int z2)]; simp [va_rf_cat, va_c_ref, va_c_int, va_c_null]) (fun ls hl9 => ?_)
  replace hl := hl9
  refine lv_aloadV_n hx hb dX9_alike_19 rfl (lv_at hl 1 rfl) ?_
  refine lv_ifnullV (tgt := 28) hx hb dX9_alike_20 (by decide) (fun c17 => ?_) (fun a18 c17 => ?_)
  · subst c17
    replace hw := hw.1 rfl
    refine lv_iconst (v := (-1)) hx hb dX9_alike_28 (by decide) ?_
    exact hret (-1) S _ _ 0 0 (Nat.le_refl _) (Nat.le_refl _) ⟨rfl, hw⟩ rfl dX9_alike_29 _ _ _ hW hl
  · subst c17
    replace hw := hw.2 a18 rfl
    refine lv_aloadV hx hb dX9_alike_23 (lv_at hl 0 rfl) ?_
    refine lv_ifnonnullV (tgt := 30) hx hb dX9_alike_25 (by decide) (fun a20 c19 => ?_) (fun c19 => ?_)
    · subst c19
      replace hw := hw.2 a20 rfl
      refine lv_aload_n hx hb dX9_alike_30 rfl (lv_at hl 1 rfl) ?_
      refine lv_aload hx hb dX9_alike_31 (lv_at hl 0 rfl) ?_
      obtain ⟨h22, hw⟩ := hw
      refine h_goi C0 hW (va_runV (As := [.ref a20]) (rest := []) ⟨hx, hb, hml, ho, hts⟩ (k_X3_hasEntriesOf (l := l) (u := u) (X := X) (sz := H.size) _ a18 (some a20) S  hw) (cwV 1 hts gX9_alike_X3_hasEntriesOf rfl rfl rfl (by decide +kernel) ⟨Nat.le_of_ble_eq_true rfl, Nat.le_of_ble_eq_true rfl⟩) ⟨h_blind, (h_recv C0 hW (ci := 4) rfl h22), (h_pre C0 hW [.ref a18, .ref a20])⟩ rfl rfl hl.1 rfl (lv_room (Nat.le_of_ble_eq_true rfl)) dX9_alike_33 ⟨Nat.le_refl _, Nat.le_refl _⟩) (fun r21 S23 H locs h24 hW => ?_)
      obtain ⟨h25, hp⟩ := h24
      rw [h25] at hW
      replace hw := hp
      refine lv_if_eq (tgt := 43) hx hb dX9_alike_36 (by decide) (fun c26 => ?_) (fun c26 => ?_)
      · replace hw := hw.1 c26
        refine lv_iconst (v := 0) hx hb dX9_alike_43 (by decide) ?_
        exact hret 0 S _ _ 0 0 (Nat.le_refl _) (Nat.le_refl _) ⟨rfl, hw⟩ rfl dX9_alike_44 _ _ _ hW hl
      · replace hw := hw.2 c26
        refine lv_iconst (v := 1) hx hb dX9_alike_39 (by decide) ?_
        refine lv_goto (tgt := 44) hx hb dX9_alike_40 (by decide) ?_
        exact hret 1 S _ _ 0 0 (Nat.le_refl _) (Nat.le_refl _) ⟨rfl, hw⟩ rfl dX9_alike_44 _ _ _ hW hl
    · subst c19
      replace hw := hw.1 rfl
      refine lv_iconst (v := (-1)) hx hb dX9_alike_28 (by decide) ?_
      exact hret (-1) S _ _ 0 0 (Nat.le_refl _) (Nat.le_refl _) ⟨rfl, hw⟩ rfl dX9_alike_29 _ _ _ hW hl
set_option maxHeartbeats 4000000 in
set_option maxRecDepth 100000 in
theorem k_X9_alike {l : Launch} {D : va_G} {u : hU} {X : va_W} {sz : Nat} (post : Int32 → Prop) (t0 : Nat) (z1 : Int32) (z2 : Int32) (S : hS) (hw : w_X9_alike u post t0 z1 z2 S) : hMi l yX9_alike wsX9_alike rm_X9_alike D (gt u.2.1) u.1 u.2.2 sz X S [.ref t0, .int z1, .int z2] (fun r S' => S' = S ∧ post r) 0 0 := by
  refine hMi_of (cc := cX9_alike) (nL := 5) (ty := .int) (own := RX9) (by decide) rfl rfl (Nat.le_of_ble_eq_true rfl) ?_
  intro p e s m args below meth c A Q C0 hin hret
  exact t_X9_alike_0 C0 t0 post hret z1 z2 hw
abbrev rm_X9_digest : Room := { frames := 6, cells := 0, slots := 0, locals := 132 }
theorem in_X9_digest_RX9 : ∀ w ∈ wsX90, w ∈ wsX9_digest := fun w hw9 => List.mem_cons_of_mem _ (List.mem_append_left _ (List.mem_append_left _ (List.mem_append_left _ (List.mem_append_left _ (List.mem_append_right _ hw9)))))
set_option maxHeartbeats 4000000 in
set_option maxRecDepth 100000 in
theorem t_X9_digest_0 (C0 : hX p s m args c cX9_digest 3 RX9 wsX9_digest D (gt u.2.1) A u.1 u.2.2) {S : hS} (t0 : Nat) (post : Int32 → Prop) (hret : ∀ (r : Int32) (S' : hS) (pc : Nat) (lv : List (Nat × Value)) (k n : Nat), k ≤ 0 → n ≤ 0 → (S' = S ∧ post r) → narrow .int (.int r) = .int r → decode cX9_digest pc = .ok (.ireturn, 1) → gG p l e (rm_X9_digest) s m args below meth c Q D A 3 k n (hC X S') pc lv [.int r])  : ∀ (z1 : Int32), w_X9_digest u post t0  z1 S → gG p l e (rm_X9_digest) s m args below meth c Q D A 3 0 0 (hC X S) 0 [(0, .ref t0), (1, .int z1)] [] := by
  obtain ⟨⟨hx, hb, hml, ho, hts, hK, hA⟩, hR⟩ := id C0
  intro z1 hw H locs ls hW hl
  rw [w_X9_digest] at hw
  refine lv_aload_n hx hb dX9_digest_0 rfl (lv_at hl 0 rfl) ?_
  obtain ⟨o1, h2, hw⟩ := hw
  refine h_getR C0 hW (T := TX9) (kf := 2) in_X9_digest_RX9 h2 rfl (by decide) (List.mem_of_getElem? (i := 1) rfl) rfl dX9_digest_1 ?_
  refine lv_iload_n hx hb dX9_digest_4 rfl (lv_at hl 1 rfl) ?_
  obtain ⟨a3, rfl, hw⟩ := hw
  obtain ⟨h5, hw⟩ := hw
  refine h_goq C0 hW (va_runV (As := [.int z1]) (rest := []) ⟨hx, hb, hml, ho, hts⟩ (k_X4_layerAt (l := l) (u := u) (X := X) (sz := H.size) _ a3 z1 S  hw) (cwV 1 hts gX9_digest_X4_layerAt rfl rfl rfl (by decide +kernel) ⟨Nat.le_of_ble_eq_true rfl, Nat.le_of_ble_eq_true rfl⟩) ⟨h_blind, (h_recv C0 hW (ci := 5) rfl h5), (h_pre C0 hW [.ref a3, .int z1])⟩ rfl rfl hl.1 rfl (lv_room (Nat.le_of_ble_eq_true rfl)) dX9_digest_5 ⟨Nat.le_refl _, Nat.le_refl _⟩) (fun r4 S6 H locs h7 hW => ?_)
  obtain ⟨h8, hp⟩ := h7
  rw [h8] at hW
  replace hw := hp
  refine lv_astoreV_n (i := 2) (lv' := [(2, va_rf r4), (0, .ref t0), (1, .int z1)]) hx hb dX9_digest_8 rfl hl (by decide) rfl (fun ls hl9 => ?_)
  replace hl := hl9
  refine lv_aloadV_n hx hb dX9_digest_9 rfl (lv_at hl 0 rfl) ?_
  refine lv_ifnonnullV (tgt := 15) hx hb dX9_digest_10 (by decide) (fun a10 c9 => ?_) (fun c9 => ?_)
  · subst c9
    replace hw := hw.2 a10 rfl
    refine lv_aload_n hx hb dX9_digest_15 rfl (lv_at hl 0 rfl) ?_
    obtain ⟨h12, hw⟩ := hw
    refine h_goi C0 hW (va_runV (As := []) (rest := []) ⟨hx, hb, hml, ho, hts⟩ (k_X3_digestNumber (l := l) (u := u) (X := X) (sz := H.size) _ a10  S  hw) (cwV 0 hts gX9_digest_X3_digestNumber rfl rfl rfl (by decide +kernel) ⟨Nat.le_of_ble_eq_true rfl, Nat.le_of_ble_eq_true rfl⟩) ⟨h_blind, (h_recv C0 hW (ci := 4) rfl h12), (h_pre C0 hW [.ref a10])⟩ rfl rfl hl.1 rfl (lv_room (Nat.le_of_ble_eq_true rfl)) dX9_digest_16 ⟨Nat.le_refl _, Nat.le_refl _⟩) (fun r11 S13 H locs h14 hW => ?_)
    obtain ⟨h15, hp⟩ := h14
    rw [h15] at hW
    replace hw := hp
    exact hret r11 S _ _ 0 0 (Nat.le_refl _) (Nat.le_refl _) ⟨rfl, hw⟩ rfl dX9_digest_19 _ _ _ hW hl
  · subst c9
    replace hw := hw.1 rfl
    refine lv_iconst (v := 0) hx hb dX9_digest_13 (by decide) ?_
    exact hret 0 S _ _ 0 0 (Nat.le_refl _) (Nat.le_refl _) ⟨rfl, hw⟩ rfl dX9_digest_14 _ _ _ hW hl
set_option maxHeartbeats 4000000 in
set_option maxRecDepth 100000 in
theorem k_X9_digest {l : Launch} {D : va_G} {u : hU} {X : va_W} {sz : Nat} (post : Int32 → Prop) (t0 : Nat) (z1 : Int32) (S : hS) (hw : w_X9_digest u post t0 z1 S) : hMi l yX9_digest wsX9_digest rm_X9_digest D (gt u.2.1) u.1 u.2.2 sz X S [.ref t0, .int z1] (fun r S' => S' = S ∧ post r) 0 0 := by
  refine hMi_of (cc := cX9_digest) (nL := 3) (ty := .int) (own := RX9) (by decide) rfl rfl (Nat.le_of_ble_eq_true rfl) ?_
  intro p e s m args below meth c A Q C0 hin hret
  exact t_X9_digest_0 C0 t0 post hret z1 hw
abbrev rm_X9_makeTokenizer (MC MS : Nat) : Room := { frames := 7, cells := MC, slots := MS, locals := 156 }
theorem in_X9_makeTokenizer_RX8 : ∀ w ∈ wsX80, w ∈ wsX9_makeTokenizer := fun w hw9 => List.mem_cons_of_mem _ (List.mem_append_left _ (List.mem_append_left _ (List.mem_append_right _ hw9)))
theorem in_X9_makeTokenizer_RX9 : ∀ w ∈ wsX90, w ∈ wsX9_makeTokenizer := fun w hw9 => List.mem_cons_of_mem _ (List.mem_append_left _ (List.mem_append_right _ hw9))
set_option maxHeartbeats 4000000 in
set_option maxRecDepth 100000 in
theorem t_X9_makeTokenizer_0 (C0 : hX p s m args c cX9_makeTokenizer 6 RX9 wsX9_makeTokenizer D (gt u.2.1) A u.1 u.2.2) (t0 : Nat) (post : Int32 → hS → Prop) (hret : ∀ (r : Int32) (S' : hS) (pc : Nat) (lv : List (Nat × Value)) (k n : Nat), k ≤ MC → n ≤ MS → post r S' → narrow .int (.int r) = .int r → decode cX9_makeTokenizer pc = .ok (.ireturn, 1) → gG p l e (rm_X9_makeTokenizer MC MS) s m args below meth c Q D A 6 k n (hC X S') pc lv [.int r])  : ∀ (z1 : Int32) (p2 : Option Nat) (p3 : Option Nat) (z4 : Int32) (S : hS) (mc ms k n : Nat), k + mc ≤ MC ∧ n + ms ≤ MS → w_X9_makeTokenizer u post t0  z1 p2 p3 z4 S mc ms → gG p l e (rm_X9_makeTokenizer MC MS) s m args below meth c Q D A 6 k n (hC X S) 0 [(0, .ref t0), (1, .int z1), (2, va_rf p2), (3, va_rf p3), (4, .int z4)] [] := by
  obtain ⟨⟨hx, hb, hml, ho, hts, hK, hA⟩, hR⟩ := id C0
  intro z1 p2 p3 z4 S mc ms k n hkn hw H locs ls hW hl
  rw [w_X9_makeTokenizer] at hw
  refine lv_iload_n hx hb dX9_makeTokenizer_0 rfl (lv_at hl 1 rfl) ?_
  refine lv_iconst (v := 2) hx hb dX9_makeTokenizer_1 (by decide) ?_
  refine g_calls (As := [.int z1, .int 2]) (rest := []) ⟨hx, hb, hml, ho, hts⟩ hl.1 (k_X9_isWithin (l := l) _ z1 2 hw) (va_cwS 2 hts gX9_makeTokenizer_X9_isWithin rfl rfl rfl (by decide +kernel) ⟨Nat.le_of_ble_eq_true rfl, Nat.le_of_ble_eq_true rfl⟩) (Nat.le_of_ble_eq_true rfl) dX9_makeTokenizer_2 rfl ⟨by show _ ≤ MC; omega, by show _ ≤ MS; omega⟩ (fun r1 hp => ?_)
  replace hw := hp
  refine lv_if_ne (tgt := 10) hx hb dX9_makeTokenizer_5 (by decide) (fun c2 => ?_) (fun c2 => ?_)
  · replace hw := hw.1 c2
    obtain ⟨h6, h7, hw⟩ := hw
    refine h_new C0 hW (ci := 9) (fs := [.null, .int 0, .null, .int 0]) in_X9_makeTokenizer_RX8 rfl tyX8 tyX8_ok (List.mem_of_getElem? (i := 1) rfl) (List.mem_of_getElem? (i := 2) rfl) (List.mem_of_getElem? (i := 3) rfl) (fun j hj => by rcases (show j = 0 ∨ j = 1 ∨ j = 2 ∨ j = 3 by omega) with rfl | rfl | rfl | rfl <;> rfl) (by show _ ≤ MC; omega) (by show _ ≤ MS; omega) dX9_makeTokenizer_10 (fun q3 H h4 hW => ?_)
    obtain ⟨S5, eS5⟩ : ∃ z : hS, z = adS S q3 (.inr (9, [.null, .int 0, .null, .int 0])) := ⟨_, rfl⟩
    rw [← eS5] at hW
    replace hw := hw q3 S5 h4 eS5
    have hkn : (k + 1) + (mc - 1) ≤ MC ∧ (n + 4) + (ms - 4) ≤ MS := by omega
    refine lv_dup hx hb dX9_makeTokenizer_13 rfl ?_
    refine lv_aloadV_n hx hb dX9_makeTokenizer_14 rfl (lv_at hl 2 rfl) ?_
    refine lv_aloadV_n hx hb dX9_makeTokenizer_15 rfl (lv_at hl 3 rfl) ?_
    refine lv_iload hx hb dX9_makeTokenizer_16 (lv_at hl 4 rfl) ?_
    refine h_gov C0 hW (va_runI (As := [va_rf p2, va_rf p3, .int z4]) (rest := [.ref q3]) ⟨hx, hb, hml, ho, hts⟩ (k_X8_init (l := l) (u := u) (X := X) (sz := H.size) _ q3 p2 p3 z4 S5  hw) (cwI 3 hts gX9_makeTokenizer_X8_init rfl rfl rfl (hts _ (List.mem_of_getElem? (i := 3) rfl)) (hts _ (List.mem_of_getElem? (i := 9) rfl)) (hts _ (List.mem_of_getElem? (i := 10) rfl)) rfl (by decide +kernel) ⟨Nat.le_of_ble_eq_true rfl, Nat.le_of_ble_eq_true rfl⟩) ⟨h_blind, (h_pre C0 hW [.ref q3, va_rf p2, va_rf p3, .int z4])⟩ rfl rfl hl.1 rfl (lv_room (Nat.le_of_ble_eq_true rfl)) dX9_makeTokenizer_18 ⟨by show _ ≤ MC; omega, by show _ ≤ MS; omega⟩) (fun S9 H locs h10 hW => ?_)
    replace hw := h10
    refine lv_astore (i := 5) (lv' := [(5, .ref q3), (0, .ref t0), (1, .int z1), (2, va_rf p2), (3, va_rf p3), (4, .int z4)]) hx hb dX9_makeTokenizer_21 hl (by decide) rfl (fun ls hl9 => ?_)
    replace hl := hl9
    refine lv_aload_n hx hb dX9_makeTokenizer_23 rfl (lv_at hl 1 rfl) ?_
    obtain ⟨o11, h12, hw⟩ := hw
    refine h_getR C0 hW (T := TX9) (kf := 5) in_X9_makeTokenizer_RX9 h12 rfl (by decide) (List.mem_of_getElem? (i := 4) rfl) rfl dX9_makeTokenizer_24 ?_
    refine lv_iload_n hx hb dX9_makeTokenizer_27 rfl (lv_at hl 2 rfl) ?_
    refine lv_aload hx hb dX9_makeTokenizer_28 (lv_at hl 0 rfl) ?_
    obtain ⟨a13, rfl, hw⟩ := hw
    obtain ⟨N14, g15, h16, h17, h19, hw⟩ := hw
    refine h_qast C0 hW 6 9 h16 rfl h19 rfl h17 dX9_makeTokenizer_30 (fun H locs hW => ?_)
    obtain ⟨S18, eS18⟩ : ∃ z : hS, z = upS S9 a13 (.inl (u.2.1 6, N14, .inr (.inr (.inr (.inr (va_up g15 (z1 : Int32).toNatClampNeg (some q3))))))) := ⟨_, rfl⟩
    rw [← eS18] at hW
    replace hw := hw S18 eS18
    refine lv_aload hx hb dX9_makeTokenizer_31 (lv_at hl 0 rfl) ?_
    obtain ⟨h21, hw⟩ := hw
    refine h_goi C0 hW (va_runV (As := []) (rest := []) ⟨hx, hb, hml, ho, hts⟩ (k_X8_tokensLeft (l := l) (u := u) (X := X) (sz := H.size) _ q3  S18  hw) (cwV 0 hts gX9_makeTokenizer_X8_tokensLeft rfl rfl rfl (by decide +kernel) ⟨Nat.le_of_ble_eq_true rfl, Nat.le_of_ble_eq_true rfl⟩) ⟨h_blind, (h_recv C0 hW (ci := 9) rfl h21), (h_pre C0 hW [.ref q3])⟩ rfl rfl hl.1 rfl (lv_room (Nat.le_of_ble_eq_true rfl)) dX9_makeTokenizer_33 ⟨by show _ ≤ MC; omega, by show _ ≤ MS; omega⟩) (fun r20 S22 H locs h23 hW => ?_)
    obtain ⟨h24, hp⟩ := h23
    rw [h24] at hW
    replace hw := hp
    exact hret r20 S18 _ _ _ _ (by omega) (by omega) hw rfl dX9_makeTokenizer_36 _ _ _ hW hl
  · replace hw := hw.2 c2
    refine lv_iconst (v := (-1)) hx hb dX9_makeTokenizer_8 (by decide) ?_
    exact hret (-1) S _ _ _ _ (by omega) (by omega) hw rfl dX9_makeTokenizer_9 _ _ _ hW hl
set_option maxHeartbeats 4000000 in
set_option maxRecDepth 100000 in
theorem k_X9_makeTokenizer {l : Launch} {D : va_G} {u : hU} {X : va_W} {sz : Nat} (post : Int32 → hS → Prop) (t0 : Nat) (z1 : Int32) (p2 : Option Nat) (p3 : Option Nat) (z4 : Int32) (S : hS) (mc ms : Nat) (hw : w_X9_makeTokenizer u post t0 z1 p2 p3 z4 S mc ms) : hMi l yX9_makeTokenizer wsX9_makeTokenizer (rm_X9_makeTokenizer mc ms) D (gt u.2.1) u.1 u.2.2 sz X S [.ref t0, .int z1, va_rf p2, va_rf p3, .int z4] post mc ms := by
  refine hMi_of (cc := cX9_makeTokenizer) (nL := 6) (ty := .int) (own := RX9) (by decide) rfl rfl (by cases p2 <;> cases p3 <;> exact Nat.le_of_ble_eq_true rfl) ?_
  intro p e s m args below meth c A Q C0 hin hret
  have hfin := t_X9_makeTokenizer_0 C0 t0 post hret z1 p2 p3 z4 S mc ms 0 0 ⟨by omega, by omega⟩ hw
  intro H locs ls hW hl
  refine hfin H locs ls hW ?_
  cases p2 <;> cases p3 <;> exact hl
abbrev rm_X9_tokenize (MC MS : Nat) : Room := { frames := 8, cells := MC, slots := MS, locals := 181 }
theorem in_X9_tokenize_RX6 : ∀ w ∈ wsX60, w ∈ wsX9_tokenize := fun w hw9 => List.mem_cons_of_mem _ (List.mem_append_left _ (List.mem_append_left _ (List.mem_append_left _ (List.mem_append_right _ hw9))))
set_option maxHeartbeats 4000000 in
set_option maxRecDepth 100000 in
theorem t_X9_tokenize_0 (C0 : hX p s m args c cX9_tokenize 4 RX9 wsX9_tokenize D (gt u.2.1) A u.1 u.2.2) (t0 : Nat) (post : Int32 → hS → Prop) (hret : ∀ (r : Int32) (S' : hS) (pc : Nat) (lv : List (Nat × Value)) (k n : Nat), k ≤ MC → n ≤ MS → post r S' → narrow .int (.int r) = .int r → decode cX9_tokenize pc = .ok (.ireturn, 1) → gG p l e (rm_X9_tokenize MC MS) s m args below meth c Q D A 4 k n (hC X S') pc lv [.int r])  : ∀ (z1 : Int32) (z2 : Int32) (S : hS) (mc ms k n : Nat), k + mc ≤ MC ∧ n + ms ≤ MS → w_X9_tokenize u post t0  z1 z2 S mc ms → gG p l e (rm_X9_tokenize MC MS) s m args below meth c Q D A 4 k n (hC X S) 0 [(0, .ref t0), (1, .int z1), (2, .int z2)] [] := by
  obtain ⟨⟨hx, hb, hml, ho, hts, hK, hA⟩, hR⟩ := id C0
  intro z1 z2 S mc ms k n hkn hw H locs ls hW hl
  rw [w_X9_tokenize] at hw
  refine lv_aload_n hx hb dX9_tokenize_0 rfl (lv_at hl 0 rfl) ?_
  refine lv_iload_n hx hb dX9_tokenize_1 rfl (lv_at hl 2 rfl) ?_
  obtain ⟨h2, hw⟩ := hw
  refine h_goq C0 hW (va_runV (As := [.int z2]) (rest := []) ⟨hx, hb, hml, ho, hts⟩ (k_X9_slotAt (l := l) (u := u) (X := X) (sz := H.size) _ t0 z2 S  hw) (cwV 1 hts gX9_tokenize_X9_slotAt rfl rfl rfl (by decide +kernel) ⟨Nat.le_of_ble_eq_true rfl, Nat.le_of_ble_eq_true rfl⟩) ⟨h_blind, (h_recv C0 hW (ci := 10) rfl h2), (h_pre C0 hW [.ref t0, .int z2])⟩ rfl rfl hl.1 rfl (lv_room (Nat.le_of_ble_eq_true rfl)) dX9_tokenize_2 ⟨by show _ ≤ MC; omega, by show _ ≤ MS; omega⟩) (fun r1 S3 H locs h4 hW => ?_)
  obtain ⟨h5, hp⟩ := h4
  rw [h5] at hW
  replace hw := hp
  refine lv_astoreV_n (i := 3) (lv' := [(3, va_rf r1), (0, .ref t0), (1, .int z1), (2, .int z2)]) hx hb dX9_tokenize_5 rfl hl (by decide) rfl (fun ls hl9 => ?_)
  replace hl := hl9
  refine lv_iload_n hx hb dX9_tokenize_6 rfl (lv_at hl 2 rfl) ?_
  refine lv_iconst (v := 2) hx hb dX9_tokenize_7 (by decide) ?_
  refine g_calls (As := [.int z1, .int 2]) (rest := []) ⟨hx, hb, hml, ho, hts⟩ hl.1 (k_X9_isWithin (l := l) _ z1 2 hw) (va_cwS 2 hts gX9_tokenize_X9_isWithin rfl rfl rfl (by decide +kernel) ⟨Nat.le_of_ble_eq_true rfl, Nat.le_of_ble_eq_true rfl⟩) (Nat.le_of_ble_eq_true rfl) dX9_tokenize_8 rfl ⟨by show _ ≤ MC; omega, by show _ ≤ MS; omega⟩ (fun r6 hp => ?_)
  replace hw := hp
  refine lv_if_eq (tgt := 18) hx hb dX9_tokenize_11 (by decide) (fun c7 => ?_) (fun c7 => ?_)
  · replace hw := hw.1 c7
    refine lv_iconst (v := (-1)) hx hb dX9_tokenize_18 (by decide) ?_
    exact hret (-1) S _ _ _ _ (by omega) (by omega) hw rfl dX9_tokenize_19 _ _ _ hW hl
  · replace hw := hw.2 c7
    refine lv_aloadV_n hx hb dX9_tokenize_14 rfl (lv_at hl 0 rfl) ?_
    refine lv_ifnonnullV (tgt := 20) hx hb dX9_tokenize_15 (by decide) (fun a9 c8 => ?_) (fun c8 => ?_)
    · subst c8
      replace hw := hw.2 a9 rfl
      refine lv_aload_n hx hb dX9_tokenize_20 rfl (lv_at hl 0 rfl) ?_
      obtain ⟨o10, h11, hw⟩ := hw
      refine h_getRN C0 hW (host := RX9) (T := TX6) (kf := 0) in_X9_tokenize_RX6 h11 rfl (by decide) (by decide +kernel) rfl dX9_tokenize_21 ?_
      refine lv_ifnonnullV (tgt := 32) hx hb dX9_tokenize_24 (by decide) (fun a13 c12 => ?_) (fun c12 => ?_)
      · subst c12
        replace hw := hw.2 a13 rfl
        refine lv_aload_n hx hb dX9_tokenize_32 rfl (lv_at hl 1 rfl) ?_
        refine lv_iload_n hx hb dX9_tokenize_33 rfl (lv_at hl 2 rfl) ?_
        refine lv_aload_n hx hb dX9_tokenize_34 rfl (lv_at hl 0 rfl) ?_
        obtain ⟨o18, h19, hw⟩ := hw
        refine h_getRN C0 hW (host := RX9) (T := TX6) (kf := 0) in_X9_tokenize_RX6 h19 rfl (by decide) (by decide +kernel) rfl dX9_tokenize_35 ?_
        refine va_ldcS hx hb ho C0.2.2.2.1.2.2.2.2.1 dX9_tokenize_38 ?_
        refine lv_iconst (v := 0) hx hb dX9_tokenize_40 (by decide) ?_
        obtain ⟨h25, k21, n22, h23, h24, hw⟩ := hw
        refine h_goi C0 hW (va_runV (As := [.int z1, va_rf o18, .ref (u.1 2).1, .int 0]) (rest := []) ⟨hx, hb, hml, ho, hts⟩ (k_X9_makeTokenizer (l := l) (u := u) (X := X) (sz := H.size) _ t0 z1 o18 (some (u.1 2).1) 0 S k21 n22 hw) (cwV 4 hts gX9_tokenize_X9_makeTokenizer rfl rfl rfl (by decide +kernel) ⟨Nat.le_of_ble_eq_true rfl, Nat.le_of_ble_eq_true rfl⟩) ⟨h_blind, (h_recv C0 hW (ci := 10) rfl h25), (h_pre C0 hW [.ref t0, .int z1, va_rf o18, .ref (u.1 2).1, .int 0])⟩ rfl rfl hl.1 rfl (lv_room (Nat.le_of_ble_eq_true rfl)) dX9_tokenize_41 ⟨by show _ ≤ MC; omega, by show _ ≤ MS; omega⟩) (fun r20 S26 H locs h27 hW => ?_)
        replace hw := h27
        have hkn : (k + k21) + (mc - k21) ≤ MC ∧ (n + n22) + (ms - n22) ≤ MS := by omega
        exact hret r20 S26 _ _ _ _ (by omega) (by omega) hw rfl dX9_tokenize_44 _ _ _ hW hl
      · subst c12
        replace hw := hw.1 rfl
        refine lv_aload_n hx hb dX9_tokenize_27 rfl (lv_at hl 1 rfl) ?_
        obtain ⟨h15, hw⟩ := hw
        refine h_goi C0 hW (va_runV (As := []) (rest := []) ⟨hx, hb, hml, ho, hts⟩ (k_X9_refuseNull (l := l) (u := u) (X := X) (sz := H.size) _ t0  S  hw) (cwV 0 hts gX9_tokenize_X9_refuseNull rfl rfl rfl (by decide +kernel) ⟨Nat.le_of_ble_eq_true rfl, Nat.le_of_ble_eq_true rfl⟩) ⟨h_blind, (h_recv C0 hW (ci := 10) rfl h15), (h_pre C0 hW [.ref t0])⟩ rfl rfl hl.1 rfl (lv_room (Nat.le_of_ble_eq_true rfl)) dX9_tokenize_28 ⟨by show _ ≤ MC; omega, by show _ ≤ MS; omega⟩) (fun r14 S16 H locs h17 hW => ?_)
        replace hw := h17
        exact hret r14 S16 _ _ _ _ (by omega) (by omega) hw rfl dX9_tokenize_31 _ _ _ hW hl
    · subst c8
      replace hw := hw.1 rfl
      refine lv_iconst (v := (-1)) hx hb dX9_tokenize_18 (by decide) ?_
      exact hret (-1) S _ _ _ _ (by omega) (by omega) hw rfl dX9_tokenize_19 _ _ _ hW hl
set_option maxHeartbeats 4000000 in
set_option maxRecDepth 100000 in
theorem k_X9_tokenize {l : Launch} {D : va_G} {u : hU} {X : va_W} {sz : Nat} (post : Int32 → hS → Prop) (t0 : Nat) (z1 : Int32) (z2 : Int32) (S : hS) (mc ms : Nat) (hw : w_X9_tokenize u post t0 z1 z2 S mc ms) : hMi l yX9_tokenize wsX9_tokenize (rm_X9_tokenize mc ms) D (gt u.2.1) u.1 u.2.2 sz X S [.ref t0, .int z1, .int z2] post mc ms := by
  refine hMi_of (cc := cX9_tokenize) (nL := 4) (ty := .int) (own := RX9) (by decide) rfl rfl (Nat.le_of_ble_eq_true rfl) ?_
  intro p e s m args below meth c A Q C0 hin hret
  exact t_X9_tokenize_0 C0 t0 post hret z1 z2 S mc ms 0 0 ⟨by omega, by omega⟩ hw
abbrev rm_X9_tokenizeSlots (MC MS : Nat) : Room := { frames := 8, cells := MC, slots := MS, locals := 181 }
theorem in_X9_tokenizeSlots_RX6 : ∀ w ∈ wsX60, w ∈ wsX9_tokenizeSlots := fun w hw9 => List.mem_cons_of_mem _ (List.mem_append_left _ (List.mem_append_left _ (List.mem_append_left _ (List.mem_append_right _ hw9))))
set_option maxHeartbeats 4000000 in
set_option maxRecDepth 100000 in
theorem t_X9_tokenizeSlots_0 (C0 : hX p s m args c cX9_tokenizeSlots 7 RX9 wsX9_tokenizeSlots D (gt u.2.1) A u.1 u.2.2) (t0 : Nat) (post : Int32 → hS → Prop) (hret : ∀ (r : Int32) (S' : hS) (pc : Nat) (lv : List (Nat × Value)) (k n : Nat), k ≤ MC → n ≤ MS → post r S' → narrow .int (.int r) = .int r → decode cX9_tokenizeSlots pc = .ok (.ireturn, 1) → gG p l e (rm_X9_tokenizeSlots MC MS) s m args below meth c Q D A 7 k n (hC X S') pc lv [.int r])  : ∀ (z1 : Int32) (z2 : Int32) (z3 : Int32) (z4 : Int32) (S : hS) (mc ms k n : Nat), k + mc ≤ MC ∧ n + ms ≤ MS → w_X9_tokenizeSlots u post t0  z1 z2 z3 z4 S mc ms → gG p l e (rm_X9_tokenizeSlots MC MS) s m args below meth c Q D A 7 k n (hC X S) 0 [(0, .ref t0), (1, .int z1), (2, .int z2), (3, .int z3), (4, .int z4)] [] := by
  obtain ⟨⟨hx, hb, hml, ho, hts, hK, hA⟩, hR⟩ := id C0
  intro z1 z2 z3 z4 S mc ms k n hkn hw H locs ls hW hl
  rw [w_X9_tokenizeSlots] at hw
  refine lv_aload_n hx hb dX9_tokenizeSlots_0 rfl (lv_at hl 0 rfl) ?_
  refine lv_iload_n hx hb dX9_tokenizeSlots_1 rfl (lv_at hl 2 rfl) ?_
  obtain ⟨h2, hw⟩ := hw
  refine h_goq C0 hW (va_runV (As := [.int z2]) (rest := []) ⟨hx, hb, hml, ho, hts⟩ (k_X9_slotAt (l := l) (u := u) (X := X) (sz := H.size) _ t0 z2 S  hw) (cwV 1 hts gX9_tokenizeSlots_X9_slotAt rfl rfl rfl (by decide +kernel) ⟨Nat.le_of_ble_eq_true rfl, Nat.le_of_ble_eq_true rfl⟩) ⟨h_blind, (h_recv C0 hW (ci := 10) rfl h2), (h_pre C0 hW [.ref t0, .int z2])⟩ rfl rfl hl.1 rfl (lv_room (Nat.le_of_ble_eq_true rfl)) dX9_tokenizeSlots_2 ⟨by show _ ≤ MC; omega, by show _ ≤ MS; omega⟩) (fun r1 S3 H locs h4 hW => ?_)
  obtain ⟨h5, hp⟩ := h4
  rw [h5] at hW
  replace hw := hp
  refine lv_astoreV (i := 5) (lv' := [(5, va_rf r1), (0, .ref t0), (1, .int z1), (2, .int z2), (3, .int z3), (4, .int z4)]) hx hb dX9_tokenizeSlots_5 hl (by decide) rfl (fun ls hl9 => ?_)
  replace hl := hl9
  refine lv_aload_n hx hb dX9_tokenizeSlots_7 rfl (lv_at hl 1 rfl) ?_
  refine lv_iload_n hx hb dX9_tokenizeSlots_8 rfl (lv_at hl 4 rfl) ?_
  obtain ⟨h7, hw⟩ := hw
  refine h_goq C0 hW (va_runV (As := [.int z3]) (rest := []) ⟨hx, hb, hml, ho, hts⟩ (k_X9_slotAt (l := l) (u := u) (X := X) (sz := H.size) _ t0 z3 S  hw) (cwV 1 hts gX9_tokenizeSlots_X9_slotAt rfl rfl rfl (by decide +kernel) ⟨Nat.le_of_ble_eq_true rfl, Nat.le_of_ble_eq_true rfl⟩) ⟨h_blind, (h_recv C0 hW (ci := 10) rfl h7), (h_pre C0 hW [.ref t0, .int z3])⟩ rfl rfl hl.1 rfl (lv_room (Nat.le_of_ble_eq_true rfl)) dX9_tokenizeSlots_9 ⟨by show _ ≤ MC; omega, by show _ ≤ MS; omega⟩) (fun r6 S8 H locs h9 hW => ?_)
  obtain ⟨h10, hp⟩ := h9
  rw [h10] at hW
  replace hw := hp
  refine lv_astoreV (i := 6) (lv' := [(6, va_rf r6), (5, va_rf r1), (0, .ref t0), (1, .int z1), (2, .int z2), (3, .int z3), (4, .int z4)]) hx hb dX9_tokenizeSlots_12 hl (by decide) (by show (6, va_rf r6) :: List.filter (fun q : Nat × Value => !(q.1 == 6) && !(q.1 + 1 == 6 && q.2.category == 2)) [(5, va_rf r1), (0, .ref t0), (1, .int z1), (2, .int z2), (3, .int z3), (4, .int z4)] = [(6, va_rf r6), (5, va_rf r1), (0, .ref t0), (1, .int z1), (2, .int z2), (3, .int z3), (4, .int z4)]; simp [va_rf_cat, va_c_ref, va_c_int, va_c_null]) (fun ls hl9 => ?_)
  replace hl := hl9
  refine lv_iload_n hx hb dX9_tokenizeSlots_14 rfl (lv_at hl 3 rfl) ?_
  refine lv_iconst (v := 2) hx hb dX9_tokenizeSlots_15 (by decide) ?_
  refine g_calls (As := [.int z1, .int 2]) (rest := []) ⟨hx, hb, hml, ho, hts⟩ hl.1 (k_X9_isWithin (l := l) _ z1 2 hw) (va_cwS 2 hts gX9_tokenizeSlots_X9_isWithin rfl rfl rfl (by decide +kernel) ⟨Nat.le_of_ble_eq_true rfl, Nat.le_of_ble_eq_true rfl⟩) (Nat.le_of_ble_eq_true rfl) dX9_tokenizeSlots_16 rfl ⟨by show _ ≤ MC; omega, by show _ ≤ MS; omega⟩ (fun r11 hp => ?_)
  replace hw := hp
  refine lv_if_eq (tgt := 32) hx hb dX9_tokenizeSlots_19 (by decide) (fun c12 => ?_) (fun c12 => ?_)
  · replace hw := hw.1 c12
    refine lv_iconst (v := (-1)) hx hb dX9_tokenizeSlots_32 (by decide) ?_
    exact hret (-1) S _ _ _ _ (by omega) (by omega) hw rfl dX9_tokenizeSlots_33 _ _ _ hW hl
  · replace hw := hw.2 c12
    refine lv_aloadV hx hb dX9_tokenizeSlots_22 (lv_at hl 1 rfl) ?_
    refine lv_ifnullV (tgt := 32) hx hb dX9_tokenizeSlots_24 (by decide) (fun c13 => ?_) (fun a14 c13 => ?_)
    · subst c13
      replace hw := hw.1 rfl
      refine lv_iconst (v := (-1)) hx hb dX9_tokenizeSlots_32 (by decide) ?_
      exact hret (-1) S _ _ _ _ (by omega) (by omega) hw rfl dX9_tokenizeSlots_33 _ _ _ hW hl
    · subst c13
      replace hw := hw.2 a14 rfl
      refine lv_aloadV hx hb dX9_tokenizeSlots_27 (lv_at hl 0 rfl) ?_
      refine lv_ifnonnullV (tgt := 34) hx hb dX9_tokenizeSlots_29 (by decide) (fun a16 c15 => ?_) (fun c15 => ?_)
      · subst c15
        replace hw := hw.2 a16 rfl
        refine lv_aload hx hb dX9_tokenizeSlots_34 (lv_at hl 0 rfl) ?_
        obtain ⟨o17, h18, hw⟩ := hw
        refine h_getRN C0 hW (host := RX9) (T := TX6) (kf := 0) in_X9_tokenizeSlots_RX6 h18 rfl (by decide) (by decide +kernel) rfl dX9_tokenizeSlots_36 ?_
        refine lv_ifnonnullV (tgt := 45) hx hb dX9_tokenizeSlots_39 (by decide) (fun a20 c19 => ?_) (fun c19 => ?_)
        · subst c19
          replace hw := hw.2 a20 rfl
          refine lv_aload hx hb dX9_tokenizeSlots_45 (lv_at hl 1 rfl) ?_
          obtain ⟨o21, h22, hw⟩ := hw
          refine h_getRN C0 hW (host := RX9) (T := TX6) (kf := 0) in_X9_tokenizeSlots_RX6 h22 rfl (by decide) (by decide +kernel) rfl dX9_tokenizeSlots_47 ?_
          refine lv_ifnonnullV (tgt := 58) hx hb dX9_tokenizeSlots_50 (by decide) (fun a24 c23 => ?_) (fun c23 => ?_)
          · subst c23
            replace hw := hw.2 a24 rfl
            refine lv_aload_n hx hb dX9_tokenizeSlots_58 rfl (lv_at hl 2 rfl) ?_
            refine lv_iload_n hx hb dX9_tokenizeSlots_59 rfl (lv_at hl 3 rfl) ?_
            refine lv_aload hx hb dX9_tokenizeSlots_60 (lv_at hl 1 rfl) ?_
            obtain ⟨o29, h30, hw⟩ := hw
            refine h_getRN C0 hW (host := RX9) (T := TX6) (kf := 0) in_X9_tokenizeSlots_RX6 h30 rfl (by decide) (by decide +kernel) rfl dX9_tokenizeSlots_62 ?_
            refine lv_aload hx hb dX9_tokenizeSlots_65 (lv_at hl 0 rfl) ?_
            obtain ⟨o31, h32, hw⟩ := hw
            refine h_getRN C0 hW (host := RX9) (T := TX6) (kf := 0) in_X9_tokenizeSlots_RX6 h32 rfl (by decide) (by decide +kernel) rfl dX9_tokenizeSlots_67 ?_
            refine lv_iload hx hb dX9_tokenizeSlots_70 (lv_at hl 6 rfl) ?_
            obtain ⟨h38, k34, n35, h36, h37, hw⟩ := hw
            refine h_goi C0 hW (va_runV (As := [.int z1, va_rf o29, va_rf o31, .int z4]) (rest := []) ⟨hx, hb, hml, ho, hts⟩ (k_X9_makeTokenizer (l := l) (u := u) (X := X) (sz := H.size) _ t0 z1 o29 o31 z4 S k34 n35 hw) (cwV 4 hts gX9_tokenizeSlots_X9_makeTokenizer rfl rfl rfl (by decide +kernel) ⟨Nat.le_of_ble_eq_true rfl, Nat.le_of_ble_eq_true rfl⟩) ⟨h_blind, (h_recv C0 hW (ci := 10) rfl h38), (h_pre C0 hW [.ref t0, .int z1, va_rf o29, va_rf o31, .int z4])⟩ rfl rfl hl.1 rfl (lv_room (Nat.le_of_ble_eq_true rfl)) dX9_tokenizeSlots_72 ⟨by show _ ≤ MC; omega, by show _ ≤ MS; omega⟩) (fun r33 S39 H locs h40 hW => ?_)
            replace hw := h40
            have hkn : (k + k34) + (mc - k34) ≤ MC ∧ (n + n35) + (ms - n35) ≤ MS := by omega
            exact hret r33 S39 _ _ _ _ (by omega) (by omega) hw rfl dX9_tokenizeSlots_75 _ _ _ hW hl
          · subst c23
            replace hw := hw.1 rfl
            refine lv_aload_n hx hb dX9_tokenizeSlots_53 rfl (lv_at hl 2 rfl) ?_
            obtain ⟨h26, hw⟩ := hw
            refine h_goi C0 hW (va_runV (As := []) (rest := []) ⟨hx, hb, hml, ho, hts⟩ (k_X9_refuseNull (l := l) (u := u) (X := X) (sz := H.size) _ t0  S  hw) (cwV 0 hts gX9_tokenizeSlots_X9_refuseNull rfl rfl rfl (by decide +kernel) ⟨Nat.le_of_ble_eq_true rfl, Nat.le_of_ble_eq_true rfl⟩) ⟨h_blind, (h_recv C0 hW (ci := 10) rfl h26), (h_pre C0 hW [.ref t0])⟩ rfl rfl hl.1 rfl (lv_room (Nat.le_of_ble_eq_true rfl)) dX9_tokenizeSlots_54 ⟨by show _ ≤ MC; omega, by show _ ≤ MS; omega⟩) (fun r25 S27 H locs h28 hW => ?_)
            replace hw := h28
            exact hret r25 S27 _ _ _ _ (by omega) (by omega) hw rfl dX9_tokenizeSlots_57 _ _ _ hW hl
        · subst c19
          replace hw := hw.1 rfl
          refine lv_bipush (v := (-2)) hx hb dX9_tokenizeSlots_42 (by decide) ?_
          exact hret (-2) S _ _ _ _ (by omega) (by omega) hw rfl dX9_tokenizeSlots_44 _ _ _ hW hl
      · subst c15
        replace hw := hw.1 rfl
        refine lv_iconst (v := (-1)) hx hb dX9_tokenizeSlots_32 (by decide) ?_
        exact hret (-1) S _ _ _ _ (by omega) (by omega) hw rfl dX9_tokenizeSlots_33 _ _ _ hW hl
set_option maxHeartbeats 4000000 in
set_option maxRecDepth 100000 in
theorem k_X9_tokenizeSlots {l : Launch} {D : va_G} {u : hU} {X : va_W} {sz : Nat} (post : Int32 → hS → Prop) (t0 : Nat) (z1 : Int32) (z2 : Int32) (z3 : Int32) (z4 : Int32) (S : hS) (mc ms : Nat) (hw : w_X9_tokenizeSlots u post t0 z1 z2 z3 z4 S mc ms) : hMi l yX9_tokenizeSlots wsX9_tokenizeSlots (rm_X9_tokenizeSlots mc ms) D (gt u.2.1) u.1 u.2.2 sz X S [.ref t0, .int z1, .int z2, .int z3, .int z4] post mc ms := by
  refine hMi_of (cc := cX9_tokenizeSlots) (nL := 7) (ty := .int) (own := RX9) (by decide) rfl rfl (Nat.le_of_ble_eq_true rfl) ?_
  intro p e s m args below meth c A Q C0 hin hret
  exact t_X9_tokenizeSlots_0 C0 t0 post hret z1 z2 z3 z4 S mc ms 0 0 ⟨by omega, by omega⟩ hw
abbrev rm_X9_tokenizeBy (MC MS : Nat) : Room := { frames := 9, cells := MC, slots := MS, locals := 207 }
set_option maxHeartbeats 4000000 in
set_option maxRecDepth 100000 in
theorem t_X9_tokenizeBy_0 (C0 : hX p s m args c cX9_tokenizeBy 4 RX9 wsX9_tokenizeBy D (gt u.2.1) A u.1 u.2.2) (t0 : Nat) (post : Int32 → hS → Prop) (hret : ∀ (r : Int32) (S' : hS) (pc : Nat) (lv : List (Nat × Value)) (k n : Nat), k ≤ MC → n ≤ MS → post r S' → narrow .int (.int r) = .int r → decode cX9_tokenizeBy pc = .ok (.ireturn, 1) → gG p l e (rm_X9_tokenizeBy MC MS) s m args below meth c Q D A 4 k n (hC X S') pc lv [.int r])  : ∀ (z1 : Int32) (z2 : Int32) (z3 : Int32) (S : hS) (mc ms k n : Nat), k + mc ≤ MC ∧ n + ms ≤ MS → w_X9_tokenizeBy u post t0  z1 z2 z3 S mc ms → gG p l e (rm_X9_tokenizeBy MC MS) s m args below meth c Q D A 4 k n (hC X S) 0 [(0, .ref t0), (1, .int z1), (2, .int z2), (3, .int z3)] [] := by
  obtain ⟨⟨hx, hb, hml, ho, hts, hK, hA⟩, hR⟩ := id C0
  intro z1 z2 z3 S mc ms k n hkn hw H locs ls hW hl
  rw [w_X9_tokenizeBy] at hw
  refine lv_aload_n hx hb dX9_tokenizeBy_0 rfl (lv_at hl 0 rfl) ?_
  refine lv_iload_n hx hb dX9_tokenizeBy_1 rfl (lv_at hl 1 rfl) ?_
  refine lv_iload_n hx hb dX9_tokenizeBy_2 rfl (lv_at hl 2 rfl) ?_
  refine lv_iload_n hx hb dX9_tokenizeBy_3 rfl (lv_at hl 3 rfl) ?_
  refine lv_iconst (v := 0) hx hb dX9_tokenizeBy_4 (by decide) ?_
  obtain ⟨h6, k2, n3, h4, h5, hw⟩ := hw
  refine h_goi C0 hW (va_runV (As := [.int z1, .int z2, .int z3, .int 0]) (rest := []) ⟨hx, hb, hml, ho, hts⟩ (k_X9_tokenizeSlots (l := l) (u := u) (X := X) (sz := H.size) _ t0 z1 z2 z3 0 S k2 n3 hw) (cwV 4 hts gX9_tokenizeBy_X9_tokenizeSlots rfl rfl rfl (by decide +kernel) ⟨Nat.le_of_ble_eq_true rfl, Nat.le_of_ble_eq_true rfl⟩) ⟨h_blind, (h_recv C0 hW (ci := 10) rfl h6), (h_pre C0 hW [.ref t0, .int z1, .int z2, .int z3, .int 0])⟩ rfl rfl hl.1 rfl (lv_room (Nat.le_of_ble_eq_true rfl)) dX9_tokenizeBy_5 ⟨by show _ ≤ MC; omega, by show _ ≤ MS; omega⟩) (fun r1 S7 H locs h8 hW => ?_)
  replace hw := h8
  have hkn : (k + k2) + (mc - k2) ≤ MC ∧ (n + n3) + (ms - n3) ≤ MS := by omega
  exact hret r1 S7 _ _ _ _ (by omega) (by omega) hw rfl dX9_tokenizeBy_8 _ _ _ hW hl
set_option maxHeartbeats 4000000 in
set_option maxRecDepth 100000 in
theorem k_X9_tokenizeBy {l : Launch} {D : va_G} {u : hU} {X : va_W} {sz : Nat} (post : Int32 → hS → Prop) (t0 : Nat) (z1 : Int32) (z2 : Int32) (z3 : Int32) (S : hS) (mc ms : Nat) (hw : w_X9_tokenizeBy u post t0 z1 z2 z3 S mc ms) : hMi l yX9_tokenizeBy wsX9_tokenizeBy (rm_X9_tokenizeBy mc ms) D (gt u.2.1) u.1 u.2.2 sz X S [.ref t0, .int z1, .int z2, .int z3] post mc ms := by
  refine hMi_of (cc := cX9_tokenizeBy) (nL := 4) (ty := .int) (own := RX9) (by decide) rfl rfl (Nat.le_of_ble_eq_true rfl) ?_
  intro p e s m args below meth c A Q C0 hin hret
  exact t_X9_tokenizeBy_0 C0 t0 post hret z1 z2 z3 S mc ms 0 0 ⟨by omega, by omega⟩ hw
abbrev rm_X9_tokenizeAll (MC MS : Nat) : Room := { frames := 9, cells := MC, slots := MS, locals := 207 }
set_option maxHeartbeats 4000000 in
set_option maxRecDepth 100000 in
theorem t_X9_tokenizeAll_0 (C0 : hX p s m args c cX9_tokenizeAll 4 RX9 wsX9_tokenizeAll D (gt u.2.1) A u.1 u.2.2) (t0 : Nat) (post : Int32 → hS → Prop) (hret : ∀ (r : Int32) (S' : hS) (pc : Nat) (lv : List (Nat × Value)) (k n : Nat), k ≤ MC → n ≤ MS → post r S' → narrow .int (.int r) = .int r → decode cX9_tokenizeAll pc = .ok (.ireturn, 1) → gG p l e (rm_X9_tokenizeAll MC MS) s m args below meth c Q D A 4 k n (hC X S') pc lv [.int r])  : ∀ (z1 : Int32) (z2 : Int32) (z3 : Int32) (S : hS) (mc ms k n : Nat), k + mc ≤ MC ∧ n + ms ≤ MS → w_X9_tokenizeAll u post t0  z1 z2 z3 S mc ms → gG p l e (rm_X9_tokenizeAll MC MS) s m args below meth c Q D A 4 k n (hC X S) 0 [(0, .ref t0), (1, .int z1), (2, .int z2), (3, .int z3)] [] := by
  obtain ⟨⟨hx, hb, hml, ho, hts, hK, hA⟩, hR⟩ := id C0
  intro z1 z2 z3 S mc ms k n hkn hw H locs ls hW hl
  rw [w_X9_tokenizeAll] at hw
  refine lv_aload_n hx hb dX9_tokenizeAll_0 rfl (lv_at hl 0 rfl) ?_
  refine lv_iload_n hx hb dX9_tokenizeAll_1 rfl (lv_at hl 1 rfl) ?_
  refine lv_iload_n hx hb dX9_tokenizeAll_2 rfl (lv_at hl 2 rfl) ?_
  refine lv_iload_n hx hb dX9_tokenizeAll_3 rfl (lv_at hl 3 rfl) ?_
  refine lv_iconst (v := 1) hx hb dX9_tokenizeAll_4 (by decide) ?_
  obtain ⟨h6, k2, n3, h4, h5, hw⟩ := hw
  refine h_goi C0 hW (va_runV (As := [.int z1, .int z2, .int z3, .int 1]) (rest := []) ⟨hx, hb, hml, ho, hts⟩ (k_X9_tokenizeSlots (l := l) (u := u) (X := X) (sz := H.size) _ t0 z1 z2 z3 1 S k2 n3 hw) (cwV 4 hts gX9_tokenizeAll_X9_tokenizeSlots rfl rfl rfl (by decide +kernel) ⟨Nat.le_of_ble_eq_true rfl, Nat.le_of_ble_eq_true rfl⟩) ⟨h_blind, (h_recv C0 hW (ci := 10) rfl h6), (h_pre C0 hW [.ref t0, .int z1, .int z2, .int z3, .int 1])⟩ rfl rfl hl.1 rfl (lv_room (Nat.le_of_ble_eq_true rfl)) dX9_tokenizeAll_5 ⟨by show _ ≤ MC; omega, by show _ ≤ MS; omega⟩) (fun r1 S7 H locs h8 hW => ?_)
  replace hw := h8
  have hkn : (k + k2) + (mc - k2) ≤ MC ∧ (n + n3) + (ms - n3) ≤ MS := by omega
  exact hret r1 S7 _ _ _ _ (by omega) (by omega) hw rfl dX9_tokenizeAll_8 _ _ _ hW hl
set_option maxHeartbeats 4000000 in
set_option maxRecDepth 100000 in
theorem k_X9_tokenizeAll {l : Launch} {D : va_G} {u : hU} {X : va_W} {sz : Nat} (post : Int32 → hS → Prop) (t0 : Nat) (z1 : Int32) (z2 : Int32) (z3 : Int32) (S : hS) (mc ms : Nat) (hw : w_X9_tokenizeAll u post t0 z1 z2 z3 S mc ms) : hMi l yX9_tokenizeAll wsX9_tokenizeAll (rm_X9_tokenizeAll mc ms) D (gt u.2.1) u.1 u.2.2 sz X S [.ref t0, .int z1, .int z2, .int z3] post mc ms := by
  refine hMi_of (cc := cX9_tokenizeAll) (nL := 4) (ty := .int) (own := RX9) (by decide) rfl rfl (Nat.le_of_ble_eq_true rfl) ?_
  intro p e s m args below meth c A Q C0 hin hret
  exact t_X9_tokenizeAll_0 C0 t0 post hret z1 z2 z3 S mc ms 0 0 ⟨by omega, by omega⟩ hw
abbrev rm_X9_tokenizeValue (MC MS : Nat) : Room := { frames := 9, cells := MC, slots := MS, locals := 201 }
theorem in_X9_tokenizeValue_RX6 : ∀ w ∈ wsX60, w ∈ wsX9_tokenizeValue := fun w hw9 => List.mem_cons_of_mem _ (List.mem_append_left _ (List.mem_append_left _ (List.mem_append_left _ (List.mem_append_left _ (List.mem_append_left _ (List.mem_append_right _ hw9))))))
theorem in_X9_tokenizeValue_RX9 : ∀ w ∈ wsX90, w ∈ wsX9_tokenizeValue := fun w hw9 => List.mem_cons_of_mem _ (List.mem_append_left _ (List.mem_append_left _ (List.mem_append_left _ (List.mem_append_left _ (List.mem_append_left _ (List.mem_append_left _ (List.mem_append_right _ hw9)))))))
set_option maxHeartbeats 4000000 in
set_option maxRecDepth 100000 in
theorem t_X9_tokenizeValue_0 (C0 : hX p s m args c cX9_tokenizeValue 8 RX9 wsX9_tokenizeValue D (gt u.2.1) A u.1 u.2.2) (t0 : Nat) (post : Int32 → hS → Prop) (hret : ∀ (r : Int32) (S' : hS) (pc : Nat) (lv : List (Nat × Value)) (k n : Nat), k ≤ MC → n ≤ MS → post r S' → narrow .int (.int r) = .int r → decode cX9_tokenizeValue pc = .ok (.ireturn, 1) → gG p l e (rm_X9_tokenizeValue MC MS) s m args below meth c Q D A 8 k n (hC X S') pc lv [.int r])  : ∀ (z1 : Int32) (z2 : Int32) (z3 : Int32) (z4 : Int32) (S : hS) (mc ms k n : Nat), k + mc ≤ MC ∧ n + ms ≤ MS → w_X9_tokenizeValue u post t0  z1 z2 z3 z4 S mc ms → gG p l e (rm_X9_tokenizeValue MC MS) s m args below meth c Q D A 8 k n (hC X S) 0 [(0, .ref t0), (1, .int z1), (2, .int z2), (3, .int z3), (4, .int z4)] [] := by
  obtain ⟨⟨hx, hb, hml, ho, hts, hK, hA⟩, hR⟩ := id C0
  intro z1 z2 z3 z4 S mc ms k n hkn hw H locs ls hW hl
  rw [w_X9_tokenizeValue] at hw
  refine lv_aload_n hx hb dX9_tokenizeValue_0 rfl (lv_at hl 0 rfl) ?_
  refine lv_iload_n hx hb dX9_tokenizeValue_1 rfl (lv_at hl 3 rfl) ?_
  obtain ⟨h2, hw⟩ := hw
  refine h_goq C0 hW (va_runV (As := [.int z3]) (rest := []) ⟨hx, hb, hml, ho, hts⟩ (k_X9_slotAt (l := l) (u := u) (X := X) (sz := H.size) _ t0 z3 S  hw) (cwV 1 hts gX9_tokenizeValue_X9_slotAt rfl rfl rfl (by decide +kernel) ⟨Nat.le_of_ble_eq_true rfl, Nat.le_of_ble_eq_true rfl⟩) ⟨h_blind, (h_recv C0 hW (ci := 10) rfl h2), (h_pre C0 hW [.ref t0, .int z3])⟩ rfl rfl hl.1 rfl (lv_room (Nat.le_of_ble_eq_true rfl)) dX9_tokenizeValue_2 ⟨by show _ ≤ MC; omega, by show _ ≤ MS; omega⟩) (fun r1 S3 H locs h4 hW => ?_)
  obtain ⟨h5, hp⟩ := h4
  rw [h5] at hW
  replace hw := hp
  refine lv_astoreV (i := 5) (lv' := [(5, va_rf r1), (0, .ref t0), (1, .int z1), (2, .int z2), (3, .int z3), (4, .int z4)]) hx hb dX9_tokenizeValue_5 hl (by decide) rfl (fun ls hl9 => ?_)
  replace hl := hl9
  refine lv_aload_n hx hb dX9_tokenizeValue_7 rfl (lv_at hl 1 rfl) ?_
  refine lv_iload hx hb dX9_tokenizeValue_8 (lv_at hl 5 rfl) ?_
  obtain ⟨h7, hw⟩ := hw
  refine h_goq C0 hW (va_runV (As := [.int z4]) (rest := []) ⟨hx, hb, hml, ho, hts⟩ (k_X9_slotAt (l := l) (u := u) (X := X) (sz := H.size) _ t0 z4 S  hw) (cwV 1 hts gX9_tokenizeValue_X9_slotAt rfl rfl rfl (by decide +kernel) ⟨Nat.le_of_ble_eq_true rfl, Nat.le_of_ble_eq_true rfl⟩) ⟨h_blind, (h_recv C0 hW (ci := 10) rfl h7), (h_pre C0 hW [.ref t0, .int z4])⟩ rfl rfl hl.1 rfl (lv_room (Nat.le_of_ble_eq_true rfl)) dX9_tokenizeValue_10 ⟨by show _ ≤ MC; omega, by show _ ≤ MS; omega⟩) (fun r6 S8 H locs h9 hW => ?_)
  obtain ⟨h10, hp⟩ := h9
  rw [h10] at hW
  replace hw := hp
  refine lv_astoreV (i := 6) (lv' := [(6, va_rf r6), (5, va_rf r1), (0, .ref t0), (1, .int z1), (2, .int z2), (3, .int z3), (4, .int z4)]) hx hb dX9_tokenizeValue_13 hl (by decide) (by show (6, va_rf r6) :: List.filter (fun q : Nat × Value => !(q.1 == 6) && !(q.1 + 1 == 6 && q.2.category == 2)) [(5, va_rf r1), (0, .ref t0), (1, .int z1), (2, .int z2), (3, .int z3), (4, .int z4)] = [(6, va_rf r6), (5, va_rf r1), (0, .ref t0), (1, .int z1), (2, .int z2), (3, .int z3), (4, .int z4)]; simp [va_rf_cat, va_c_ref, va_c_int, va_c_null]) (fun ls hl9 => ?_)
  replace hl := hl9
  refine lv_iload_n hx hb dX9_tokenizeValue_15 rfl (lv_at hl 3 rfl) ?_
  refine lv_iconst (v := 2) hx hb dX9_tokenizeValue_16 (by decide) ?_
  refine g_calls (As := [.int z1, .int 2]) (rest := []) ⟨hx, hb, hml, ho, hts⟩ hl.1 (k_X9_isWithin (l := l) _ z1 2 hw) (va_cwS 2 hts gX9_tokenizeValue_X9_isWithin rfl rfl rfl (by decide +kernel) ⟨Nat.le_of_ble_eq_true rfl, Nat.le_of_ble_eq_true rfl⟩) (Nat.le_of_ble_eq_true rfl) dX9_tokenizeValue_17 rfl ⟨by show _ ≤ MC; omega, by show _ ≤ MS; omega⟩ (fun r11 hp => ?_)
  replace hw := hp
  refine lv_if_eq (tgt := 34) hx hb dX9_tokenizeValue_20 (by decide) (fun c12 => ?_) (fun c12 => ?_)
  · replace hw := hw.1 c12
    refine lv_iconst (v := (-1)) hx hb dX9_tokenizeValue_34 (by decide) ?_
    exact hret (-1) S _ _ _ _ (by omega) (by omega) hw rfl dX9_tokenizeValue_35 _ _ _ hW hl
  · replace hw := hw.2 c12
    refine lv_aload_n hx hb dX9_tokenizeValue_23 rfl (lv_at hl 2 rfl) ?_
    obtain ⟨o13, h14, hw⟩ := hw
    refine h_getR C0 hW (T := TX9) (kf := 2) in_X9_tokenizeValue_RX9 h14 rfl (by decide) (List.mem_of_getElem? (i := 1) rfl) rfl dX9_tokenizeValue_24 ?_
    refine lv_iload_n hx hb dX9_tokenizeValue_27 rfl (lv_at hl 4 rfl) ?_
    obtain ⟨a15, rfl, hw⟩ := hw
    obtain ⟨h17, hw⟩ := hw
    refine h_goq C0 hW (va_runV (As := [.int z2]) (rest := []) ⟨hx, hb, hml, ho, hts⟩ (k_X4_layerAt (l := l) (u := u) (X := X) (sz := H.size) _ a15 z2 S  hw) (cwV 1 hts gX9_tokenizeValue_X4_layerAt rfl rfl rfl (by decide +kernel) ⟨Nat.le_of_ble_eq_true rfl, Nat.le_of_ble_eq_true rfl⟩) ⟨h_blind, (h_recv C0 hW (ci := 5) rfl h17), (h_pre C0 hW [.ref a15, .int z2])⟩ rfl rfl hl.1 rfl (lv_room (Nat.le_of_ble_eq_true rfl)) dX9_tokenizeValue_28 ⟨by show _ ≤ MC; omega, by show _ ≤ MS; omega⟩) (fun r16 S18 H locs h19 hW => ?_)
    obtain ⟨h20, hp⟩ := h19
    rw [h20] at hW
    replace hw := hp
    refine lv_ifnonnullV (tgt := 36) hx hb dX9_tokenizeValue_31 (by decide) (fun a22 c21 => ?_) (fun c21 => ?_)
    · subst c21
      replace hw := hw.2 a22 rfl
      refine lv_aloadV hx hb dX9_tokenizeValue_36 (lv_at hl 1 rfl) ?_
      refine lv_ifnullV (tgt := 46) hx hb dX9_tokenizeValue_38 (by decide) (fun c23 => ?_) (fun a24 c23 => ?_)
      · subst c23
        replace hw := hw.1 rfl
        refine lv_iconst (v := (-1)) hx hb dX9_tokenizeValue_46 (by decide) ?_
        exact hret (-1) S _ _ _ _ (by omega) (by omega) hw rfl dX9_tokenizeValue_47 _ _ _ hW hl
      · subst c23
        replace hw := hw.2 a24 rfl
        refine lv_aloadV hx hb dX9_tokenizeValue_41 (lv_at hl 0 rfl) ?_
        refine lv_ifnonnullV (tgt := 48) hx hb dX9_tokenizeValue_43 (by decide) (fun a26 c25 => ?_) (fun c25 => ?_)
        · subst c25
          replace hw := hw.2 a26 rfl
          refine lv_aload hx hb dX9_tokenizeValue_48 (lv_at hl 0 rfl) ?_
          obtain ⟨o27, h28, hw⟩ := hw
          refine h_getRN C0 hW (host := RX9) (T := TX6) (kf := 0) in_X9_tokenizeValue_RX6 h28 rfl (by decide) (by decide +kernel) rfl dX9_tokenizeValue_50 ?_
          refine lv_ifnonnullV (tgt := 59) hx hb dX9_tokenizeValue_53 (by decide) (fun a30 c29 => ?_) (fun c29 => ?_)
          · subst c29
            replace hw := hw.2 a30 rfl
            refine lv_aload hx hb dX9_tokenizeValue_59 (lv_at hl 1 rfl) ?_
            obtain ⟨o31, h32, hw⟩ := hw
            refine h_getRN C0 hW (host := RX9) (T := TX6) (kf := 0) in_X9_tokenizeValue_RX6 h32 rfl (by decide) (by decide +kernel) rfl dX9_tokenizeValue_61 ?_
            refine lv_ifnonnullV (tgt := 72) hx hb dX9_tokenizeValue_64 (by decide) (fun a34 c33 => ?_) (fun c33 => ?_)
            · subst c33
              replace hw := hw.2 a34 rfl
              refine lv_aload_n hx hb dX9_tokenizeValue_72 rfl (lv_at hl 2 rfl) ?_
              obtain ⟨o39, h40, hw⟩ := hw
              refine h_getR C0 hW (T := TX9) (kf := 2) in_X9_tokenizeValue_RX9 h40 rfl (by decide) (List.mem_of_getElem? (i := 1) rfl) rfl dX9_tokenizeValue_73 ?_
              refine lv_iload_n hx hb dX9_tokenizeValue_76 rfl (lv_at hl 4 rfl) ?_
              refine lv_aload hx hb dX9_tokenizeValue_77 (lv_at hl 1 rfl) ?_
              obtain ⟨o41, h42, hw⟩ := hw
              refine h_getRN C0 hW (host := RX9) (T := TX6) (kf := 0) in_X9_tokenizeValue_RX6 h42 rfl (by decide) (by decide +kernel) rfl dX9_tokenizeValue_79 ?_
              obtain ⟨a43, rfl, hw⟩ := hw
              obtain ⟨h45, hw⟩ := hw
              refine h_goq C0 hW (va_runV (As := [.int z2, va_rf o41]) (rest := []) ⟨hx, hb, hml, ho, hts⟩ (k_X4_lookUp (l := l) (u := u) (X := X) (sz := H.size) _ a43 z2 o41 S  hw) (cwV 2 hts gX9_tokenizeValue_X4_lookUp rfl rfl rfl (by decide +kernel) ⟨Nat.le_of_ble_eq_true rfl, Nat.le_of_ble_eq_true rfl⟩) ⟨h_blind, (h_recv C0 hW (ci := 5) rfl h45), (h_pre C0 hW [.ref a43, .int z2, va_rf o41])⟩ rfl rfl hl.1 rfl (lv_room (Nat.le_of_ble_eq_true rfl)) dX9_tokenizeValue_82 ⟨by show _ ≤ MC; omega, by show _ ≤ MS; omega⟩) (fun r44 S46 H locs h47 hW => ?_)
              obtain ⟨h48, hp⟩ := h47
              rw [h48] at hW
              replace hw := hp
              refine lv_astoreV (i := 7) (lv' := [(7, va_rf r44), (6, .ref a26), (5, .ref a24), (0, .ref t0), (1, .int z1), (2, .int z2), (3, .int z3), (4, .int z4)]) hx hb dX9_tokenizeValue_85 hl (by decide) rfl (fun ls hl9 => ?_)
              replace hl := hl9
              refine lv_aloadV hx hb dX9_tokenizeValue_87 (lv_at hl 0 rfl) ?_
              refine lv_ifnonnullV (tgt := 95) hx hb dX9_tokenizeValue_89 (by decide) (fun a50 c49 => ?_) (fun c49 => ?_)
              · subst c49
                replace hw := hw.2 a50 rfl
                refine lv_aload_n hx hb dX9_tokenizeValue_95 rfl (lv_at hl 3 rfl) ?_
                refine lv_iload_n hx hb dX9_tokenizeValue_96 rfl (lv_at hl 4 rfl) ?_
                refine lv_aload hx hb dX9_tokenizeValue_97 (lv_at hl 0 rfl) ?_
                refine lv_aload hx hb dX9_tokenizeValue_99 (lv_at hl 1 rfl) ?_
                obtain ⟨o51, h52, hw⟩ := hw
                refine h_getRN C0 hW (host := RX9) (T := TX6) (kf := 0) in_X9_tokenizeValue_RX6 h52 rfl (by decide) (by decide +kernel) rfl dX9_tokenizeValue_101 ?_
                refine lv_iconst (v := 0) hx hb dX9_tokenizeValue_104 (by decide) ?_
                obtain ⟨h58, k54, n55, h56, h57, hw⟩ := hw
                refine h_goi C0 hW (va_runV (As := [.int z1, .ref a50, va_rf o51, .int 0]) (rest := []) ⟨hx, hb, hml, ho, hts⟩ (k_X9_makeTokenizer (l := l) (u := u) (X := X) (sz := H.size) _ t0 z1 (some a50) o51 0 S k54 n55 hw) (cwV 4 hts gX9_tokenizeValue_X9_makeTokenizer rfl rfl rfl (by decide +kernel) ⟨Nat.le_of_ble_eq_true rfl, Nat.le_of_ble_eq_true rfl⟩) ⟨h_blind, (h_recv C0 hW (ci := 10) rfl h58), (h_pre C0 hW [.ref t0, .int z1, .ref a50, va_rf o51, .int 0])⟩ rfl rfl hl.1 rfl (lv_room (Nat.le_of_ble_eq_true rfl)) dX9_tokenizeValue_105 ⟨by show _ ≤ MC; omega, by show _ ≤ MS; omega⟩) (fun r53 S59 H locs h60 hW => ?_)
                replace hw := h60
                have hkn : (k + k54) + (mc - k54) ≤ MC ∧ (n + n55) + (ms - n55) ≤ MS := by omega
                exact hret r53 S59 _ _ _ _ (by omega) (by omega) hw rfl dX9_tokenizeValue_108 _ _ _ hW hl
              · subst c49
                replace hw := hw.1 rfl
                refine lv_bipush (v := (-5)) hx hb dX9_tokenizeValue_92 (by decide) ?_
                exact hret (-5) S _ _ _ _ (by omega) (by omega) hw rfl dX9_tokenizeValue_94 _ _ _ hW hl
            · subst c33
              replace hw := hw.1 rfl
              refine lv_aload_n hx hb dX9_tokenizeValue_67 rfl (lv_at hl 2 rfl) ?_
              obtain ⟨h36, hw⟩ := hw
              refine h_goi C0 hW (va_runV (As := []) (rest := []) ⟨hx, hb, hml, ho, hts⟩ (k_X9_refuseNull (l := l) (u := u) (X := X) (sz := H.size) _ t0  S  hw) (cwV 0 hts gX9_tokenizeValue_X9_refuseNull rfl rfl rfl (by decide +kernel) ⟨Nat.le_of_ble_eq_true rfl, Nat.le_of_ble_eq_true rfl⟩) ⟨h_blind, (h_recv C0 hW (ci := 10) rfl h36), (h_pre C0 hW [.ref t0])⟩ rfl rfl hl.1 rfl (lv_room (Nat.le_of_ble_eq_true rfl)) dX9_tokenizeValue_68 ⟨by show _ ≤ MC; omega, by show _ ≤ MS; omega⟩) (fun r35 S37 H locs h38 hW => ?_)
              replace hw := h38
              exact hret r35 S37 _ _ _ _ (by omega) (by omega) hw rfl dX9_tokenizeValue_71 _ _ _ hW hl
          · subst c29
            replace hw := hw.1 rfl
            refine lv_bipush (v := (-2)) hx hb dX9_tokenizeValue_56 (by decide) ?_
            exact hret (-2) S _ _ _ _ (by omega) (by omega) hw rfl dX9_tokenizeValue_58 _ _ _ hW hl
        · subst c25
          replace hw := hw.1 rfl
          refine lv_iconst (v := (-1)) hx hb dX9_tokenizeValue_46 (by decide) ?_
          exact hret (-1) S _ _ _ _ (by omega) (by omega) hw rfl dX9_tokenizeValue_47 _ _ _ hW hl
    · subst c21
      replace hw := hw.1 rfl
      refine lv_iconst (v := (-1)) hx hb dX9_tokenizeValue_34 (by decide) ?_
      exact hret (-1) S _ _ _ _ (by omega) (by omega) hw rfl dX9_tokenizeValue_35 _ _ _ hW hl
set_option maxHeartbeats 4000000 in
set_option maxRecDepth 100000 in
theorem k_X9_tokenizeValue {l : Launch} {D : va_G} {u : hU} {X : va_W} {sz : Nat} (post : Int32 → hS → Prop) (t0 : Nat) (z1 : Int32) (z2 : Int32) (z3 : Int32) (z4 : Int32) (S : hS) (mc ms : Nat) (hw : w_X9_tokenizeValue u post t0 z1 z2 z3 z4 S mc ms) : hMi l yX9_tokenizeValue wsX9_tokenizeValue (rm_X9_tokenizeValue mc ms) D (gt u.2.1) u.1 u.2.2 sz X S [.ref t0, .int z1, .int z2, .int z3, .int z4] post mc ms := by
  refine hMi_of (cc := cX9_tokenizeValue) (nL := 8) (ty := .int) (own := RX9) (by decide) rfl rfl (Nat.le_of_ble_eq_true rfl) ?_
  intro p e s m args below meth c A Q C0 hin hret
  exact t_X9_tokenizeValue_0 C0 t0 post hret z1 z2 z3 z4 S mc ms 0 0 ⟨by omega, by omega⟩ hw
abbrev rm_X9_more : Room := { frames := 7, cells := 0, slots := 0, locals := 154 }
theorem in_X9_more_RX9 : ∀ w ∈ wsX90, w ∈ wsX9_more := fun w hw9 => List.mem_cons_of_mem _ (List.mem_append_left _ (List.mem_append_left _ (List.mem_append_right _ hw9)))
set_option maxHeartbeats 4000000 in
set_option maxRecDepth 100000 in
theorem t_X9_more_0 (C0 : hX p s m args c cX9_more 3 RX9 wsX9_more D (gt u.2.1) A u.1 u.2.2) {S : hS} (t0 : Nat) (post : Int32 → Prop) (hret : ∀ (r : Int32) (S' : hS) (pc : Nat) (lv : List (Nat × Value)) (k n : Nat), k ≤ 0 → n ≤ 0 → (S' = S ∧ post r) → narrow .int (.int r) = .int r → decode cX9_more pc = .ok (.ireturn, 1) → gG p l e (rm_X9_more) s m args below meth c Q D A 3 k n (hC X S') pc lv [.int r])  : ∀ (z1 : Int32), w_X9_more u post t0  z1 S → gG p l e (rm_X9_more) s m args below meth c Q D A 3 0 0 (hC X S) 0 [(0, .ref t0), (1, .int z1)] [] := by
  obtain ⟨⟨hx, hb, hml, ho, hts, hK, hA⟩, hR⟩ := id C0
  intro z1 hw H locs ls hW hl
  rw [w_X9_more] at hw
  refine lv_iload_n hx hb dX9_more_0 rfl (lv_at hl 1 rfl) ?_
  refine lv_iconst (v := 2) hx hb dX9_more_1 (by decide) ?_
  refine g_calls (As := [.int z1, .int 2]) (rest := []) ⟨hx, hb, hml, ho, hts⟩ hl.1 (k_X9_isWithin (l := l) _ z1 2 hw) (va_cwS 2 hts gX9_more_X9_isWithin rfl rfl rfl (by decide +kernel) ⟨Nat.le_of_ble_eq_true rfl, Nat.le_of_ble_eq_true rfl⟩) (Nat.le_of_ble_eq_true rfl) dX9_more_2 rfl ⟨Nat.le_refl _, Nat.le_refl _⟩ (fun r1 hp => ?_)
  replace hw := hp
  refine lv_if_ne (tgt := 10) hx hb dX9_more_5 (by decide) (fun c2 => ?_) (fun c2 => ?_)
  · replace hw := hw.1 c2
    refine lv_aload_n hx hb dX9_more_10 rfl (lv_at hl 0 rfl) ?_
    obtain ⟨o3, h4, hw⟩ := hw
    refine h_getR C0 hW (T := TX9) (kf := 5) in_X9_more_RX9 h4 rfl (by decide) (List.mem_of_getElem? (i := 1) rfl) rfl dX9_more_11 ?_
    refine lv_iload_n hx hb dX9_more_14 rfl (lv_at hl 1 rfl) ?_
    obtain ⟨a5, rfl, hw⟩ := hw
    obtain ⟨N6, g7, h8, h9, hw⟩ := hw
    refine h_qald C0 hW 6 h8 rfl h9 dX9_more_15 (fun o10 eo10 => ?_)
    replace hw := hw o10 eo10
    refine lv_astoreV_n (i := 2) (lv' := [(2, va_rf o10), (0, .ref t0), (1, .int z1)]) hx hb dX9_more_16 rfl hl (by decide) rfl (fun ls hl9 => ?_)
    replace hl := hl9
    refine lv_aloadV_n hx hb dX9_more_17 rfl (lv_at hl 0 rfl) ?_
    refine lv_ifnonnullV (tgt := 24) hx hb dX9_more_18 (by decide) (fun a12 c11 => ?_) (fun c11 => ?_)
    · subst c11
      replace hw := hw.2 a12 rfl
      refine lv_aload_n hx hb dX9_more_24 rfl (lv_at hl 0 rfl) ?_
      obtain ⟨h14, hw⟩ := hw
      refine h_goi C0 hW (va_runV (As := []) (rest := []) ⟨hx, hb, hml, ho, hts⟩ (k_X8_hasToken (l := l) (u := u) (X := X) (sz := H.size) _ a12  S  hw) (cwV 0 hts gX9_more_X8_hasToken rfl rfl rfl (by decide +kernel) ⟨Nat.le_of_ble_eq_true rfl, Nat.le_of_ble_eq_true rfl⟩) ⟨h_blind, (h_recv C0 hW (ci := 9) rfl h14), (h_pre C0 hW [.ref a12])⟩ rfl rfl hl.1 rfl (lv_room (Nat.le_of_ble_eq_true rfl)) dX9_more_25 ⟨Nat.le_refl _, Nat.le_refl _⟩) (fun r13 S15 H locs h16 hW => ?_)
      obtain ⟨h17, hp⟩ := h16
      rw [h17] at hW
      replace hw := hp
      refine lv_if_eq (tgt := 35) hx hb dX9_more_28 (by decide) (fun c18 => ?_) (fun c18 => ?_)
      · replace hw := hw.1 c18
        refine lv_iconst (v := 0) hx hb dX9_more_35 (by decide) ?_
        exact hret 0 S _ _ 0 0 (Nat.le_refl _) (Nat.le_refl _) ⟨rfl, hw⟩ rfl dX9_more_36 _ _ _ hW hl
      · replace hw := hw.2 c18
        refine lv_iconst (v := 1) hx hb dX9_more_31 (by decide) ?_
        refine lv_goto (tgt := 36) hx hb dX9_more_32 (by decide) ?_
        exact hret 1 S _ _ 0 0 (Nat.le_refl _) (Nat.le_refl _) ⟨rfl, hw⟩ rfl dX9_more_36 _ _ _ hW hl
    · subst c11
      replace hw := hw.1 rfl
      refine lv_bipush (v := (-4)) hx hb dX9_more_21 (by decide) ?_
      exact hret (-4) S _ _ 0 0 (Nat.le_refl _) (Nat.le_refl _) ⟨rfl, hw⟩ rfl dX9_more_23 _ _ _ hW hl
  · replace hw := hw.2 c2
    refine lv_iconst (v := (-1)) hx hb dX9_more_8 (by decide) ?_
    exact hret (-1) S _ _ 0 0 (Nat.le_refl _) (Nat.le_refl _) ⟨rfl, hw⟩ rfl dX9_more_9 _ _ _ hW hl
set_option maxHeartbeats 4000000 in
set_option maxRecDepth 100000 in
theorem k_X9_more {l : Launch} {D : va_G} {u : hU} {X : va_W} {sz : Nat} (post : Int32 → Prop) (t0 : Nat) (z1 : Int32) (S : hS) (hw : w_X9_more u post t0 z1 S) : hMi l yX9_more wsX9_more rm_X9_more D (gt u.2.1) u.1 u.2.2 sz X S [.ref t0, .int z1] (fun r S' => S' = S ∧ post r) 0 0 := by
  refine hMi_of (cc := cX9_more) (nL := 3) (ty := .int) (own := RX9) (by decide) rfl rfl (Nat.le_of_ble_eq_true rfl) ?_
  intro p e s m args below meth c A Q C0 hin hret
  exact t_X9_more_0 C0 t0 post hret z1 hw
abbrev rm_X9_count : Room := { frames := 7, cells := 0, slots := 0, locals := 156 }
theorem in_X9_count_RX9 : ∀ w ∈ wsX90, w ∈ wsX9_count := fun w hw9 => List.mem_cons_of_mem _ (List.mem_append_left _ (List.mem_append_left _ (List.mem_append_right _ hw9)))
set_option maxHeartbeats 4000000 in
set_option maxRecDepth 100000 in
theorem t_X9_count_0 (C0 : hX p s m args c cX9_count 3 RX9 wsX9_count D (gt u.2.1) A u.1 u.2.2) {S : hS} (t0 : Nat) (post : Int32 → Prop) (hret : ∀ (r : Int32) (S' : hS) (pc : Nat) (lv : List (Nat × Value)) (k n : Nat), k ≤ 0 → n ≤ 0 → (S' = S ∧ post r) → narrow .int (.int r) = .int r → decode cX9_count pc = .ok (.ireturn, 1) → gG p l e (rm_X9_count) s m args below meth c Q D A 3 k n (hC X S') pc lv [.int r])  : ∀ (z1 : Int32), w_X9_count u post t0  z1 S → gG p l e (rm_X9_count) s m args below meth c Q D A 3 0 0 (hC X S) 0 [(0, .ref t0), (1, .int z1)] [] := by
  obtain ⟨⟨hx, hb, hml, ho, hts, hK, hA⟩, hR⟩ := id C0
  intro z1 hw H locs ls hW hl
  rw [w_X9_count] at hw
  refine lv_iload_n hx hb dX9_count_0 rfl (lv_at hl 1 rfl) ?_
  refine lv_iconst (v := 2) hx hb dX9_count_1 (by decide) ?_
  refine g_calls (As := [.int z1, .int 2]) (rest := []) ⟨hx, hb, hml, ho, hts⟩ hl.1 (k_X9_isWithin (l := l) _ z1 2 hw) (va_cwS 2 hts gX9_count_X9_isWithin rfl rfl rfl (by decide +kernel) ⟨Nat.le_of_ble_eq_true rfl, Nat.le_of_ble_eq_true rfl⟩) (Nat.le_of_ble_eq_true rfl) dX9_count_2 rfl ⟨Nat.le_refl _, Nat.le_refl _⟩ (fun r1 hp => ?_)
  replace hw := hp
  refine lv_if_ne (tgt := 10) hx hb dX9_count_5 (by decide) (fun c2 => ?_) (fun c2 => ?_)
  · replace hw := hw.1 c2
    refine lv_aload_n hx hb dX9_count_10 rfl (lv_at hl 0 rfl) ?_
    obtain ⟨o3, h4, hw⟩ := hw
    refine h_getR C0 hW (T := TX9) (kf := 5) in_X9_count_RX9 h4 rfl (by decide) (List.mem_of_getElem? (i := 1) rfl) rfl dX9_count_11 ?_
    refine lv_iload_n hx hb dX9_count_14 rfl (lv_at hl 1 rfl) ?_
    obtain ⟨a5, rfl, hw⟩ := hw
    obtain ⟨N6, g7, h8, h9, hw⟩ := hw
    refine h_qald C0 hW 6 h8 rfl h9 dX9_count_15 (fun o10 eo10 => ?_)
    replace hw := hw o10 eo10
    refine lv_astoreV_n (i := 2) (lv' := [(2, va_rf o10), (0, .ref t0), (1, .int z1)]) hx hb dX9_count_16 rfl hl (by decide) rfl (fun ls hl9 => ?_)
    replace hl := hl9
    refine lv_aloadV_n hx hb dX9_count_17 rfl (lv_at hl 0 rfl) ?_
    refine lv_ifnonnullV (tgt := 24) hx hb dX9_count_18 (by decide) (fun a12 c11 => ?_) (fun c11 => ?_)
    · subst c11
      replace hw := hw.2 a12 rfl
      refine lv_aload_n hx hb dX9_count_24 rfl (lv_at hl 0 rfl) ?_
      obtain ⟨h14, hw⟩ := hw
      refine h_goi C0 hW (va_runV (As := []) (rest := []) ⟨hx, hb, hml, ho, hts⟩ (k_X8_tokensLeft (l := l) (u := u) (X := X) (sz := H.size) _ a12  S  hw) (cwV 0 hts gX9_count_X8_tokensLeft rfl rfl rfl (by decide +kernel) ⟨Nat.le_of_ble_eq_true rfl, Nat.le_of_ble_eq_true rfl⟩) ⟨h_blind, (h_recv C0 hW (ci := 9) rfl h14), (h_pre C0 hW [.ref a12])⟩ rfl rfl hl.1 rfl (lv_room (Nat.le_of_ble_eq_true rfl)) dX9_count_25 ⟨Nat.le_refl _, Nat.le_refl _⟩) (fun r13 S15 H locs h16 hW => ?_)
      obtain ⟨h17, hp⟩ := h16
      rw [h17] at hW
      replace hw := hp
      exact hret r13 S _ _ 0 0 (Nat.le_refl _) (Nat.le_refl _) ⟨rfl, hw⟩ rfl dX9_count_28 _ _ _ hW hl
    · subst c11
      replace hw := hw.1 rfl
      refine lv_bipush (v := (-4)) hx hb dX9_count_21 (by decide) ?_
      exact hret (-4) S _ _ 0 0 (Nat.le_refl _) (Nat.le_refl _) ⟨rfl, hw⟩ rfl dX9_count_23 _ _ _ hW hl
  · replace hw := hw.2 c2
    refine lv_iconst (v := (-1)) hx hb dX9_count_8 (by decide) ?_
    exact hret (-1) S _ _ 0 0 (Nat.le_refl _) (Nat.le_refl _) ⟨rfl, hw⟩ rfl dX9_count_9 _ _ _ hW hl
set_option maxHeartbeats 4000000 in
set_option maxRecDepth 100000 in
theorem k_X9_count {l : Launch} {D : va_G} {u : hU} {X : va_W} {sz : Nat} (post : Int32 → Prop) (t0 : Nat) (z1 : Int32) (S : hS) (hw : w_X9_count u post t0 z1 S) : hMi l yX9_count wsX9_count rm_X9_count D (gt u.2.1) u.1 u.2.2 sz X S [.ref t0, .int z1] (fun r S' => S' = S ∧ post r) 0 0 := by
  refine hMi_of (cc := cX9_count) (nL := 3) (ty := .int) (own := RX9) (by decide) rfl rfl (Nat.le_of_ble_eq_true rfl) ?_
  intro p e s m args below meth c A Q C0 hin hret
  exact t_X9_count_0 C0 t0 post hret z1 hw
abbrev rm_X9_refuseToken : Room := { frames := 1, cells := 0, slots := 0, locals := 21 }
theorem in_X9_refuseToken_RX9 : ∀ w ∈ wsX90, w ∈ wsX9_refuseToken := fun w hw9 => List.mem_cons_of_mem _ (List.mem_append_right _ hw9)
set_option maxHeartbeats 4000000 in
set_option maxRecDepth 100000 in
theorem t_X9_refuseToken_15 (C0 : hX p s m args c cX9_refuseToken 2 RX9 wsX9_refuseToken D (gt u.2.1) A u.1 u.2.2) (t0 : Nat) (post : Int32 → hS → Prop) (hret : ∀ (r : Int32) (S' : hS) (pc : Nat) (lv : List (Nat × Value)) (k n : Nat), k ≤ 0 → n ≤ 0 → post r S' → narrow .int (.int r) = .int r → decode cX9_refuseToken pc = .ok (.ireturn, 1) → gG p l e (rm_X9_refuseToken) s m args below meth c Q D A 2 k n (hC X S') pc lv [.int r])  : ∀ (S : hS), w_X9_refuseToken_15 u post t0   S → gG p l e (rm_X9_refuseToken) s m args below meth c Q D A 2 0 0 (hC X S) 15 [(0, .ref t0)] [] := by
  obtain ⟨⟨hx, hb, hml, ho, hts, hK, hA⟩, hR⟩ := id C0
  intro  S hw H locs ls hW hl
  rw [w_X9_refuseToken_15] at hw
  refine lv_aload_n hx hb dX9_refuseToken_15 rfl (lv_at hl 0 rfl) ?_
  refine lv_dup hx hb dX9_refuseToken_16 rfl ?_
  obtain ⟨v11, h12, hw⟩ := hw
  refine h_getI C0 hW (T := TX9) (kf := 8) in_X9_refuseToken_RX9 h12 rfl (by decide) (List.mem_of_getElem? (i := 2) rfl) rfl dX9_refuseToken_17 ?_
  refine lv_iconst (v := 1) hx hb dX9_refuseToken_20 (by decide) ?_
  refine lv_iadd hx hb dX9_refuseToken_21 ?_
  obtain ⟨fs13, h14, h15, hw⟩ := hw
  refine h_put C0 hW (T := TX9) (kf := 8) (ty := .int) in_X9_refuseToken_RX9 h14 rfl (by decide) h15 tyX9 tyX9_ok nmX9 (List.mem_of_getElem? (i := 2) rfl) rfl (Or.inl rfl) (by decide +kernel) rfl rfl dX9_refuseToken_22 rfl (fun H locs hW => ?_)
  obtain ⟨S16, eS16⟩ : ∃ z : hS, z = upS S t0 (.inr (10, fs13.set 8 (.int (v11 + 1)))) := ⟨_, rfl⟩
  rw [← eS16] at hW
  replace hw := hw S16 eS16
  refine lv_bipush (v := (-8)) hx hb dX9_refuseToken_25 (by decide) ?_
  exact hret (-8) S16 _ _ 0 0 (Nat.le_refl _) (Nat.le_refl _) hw rfl dX9_refuseToken_27 _ _ _ hW hl
set_option maxHeartbeats 4000000 in
set_option maxRecDepth 100000 in
theorem t_X9_refuseToken_0 (C0 : hX p s m args c cX9_refuseToken 2 RX9 wsX9_refuseToken D (gt u.2.1) A u.1 u.2.2) (t0 : Nat) (post : Int32 → hS → Prop) (hret : ∀ (r : Int32) (S' : hS) (pc : Nat) (lv : List (Nat × Value)) (k n : Nat), k ≤ 0 → n ≤ 0 → post r S' → narrow .int (.int r) = .int r → decode cX9_refuseToken pc = .ok (.ireturn, 1) → gG p l e (rm_X9_refuseToken) s m args below meth c Q D A 2 k n (hC X S') pc lv [.int r])  : ∀ (z1 : Int32) (S : hS), w_X9_refuseToken u post t0  z1 S → gG p l e (rm_X9_refuseToken) s m args below meth c Q D A 2 0 0 (hC X S) 0 [(0, .ref t0), (1, .int z1)] [] := by
  obtain ⟨⟨hx, hb, hml, ho, hts, hK, hA⟩, hR⟩ := id C0
  intro z1 S hw H locs ls hW hl
  rw [w_X9_refuseToken] at hw
  refine lv_iload_n hx hb dX9_refuseToken_0 rfl (lv_at hl 1 rfl) ?_
  refine lv_iconst (v := 2) hx hb dX9_refuseToken_1 (by decide) ?_
  refine g_calls (As := [.int z1, .int 2]) (rest := []) ⟨hx, hb, hml, ho, hts⟩ hl.1 (k_X9_isWithin (l := l) _ z1 2 hw) (va_cwS 2 hts gX9_refuseToken_X9_isWithin rfl rfl rfl (by decide +kernel) ⟨Nat.le_of_ble_eq_true rfl, Nat.le_of_ble_eq_true rfl⟩) (Nat.le_of_ble_eq_true rfl) dX9_refuseToken_2 rfl ⟨Nat.le_refl _, Nat.le_refl _⟩ (fun r1 hp => ?_)
  replace hw := hp
  refine lv_if_eq (tgt := 15) hx hb dX9_refuseToken_5 (by decide) (fun c2 => ?_) (fun c2 => ?_)
  · replace hw := hw.1 c2
    exact t_X9_refuseToken_15 C0 t0 post hret   S  hw _ _ _ hW (lv_sub hl [0] rfl)
  · replace hw := hw.2 c2
    refine lv_aload_n hx hb dX9_refuseToken_8 rfl (lv_at hl 0 rfl) ?_
    obtain ⟨o3, h4, hw⟩ := hw
    refine h_getR C0 hW (T := TX9) (kf := 5) in_X9_refuseToken_RX9 h4 rfl (by decide) (List.mem_of_getElem? (i := 1) rfl) rfl dX9_refuseToken_9 ?_
    refine lv_iload_n hx hb dX9_refuseToken_12 rfl (lv_at hl 1 rfl) ?_
    refine lv_null hx hb dX9_refuseToken_13 ?_
    obtain ⟨a5, rfl, hw⟩ := hw
    obtain ⟨N6, g7, h8, h9, hw⟩ := hw
    refine h_qastN C0 hW 6 h8 rfl h9 dX9_refuseToken_14 (fun H locs hW => ?_)
    obtain ⟨S10, eS10⟩ : ∃ z : hS, z = upS S a5 (.inl (u.2.1 6, N6, .inr (.inr (.inr (.inr (va_up g7 (z1 : Int32).toNatClampNeg none)))))) := ⟨_, rfl⟩
    rw [← eS10] at hW
    replace hw := hw S10 eS10
    exact t_X9_refuseToken_15 C0 t0 post hret   S10  hw _ _ _ hW (lv_sub hl [0] rfl)
set_option maxHeartbeats 4000000 in
set_option maxRecDepth 100000 in
theorem k_X9_refuseToken {l : Launch} {D : va_G} {u : hU} {X : va_W} {sz : Nat} (post : Int32 → hS → Prop) (t0 : Nat) (z1 : Int32) (S : hS) (hw : w_X9_refuseToken u post t0 z1 S) : hMi l yX9_refuseToken wsX9_refuseToken rm_X9_refuseToken D (gt u.2.1) u.1 u.2.2 sz X S [.ref t0, .int z1] post 0 0 := by
  refine hMi_of (cc := cX9_refuseToken) (nL := 2) (ty := .int) (own := RX9) (by decide) rfl rfl (Nat.le_of_ble_eq_true rfl) ?_
  intro p e s m args below meth c A Q C0 hin hret
  exact t_X9_refuseToken_0 C0 t0 post hret z1 S hw
abbrev rm_X9_next (MC MS : Nat) : Room := { frames := 7, cells := MC, slots := MS, locals := 155 }
theorem in_X9_next_RX9 : ∀ w ∈ wsX90, w ∈ wsX9_next := fun w hw9 => List.mem_cons_of_mem _ (List.mem_append_left _ (List.mem_append_left _ (List.mem_append_left _ (List.mem_append_right _ hw9))))
set_option maxHeartbeats 4000000 in
set_option maxRecDepth 100000 in
theorem t_X9_next_0 (C0 : hX p s m args c cX9_next 5 RX9 wsX9_next D (gt u.2.1) A u.1 u.2.2) (t0 : Nat) (post : Int32 → hS → Prop) (hret : ∀ (r : Int32) (S' : hS) (pc : Nat) (lv : List (Nat × Value)) (k n : Nat), k ≤ MC → n ≤ MS → post r S' → narrow .int (.int r) = .int r → decode cX9_next pc = .ok (.ireturn, 1) → gG p l e (rm_X9_next MC MS) s m args below meth c Q D A 5 k n (hC X S') pc lv [.int r])  : ∀ (z1 : Int32) (z2 : Int32) (S : hS) (mc ms k n : Nat), k + mc ≤ MC ∧ n + ms ≤ MS → w_X9_next u post t0  z1 z2 S mc ms → gG p l e (rm_X9_next MC MS) s m args below meth c Q D A 5 k n (hC X S) 0 [(0, .ref t0), (1, .int z1), (2, .int z2)] [] := by
  obtain ⟨⟨hx, hb, hml, ho, hts, hK, hA⟩, hR⟩ := id C0
  intro z1 z2 S mc ms k n hkn hw H locs ls hW hl
  rw [w_X9_next] at hw
  refine lv_aload_n hx hb dX9_next_0 rfl (lv_at hl 0 rfl) ?_
  refine lv_iload_n hx hb dX9_next_1 rfl (lv_at hl 2 rfl) ?_
  obtain ⟨h2, hw⟩ := hw
  refine h_goq C0 hW (va_runV (As := [.int z2]) (rest := []) ⟨hx, hb, hml, ho, hts⟩ (k_X9_slotAt (l := l) (u := u) (X := X) (sz := H.size) _ t0 z2 S  hw) (cwV 1 hts gX9_next_X9_slotAt rfl rfl rfl (by decide +kernel) ⟨Nat.le_of_ble_eq_true rfl, Nat.le_of_ble_eq_true rfl⟩) ⟨h_blind, (h_recv C0 hW (ci := 10) rfl h2), (h_pre C0 hW [.ref t0, .int z2])⟩ rfl rfl hl.1 rfl (lv_room (Nat.le_of_ble_eq_true rfl)) dX9_next_2 ⟨by show _ ≤ MC; omega, by show _ ≤ MS; omega⟩) (fun r1 S3 H locs h4 hW => ?_)
  obtain ⟨h5, hp⟩ := h4
  rw [h5] at hW
  replace hw := hp
  refine lv_astoreV_n (i := 3) (lv' := [(3, va_rf r1), (0, .ref t0), (1, .int z1), (2, .int z2)]) hx hb dX9_next_5 rfl hl (by decide) rfl (fun ls hl9 => ?_)
  replace hl := hl9
  refine lv_iload_n hx hb dX9_next_6 rfl (lv_at hl 2 rfl) ?_
  refine lv_iconst (v := 2) hx hb dX9_next_7 (by decide) ?_
  refine g_calls (As := [.int z1, .int 2]) (rest := []) ⟨hx, hb, hml, ho, hts⟩ hl.1 (k_X9_isWithin (l := l) _ z1 2 hw) (va_cwS 2 hts gX9_next_X9_isWithin rfl rfl rfl (by decide +kernel) ⟨Nat.le_of_ble_eq_true rfl, Nat.le_of_ble_eq_true rfl⟩) (Nat.le_of_ble_eq_true rfl) dX9_next_8 rfl ⟨by show _ ≤ MC; omega, by show _ ≤ MS; omega⟩ (fun r6 hp => ?_)
  replace hw := hp
  refine lv_if_eq (tgt := 18) hx hb dX9_next_11 (by decide) (fun c7 => ?_) (fun c7 => ?_)
  · replace hw := hw.1 c7
    refine lv_iconst (v := (-1)) hx hb dX9_next_18 (by decide) ?_
    exact hret (-1) S _ _ _ _ (by omega) (by omega) hw rfl dX9_next_19 _ _ _ hW hl
  · replace hw := hw.2 c7
    refine lv_aloadV_n hx hb dX9_next_14 rfl (lv_at hl 0 rfl) ?_
    refine lv_ifnonnullV (tgt := 20) hx hb dX9_next_15 (by decide) (fun a9 c8 => ?_) (fun c8 => ?_)
    · subst c8
      replace hw := hw.2 a9 rfl
      refine lv_aload_n hx hb dX9_next_20 rfl (lv_at hl 1 rfl) ?_
      obtain ⟨o10, h11, hw⟩ := hw
      refine h_getR C0 hW (T := TX9) (kf := 5) in_X9_next_RX9 h11 rfl (by decide) (List.mem_of_getElem? (i := 1) rfl) rfl dX9_next_21 ?_
      refine lv_iload_n hx hb dX9_next_24 rfl (lv_at hl 2 rfl) ?_
      obtain ⟨a12, rfl, hw⟩ := hw
      obtain ⟨N13, g14, h15, h16, hw⟩ := hw
      refine h_qald C0 hW 6 h15 rfl h16 dX9_next_25 (fun o17 eo17 => ?_)
      replace hw := hw o17 eo17
      refine lv_astoreV (i := 4) (lv' := [(4, va_rf o17), (3, .ref a9), (0, .ref t0), (1, .int z1), (2, .int z2)]) hx hb dX9_next_26 hl (by decide) rfl (fun ls hl9 => ?_)
      replace hl := hl9
      refine lv_aloadV hx hb dX9_next_28 (lv_at hl 0 rfl) ?_
      refine lv_ifnonnullV (tgt := 36) hx hb dX9_next_30 (by decide) (fun a19 c18 => ?_) (fun c18 => ?_)
      · subst c18
        replace hw := hw.2 a19 rfl
        refine lv_aload hx hb dX9_next_36 (lv_at hl 0 rfl) ?_
        obtain ⟨h21, hw⟩ := hw
        refine h_goi C0 hW (va_runV (As := []) (rest := []) ⟨hx, hb, hml, ho, hts⟩ (k_X8_hasToken (l := l) (u := u) (X := X) (sz := H.size) _ a19  S  hw) (cwV 0 hts gX9_next_X8_hasToken rfl rfl rfl (by decide +kernel) ⟨Nat.le_of_ble_eq_true rfl, Nat.le_of_ble_eq_true rfl⟩) ⟨h_blind, (h_recv C0 hW (ci := 9) rfl h21), (h_pre C0 hW [.ref a19])⟩ rfl rfl hl.1 rfl (lv_room (Nat.le_of_ble_eq_true rfl)) dX9_next_38 ⟨by show _ ≤ MC; omega, by show _ ≤ MS; omega⟩) (fun r20 S22 H locs h23 hW => ?_)
        obtain ⟨h24, hp⟩ := h23
        rw [h24] at hW
        replace hw := hp
        refine lv_if_ne (tgt := 50) hx hb dX9_next_41 (by decide) (fun c25 => ?_) (fun c25 => ?_)
        · replace hw := hw.1 c25
          refine lv_aload_n hx hb dX9_next_50 rfl (lv_at hl 1 rfl) ?_
          refine lv_aload hx hb dX9_next_51 (lv_at hl 0 rfl) ?_
          obtain ⟨h31, k27, n28, h29, h30, hw⟩ := hw
          refine h_goq C0 hW (va_runV (As := []) (rest := [.ref a9]) ⟨hx, hb, hml, ho, hts⟩ (k_X8_takeToken (l := l) (u := u) (X := X) (sz := H.size) _ a19  S k27 n28 hw) (cwV 0 hts gX9_next_X8_takeToken rfl rfl rfl (by decide +kernel) ⟨Nat.le_of_ble_eq_true rfl, Nat.le_of_ble_eq_true rfl⟩) ⟨h_blind, (h_recv C0 hW (ci := 9) rfl h31), (h_pre C0 hW [.ref a19])⟩ rfl rfl hl.1 rfl (lv_room (Nat.le_of_ble_eq_true rfl)) dX9_next_53 ⟨by show _ ≤ MC; omega, by show _ ≤ MS; omega⟩) (fun r26 S32 H locs h33 hW => ?_)
          replace hw := h33
          have hkn : (k + k27) + (mc - k27) ≤ MC ∧ (n + n28) + (ms - n28) ≤ MS := by omega
          refine h_goi C0 hW (va_runS (As := [.ref a9, va_rf r26]) (rest := []) ⟨hx, hb, hml, ho, hts⟩ (k_X9_putInto (l := l) (u := u) (X := X) (sz := H.size) _ (some a9) r26 S32  hw) (va_cwS 2 hts gX9_next_X9_putInto rfl rfl rfl (by decide +kernel) ⟨Nat.le_of_ble_eq_true rfl, Nat.le_of_ble_eq_true rfl⟩) ⟨h_blind, (h_pre C0 hW [.ref a9, va_rf r26])⟩ rfl rfl hl.1 rfl (lv_room (Nat.le_of_ble_eq_true rfl)) dX9_next_56 ⟨by show _ ≤ MC; omega, by show _ ≤ MS; omega⟩) (fun r34 S35 H locs h36 hW => ?_)
          replace hw := h36
          exact hret r34 S35 _ _ _ _ (by omega) (by omega) hw rfl dX9_next_59 _ _ _ hW hl
        · replace hw := hw.2 c25
          refine lv_aload_n hx hb dX9_next_44 rfl (lv_at hl 2 rfl) ?_
          refine lv_iload_n hx hb dX9_next_45 rfl (lv_at hl 3 rfl) ?_
          obtain ⟨h38, hw⟩ := hw
          refine h_goi C0 hW (va_runV (As := [.int z1]) (rest := []) ⟨hx, hb, hml, ho, hts⟩ (k_X9_refuseToken (l := l) (u := u) (X := X) (sz := H.size) _ t0 z1 S  hw) (cwV 1 hts gX9_next_X9_refuseToken rfl rfl rfl (by decide +kernel) ⟨Nat.le_of_ble_eq_true rfl, Nat.le_of_ble_eq_true rfl⟩) ⟨h_blind, (h_recv C0 hW (ci := 10) rfl h38), (h_pre C0 hW [.ref t0, .int z1])⟩ rfl rfl hl.1 rfl (lv_room (Nat.le_of_ble_eq_true rfl)) dX9_next_46 ⟨by show _ ≤ MC; omega, by show _ ≤ MS; omega⟩) (fun r37 S39 H locs h40 hW => ?_)
          replace hw := h40
          exact hret r37 S39 _ _ _ _ (by omega) (by omega) hw rfl dX9_next_49 _ _ _ hW hl
      · subst c18
        replace hw := hw.1 rfl
        refine lv_bipush (v := (-4)) hx hb dX9_next_33 (by decide) ?_
        exact hret (-4) S _ _ _ _ (by omega) (by omega) hw rfl dX9_next_35 _ _ _ hW hl
    · subst c8
      replace hw := hw.1 rfl
      refine lv_iconst (v := (-1)) hx hb dX9_next_18 (by decide) ?_
      exact hret (-1) S _ _ _ _ (by omega) (by omega) hw rfl dX9_next_19 _ _ _ hW hl
set_option maxHeartbeats 4000000 in
set_option maxRecDepth 100000 in
theorem k_X9_next {l : Launch} {D : va_G} {u : hU} {X : va_W} {sz : Nat} (post : Int32 → hS → Prop) (t0 : Nat) (z1 : Int32) (z2 : Int32) (S : hS) (mc ms : Nat) (hw : w_X9_next u post t0 z1 z2 S mc ms) : hMi l yX9_next wsX9_next (rm_X9_next mc ms) D (gt u.2.1) u.1 u.2.2 sz X S [.ref t0, .int z1, .int z2] post mc ms := by
  refine hMi_of (cc := cX9_next) (nL := 5) (ty := .int) (own := RX9) (by decide) rfl rfl (Nat.le_of_ble_eq_true rfl) ?_
  intro p e s m args below meth c A Q C0 hin hret
  exact t_X9_next_0 C0 t0 post hret z1 z2 S mc ms 0 0 ⟨by omega, by omega⟩ hw
abbrev rm_X9_nextBy (MC MS : Nat) : Room := { frames := 7, cells := MC, slots := MS, locals := 155 }
theorem in_X9_nextBy_RX6 : ∀ w ∈ wsX60, w ∈ wsX9_nextBy := fun w hw9 => List.mem_cons_of_mem _ (List.mem_append_left _ (List.mem_append_left _ (List.mem_append_right _ hw9)))
theorem in_X9_nextBy_RX8 : ∀ w ∈ wsX80, w ∈ wsX9_nextBy := fun w hw9 => List.mem_cons_of_mem _ (List.mem_append_left _ (List.mem_append_right _ hw9))
theorem in_X9_nextBy_RX9 : ∀ w ∈ wsX90, w ∈ wsX9_nextBy := fun w hw9 => List.mem_cons_of_mem _ (List.mem_append_left _ (List.mem_append_left _ (List.mem_append_left _ (List.mem_append_right _ hw9))))
set_option maxHeartbeats 4000000 in
set_option maxRecDepth 100000 in
theorem t_X9_nextBy_0 (C0 : hX p s m args c cX9_nextBy 7 RX9 wsX9_nextBy D (gt u.2.1) A u.1 u.2.2) (t0 : Nat) (post : Int32 → hS → Prop) (hret : ∀ (r : Int32) (S' : hS) (pc : Nat) (lv : List (Nat × Value)) (k n : Nat), k ≤ MC → n ≤ MS → post r S' → narrow .int (.int r) = .int r → decode cX9_nextBy pc = .ok (.ireturn, 1) → gG p l e (rm_X9_nextBy MC MS) s m args below meth c Q D A 7 k n (hC X S') pc lv [.int r])  : ∀ (z1 : Int32) (z2 : Int32) (z3 : Int32) (S : hS) (mc ms k n : Nat), k + mc ≤ MC ∧ n + ms ≤ MS → w_X9_nextBy u post t0  z1 z2 z3 S mc ms → gG p l e (rm_X9_nextBy MC MS) s m args below meth c Q D A 7 k n (hC X S) 0 [(0, .ref t0), (1, .int z1), (2, .int z2), (3, .int z3)] [] := by
  obtain ⟨⟨hx, hb, hml, ho, hts, hK, hA⟩, hR⟩ := id C0
  intro z1 z2 z3 S mc ms k n hkn hw H locs ls hW hl
  rw [w_X9_nextBy] at hw
  refine lv_aload_n hx hb dX9_nextBy_0 rfl (lv_at hl 0 rfl) ?_
  refine lv_iload_n hx hb dX9_nextBy_1 rfl (lv_at hl 2 rfl) ?_
  obtain ⟨h2, hw⟩ := hw
  refine h_goq C0 hW (va_runV (As := [.int z2]) (rest := []) ⟨hx, hb, hml, ho, hts⟩ (k_X9_slotAt (l := l) (u := u) (X := X) (sz := H.size) _ t0 z2 S  hw) (cwV 1 hts gX9_nextBy_X9_slotAt rfl rfl rfl (by decide +kernel) ⟨Nat.le_of_ble_eq_true rfl, Nat.le_of_ble_eq_true rfl⟩) ⟨h_blind, (h_recv C0 hW (ci := 10) rfl h2), (h_pre C0 hW [.ref t0, .int z2])⟩ rfl rfl hl.1 rfl (lv_room (Nat.le_of_ble_eq_true rfl)) dX9_nextBy_2 ⟨by show _ ≤ MC; omega, by show _ ≤ MS; omega⟩) (fun r1 S3 H locs h4 hW => ?_)
  obtain ⟨h5, hp⟩ := h4
  rw [h5] at hW
  replace hw := hp
  refine lv_astoreV (i := 4) (lv' := [(4, va_rf r1), (0, .ref t0), (1, .int z1), (2, .int z2), (3, .int z3)]) hx hb dX9_nextBy_5 hl (by decide) rfl (fun ls hl9 => ?_)
  replace hl := hl9
  refine lv_aload_n hx hb dX9_nextBy_7 rfl (lv_at hl 1 rfl) ?_
  refine lv_iload_n hx hb dX9_nextBy_8 rfl (lv_at hl 4 rfl) ?_
  obtain ⟨h7, hw⟩ := hw
  refine h_goq C0 hW (va_runV (As := [.int z3]) (rest := []) ⟨hx, hb, hml, ho, hts⟩ (k_X9_slotAt (l := l) (u := u) (X := X) (sz := H.size) _ t0 z3 S  hw) (cwV 1 hts gX9_nextBy_X9_slotAt rfl rfl rfl (by decide +kernel) ⟨Nat.le_of_ble_eq_true rfl, Nat.le_of_ble_eq_true rfl⟩) ⟨h_blind, (h_recv C0 hW (ci := 10) rfl h7), (h_pre C0 hW [.ref t0, .int z3])⟩ rfl rfl hl.1 rfl (lv_room (Nat.le_of_ble_eq_true rfl)) dX9_nextBy_9 ⟨by show _ ≤ MC; omega, by show _ ≤ MS; omega⟩) (fun r6 S8 H locs h9 hW => ?_)
  obtain ⟨h10, hp⟩ := h9
  rw [h10] at hW
  replace hw := hp
  refine lv_astoreV (i := 5) (lv' := [(5, va_rf r6), (4, va_rf r1), (0, .ref t0), (1, .int z1), (2, .int z2), (3, .int z3)]) hx hb dX9_nextBy_12 hl (by decide) (by show (5, va_rf r6) :: List.filter (fun q : Nat × Value => !(q.1 == 5) && !(q.1 + 1 == 5 && q.2.category == 2)) [(4, va_rf r1), (0, .ref t0), (1, .int z1), (2, .int z2), (3, .int z3)] = [(5, va_rf r6), (4, va_rf r1), (0, .ref t0), (1, .int z1), (2, .int z2), (3, .int z3)]; simp [va_rf_cat, va_c_ref, va_c_int, va_c_null]) (fun ls hl9 => ?_)
  replace hl := hl9
  refine lv_iload_n hx hb dX9_nextBy_14 rfl (lv_at hl 3 rfl) ?_
  refine lv_iconst (v := 2) hx hb dX9_nextBy_15 (by decide) ?_
  refine g_calls (As := [.int z1, .int 2]) (rest := []) ⟨hx, hb, hml, ho, hts⟩ hl.1 (k_X9_isWithin (l := l) _ z1 2 hw) (va_cwS 2 hts gX9_nextBy_X9_isWithin rfl rfl rfl (by decide +kernel) ⟨Nat.le_of_ble_eq_true rfl, Nat.le_of_ble_eq_true rfl⟩) (Nat.le_of_ble_eq_true rfl) dX9_nextBy_16 rfl ⟨by show _ ≤ MC; omega, by show _ ≤ MS; omega⟩ (fun r11 hp => ?_)
  replace hw := hp
  refine lv_if_eq (tgt := 32) hx hb dX9_nextBy_19 (by decide) (fun c12 => ?_) (fun c12 => ?_)
  · replace hw := hw.1 c12
    refine lv_iconst (v := (-1)) hx hb dX9_nextBy_32 (by decide) ?_
    exact hret (-1) S _ _ _ _ (by omega) (by omega) hw rfl dX9_nextBy_33 _ _ _ hW hl
  · replace hw := hw.2 c12
    refine lv_aloadV hx hb dX9_nextBy_22 (lv_at hl 1 rfl) ?_
    refine lv_ifnullV (tgt := 32) hx hb dX9_nextBy_24 (by decide) (fun c13 => ?_) (fun a14 c13 => ?_)
    · subst c13
      replace hw := hw.1 rfl
      refine lv_iconst (v := (-1)) hx hb dX9_nextBy_32 (by decide) ?_
      exact hret (-1) S _ _ _ _ (by omega) (by omega) hw rfl dX9_nextBy_33 _ _ _ hW hl
    · subst c13
      replace hw := hw.2 a14 rfl
      refine lv_aloadV hx hb dX9_nextBy_27 (lv_at hl 0 rfl) ?_
      refine lv_ifnonnullV (tgt := 34) hx hb dX9_nextBy_29 (by decide) (fun a16 c15 => ?_) (fun c15 => ?_)
      · subst c15
        replace hw := hw.2 a16 rfl
        refine lv_aload_n hx hb dX9_nextBy_34 rfl (lv_at hl 2 rfl) ?_
        obtain ⟨o17, h18, hw⟩ := hw
        refine h_getR C0 hW (T := TX9) (kf := 5) in_X9_nextBy_RX9 h18 rfl (by decide) (List.mem_of_getElem? (i := 1) rfl) rfl dX9_nextBy_35 ?_
        refine lv_iload_n hx hb dX9_nextBy_38 rfl (lv_at hl 3 rfl) ?_
        obtain ⟨a19, rfl, hw⟩ := hw
        obtain ⟨N20, g21, h22, h23, hw⟩ := hw
        refine h_qald C0 hW 6 h22 rfl h23 dX9_nextBy_39 (fun o24 eo24 => ?_)
        replace hw := hw o24 eo24
        refine lv_astoreV (i := 6) (lv' := [(6, va_rf o24), (5, .ref a16), (4, .ref a14), (0, .ref t0), (1, .int z1), (2, .int z2), (3, .int z3)]) hx hb dX9_nextBy_40 hl (by decide) rfl (fun ls hl9 => ?_)
        replace hl := hl9
        refine lv_aloadV hx hb dX9_nextBy_42 (lv_at hl 0 rfl) ?_
        refine lv_ifnonnullV (tgt := 50) hx hb dX9_nextBy_44 (by decide) (fun a26 c25 => ?_) (fun c25 => ?_)
        · subst c25
          replace hw := hw.2 a26 rfl
          refine lv_aload hx hb dX9_nextBy_50 (lv_at hl 2 rfl) ?_
          obtain ⟨o27, h28, hw⟩ := hw
          refine h_getRN C0 hW (host := RX9) (T := TX6) (kf := 0) in_X9_nextBy_RX6 h28 rfl (by decide) (by decide +kernel) rfl dX9_nextBy_52 ?_
          refine lv_ifnonnullV (tgt := 61) hx hb dX9_nextBy_55 (by decide) (fun a30 c29 => ?_) (fun c29 => ?_)
          · subst c29
            replace hw := hw.2 a30 rfl
            refine lv_aload hx hb dX9_nextBy_61 (lv_at hl 0 rfl) ?_
            refine lv_aload hx hb dX9_nextBy_63 (lv_at hl 2 rfl) ?_
            obtain ⟨o31, h32, hw⟩ := hw
            refine h_getRN C0 hW (host := RX9) (T := TX6) (kf := 0) in_X9_nextBy_RX6 h32 rfl (by decide) (by decide +kernel) rfl dX9_nextBy_65 ?_
            obtain ⟨fs33, h34, h35, hw⟩ := hw
            refine h_putN C0 hW (host := RX9) (T := TX8) (kf := 2) (ty := .object "java/lang/String") in_X9_nextBy_RX8 h34 rfl (by decide) h35 tyX8 tyX8_ok nmX8 (by decide +kernel) rfl rfl (by decide +kernel) (by cases o31 <;> rfl) (by cases o31 <;> rfl) dX9_nextBy_68 (fun H locs hW => ?_)
            obtain ⟨S36, eS36⟩ : ∃ z : hS, z = upS S a26 (.inr (9, fs33.set 2 (va_rf o31))) := ⟨_, rfl⟩
            rw [← eS36] at hW
            replace hw := hw S36 eS36
            refine lv_aload hx hb dX9_nextBy_71 (lv_at hl 0 rfl) ?_
            obtain ⟨h38, hw⟩ := hw
            refine h_goi C0 hW (va_runV (As := []) (rest := []) ⟨hx, hb, hml, ho, hts⟩ (k_X8_hasToken (l := l) (u := u) (X := X) (sz := H.size) _ a26  S36  hw) (cwV 0 hts gX9_nextBy_X8_hasToken rfl rfl rfl (by decide +kernel) ⟨Nat.le_of_ble_eq_true rfl, Nat.le_of_ble_eq_true rfl⟩) ⟨h_blind, (h_recv C0 hW (ci := 9) rfl h38), (h_pre C0 hW [.ref a26])⟩ rfl rfl hl.1 rfl (lv_room (Nat.le_of_ble_eq_true rfl)) dX9_nextBy_73 ⟨by show _ ≤ MC; omega, by show _ ≤ MS; omega⟩) (fun r37 S39 H locs h40 hW => ?_)
            obtain ⟨h41, hp⟩ := h40
            rw [h41] at hW
            replace hw := hp
            refine lv_if_ne (tgt := 85) hx hb dX9_nextBy_76 (by decide) (fun c42 => ?_) (fun c42 => ?_)
            · replace hw := hw.1 c42
              refine lv_aload hx hb dX9_nextBy_85 (lv_at hl 1 rfl) ?_
              refine lv_aload hx hb dX9_nextBy_87 (lv_at hl 0 rfl) ?_
              obtain ⟨h48, k44, n45, h46, h47, hw⟩ := hw
              refine h_goq C0 hW (va_runV (As := []) (rest := [.ref a16]) ⟨hx, hb, hml, ho, hts⟩ (k_X8_takeToken (l := l) (u := u) (X := X) (sz := H.size) _ a26  S36 k44 n45 hw) (cwV 0 hts gX9_nextBy_X8_takeToken rfl rfl rfl (by decide +kernel) ⟨Nat.le_of_ble_eq_true rfl, Nat.le_of_ble_eq_true rfl⟩) ⟨h_blind, (h_recv C0 hW (ci := 9) rfl h48), (h_pre C0 hW [.ref a26])⟩ rfl rfl hl.1 rfl (lv_room (Nat.le_of_ble_eq_true rfl)) dX9_nextBy_89 ⟨by show _ ≤ MC; omega, by show _ ≤ MS; omega⟩) (fun r43 S49 H locs h50 hW => ?_)
              replace hw := h50
              have hkn : (k + k44) + (mc - k44) ≤ MC ∧ (n + n45) + (ms - n45) ≤ MS := by omega
              refine h_goi C0 hW (va_runS (As := [.ref a16, va_rf r43]) (rest := []) ⟨hx, hb, hml, ho, hts⟩ (k_X9_putInto (l := l) (u := u) (X := X) (sz := H.size) _ (some a16) r43 S49  hw) (va_cwS 2 hts gX9_nextBy_X9_putInto rfl rfl rfl (by decide +kernel) ⟨Nat.le_of_ble_eq_true rfl, Nat.le_of_ble_eq_true rfl⟩) ⟨h_blind, (h_pre C0 hW [.ref a16, va_rf r43])⟩ rfl rfl hl.1 rfl (lv_room (Nat.le_of_ble_eq_true rfl)) dX9_nextBy_92 ⟨by show _ ≤ MC; omega, by show _ ≤ MS; omega⟩) (fun r51 S52 H locs h53 hW => ?_)
              replace hw := h53
              exact hret r51 S52 _ _ _ _ (by omega) (by omega) hw rfl dX9_nextBy_95 _ _ _ hW hl
            · replace hw := hw.2 c42
              refine lv_aload_n hx hb dX9_nextBy_79 rfl (lv_at hl 3 rfl) ?_
              refine lv_iload_n hx hb dX9_nextBy_80 rfl (lv_at hl 4 rfl) ?_
              obtain ⟨h55, hw⟩ := hw
              refine h_goi C0 hW (va_runV (As := [.int z1]) (rest := []) ⟨hx, hb, hml, ho, hts⟩ (k_X9_refuseToken (l := l) (u := u) (X := X) (sz := H.size) _ t0 z1 S36  hw) (cwV 1 hts gX9_nextBy_X9_refuseToken rfl rfl rfl (by decide +kernel) ⟨Nat.le_of_ble_eq_true rfl, Nat.le_of_ble_eq_true rfl⟩) ⟨h_blind, (h_recv C0 hW (ci := 10) rfl h55), (h_pre C0 hW [.ref t0, .int z1])⟩ rfl rfl hl.1 rfl (lv_room (Nat.le_of_ble_eq_true rfl)) dX9_nextBy_81 ⟨by show _ ≤ MC; omega, by show _ ≤ MS; omega⟩) (fun r54 S56 H locs h57 hW => ?_)
              replace hw := h57
              exact hret r54 S56 _ _ _ _ (by omega) (by omega) hw rfl dX9_nextBy_84 _ _ _ hW hl
          · subst c29
            replace hw := hw.1 rfl
            refine lv_bipush (v := (-2)) hx hb dX9_nextBy_58 (by decide) ?_
            exact hret (-2) S _ _ _ _ (by omega) (by omega) hw rfl dX9_nextBy_60 _ _ _ hW hl
        · subst c25
          replace hw := hw.1 rfl
          refine lv_bipush (v := (-4)) hx hb dX9_nextBy_47 (by decide) ?_
          exact hret (-4) S _ _ _ _ (by omega) (by omega) hw rfl dX9_nextBy_49 _ _ _ hW hl
      · subst c15
        replace hw := hw.1 rfl
        refine lv_iconst (v := (-1)) hx hb dX9_nextBy_32 (by decide) ?_
        exact hret (-1) S _ _ _ _ (by omega) (by omega) hw rfl dX9_nextBy_33 _ _ _ hW hl
set_option maxHeartbeats 4000000 in
set_option maxRecDepth 100000 in
theorem k_X9_nextBy {l : Launch} {D : va_G} {u : hU} {X : va_W} {sz : Nat} (post : Int32 → hS → Prop) (t0 : Nat) (z1 : Int32) (z2 : Int32) (z3 : Int32) (S : hS) (mc ms : Nat) (hw : w_X9_nextBy u post t0 z1 z2 z3 S mc ms) : hMi l yX9_nextBy wsX9_nextBy (rm_X9_nextBy mc ms) D (gt u.2.1) u.1 u.2.2 sz X S [.ref t0, .int z1, .int z2, .int z3] post mc ms := by
  refine hMi_of (cc := cX9_nextBy) (nL := 7) (ty := .int) (own := RX9) (by decide) rfl rfl (Nat.le_of_ble_eq_true rfl) ?_
  intro p e s m args below meth c A Q C0 hin hret
  exact t_X9_nextBy_0 C0 t0 post hret z1 z2 z3 S mc ms 0 0 ⟨by omega, by omega⟩ hw
abbrev rm_X9_join (MC MS : Nat) : Room := { frames := 2, cells := MC, slots := MS, locals := 42 }
theorem in_X9_join_RX2 : ∀ w ∈ wsX20, w ∈ wsX9_join := fun w hw9 => List.mem_cons_of_mem _ (List.mem_append_right _ hw9)
theorem in_X9_join_RX6 : ∀ w ∈ wsX60, w ∈ wsX9_join := fun w hw9 => List.mem_cons_of_mem _ (List.mem_append_left _ (List.mem_append_left _ (List.mem_append_right _ hw9)))
theorem in_X9_join_RX9 : ∀ w ∈ wsX90, w ∈ wsX9_join := fun w hw9 => List.mem_cons_of_mem _ (List.mem_append_left _ (List.mem_append_right _ hw9))
set_option maxHeartbeats 4000000 in
set_option maxRecDepth 100000 in
theorem t_X9_join_0 (C0 : hX p s m args c cX9_join 4 RX9 wsX9_join D (gt u.2.1) A u.1 u.2.2) (t0 : Nat) (post : Int32 → hS → Prop) (hret : ∀ (r : Int32) (S' : hS) (pc : Nat) (lv : List (Nat × Value)) (k n : Nat), k ≤ MC → n ≤ MS → post r S' → narrow .int (.int r) = .int r → decode cX9_join pc = .ok (.ireturn, 1) → gG p l e (rm_X9_join MC MS) s m args below meth c Q D A 4 k n (hC X S') pc lv [.int r])  : ∀ (z1 : Int32) (z2 : Int32) (S : hS) (mc ms k n : Nat), k + mc ≤ MC ∧ n + ms ≤ MS → w_X9_join u post t0  z1 z2 S mc ms → gG p l e (rm_X9_join MC MS) s m args below meth c Q D A 4 k n (hC X S) 0 [(0, .ref t0), (1, .int z1), (2, .int z2)] [] := by
  obtain ⟨⟨hx, hb, hml, ho, hts, hK, hA⟩, hR⟩ := id C0
  intro z1 z2 S mc ms k n hkn hw H locs ls hW hl
  rw [w_X9_join] at hw
  refine lv_aload_n hx hb dX9_join_0 rfl (lv_at hl 0 rfl) ?_
  refine lv_iload_n hx hb dX9_join_1 rfl (lv_at hl 2 rfl) ?_
  obtain ⟨h2, hw⟩ := hw
  refine h_goq C0 hW (va_runV (As := [.int z2]) (rest := []) ⟨hx, hb, hml, ho, hts⟩ (k_X9_slotAt (l := l) (u := u) (X := X) (sz := H.size) _ t0 z2 S  hw) (cwV 1 hts gX9_join_X9_slotAt rfl rfl rfl (by decide +kernel) ⟨Nat.le_of_ble_eq_true rfl, Nat.le_of_ble_eq_true rfl⟩) ⟨h_blind, (h_recv C0 hW (ci := 10) rfl h2), (h_pre C0 hW [.ref t0, .int z2])⟩ rfl rfl hl.1 rfl (lv_room (Nat.le_of_ble_eq_true rfl)) dX9_join_2 ⟨by show _ ≤ MC; omega, by show _ ≤ MS; omega⟩) (fun r1 S3 H locs h4 hW => ?_)
  obtain ⟨h5, hp⟩ := h4
  rw [h5] at hW
  replace hw := hp
  refine lv_astoreV_n (i := 3) (lv' := [(3, va_rf r1), (0, .ref t0), (1, .int z1), (2, .int z2)]) hx hb dX9_join_5 rfl hl (by decide) rfl (fun ls hl9 => ?_)
  replace hl := hl9
  refine lv_iload_n hx hb dX9_join_6 rfl (lv_at hl 2 rfl) ?_
  refine lv_iconst (v := 3) hx hb dX9_join_7 (by decide) ?_
  refine g_calls (As := [.int z1, .int 3]) (rest := []) ⟨hx, hb, hml, ho, hts⟩ hl.1 (k_X9_isWithin (l := l) _ z1 3 hw) (va_cwS 2 hts gX9_join_X9_isWithin rfl rfl rfl (by decide +kernel) ⟨Nat.le_of_ble_eq_true rfl, Nat.le_of_ble_eq_true rfl⟩) (Nat.le_of_ble_eq_true rfl) dX9_join_8 rfl ⟨by show _ ≤ MC; omega, by show _ ≤ MS; omega⟩ (fun r6 hp => ?_)
  replace hw := hp
  refine lv_if_eq (tgt := 18) hx hb dX9_join_11 (by decide) (fun c7 => ?_) (fun c7 => ?_)
  · replace hw := hw.1 c7
    refine lv_iconst (v := (-1)) hx hb dX9_join_18 (by decide) ?_
    exact hret (-1) S _ _ _ _ (by omega) (by omega) hw rfl dX9_join_19 _ _ _ hW hl
  · replace hw := hw.2 c7
    refine lv_aloadV_n hx hb dX9_join_14 rfl (lv_at hl 0 rfl) ?_
    refine lv_ifnonnullV (tgt := 20) hx hb dX9_join_15 (by decide) (fun a9 c8 => ?_) (fun c8 => ?_)
    · subst c8
      replace hw := hw.2 a9 rfl
      refine lv_aload_n hx hb dX9_join_20 rfl (lv_at hl 0 rfl) ?_
      obtain ⟨o10, h11, hw⟩ := hw
      refine h_getRN C0 hW (host := RX9) (T := TX6) (kf := 0) in_X9_join_RX6 h11 rfl (by decide) (by decide +kernel) rfl dX9_join_21 ?_
      refine lv_ifnonnullV (tgt := 32) hx hb dX9_join_24 (by decide) (fun a13 c12 => ?_) (fun c12 => ?_)
      · subst c12
        replace hw := hw.2 a13 rfl
        refine lv_aload_n hx hb dX9_join_32 rfl (lv_at hl 1 rfl) ?_
        obtain ⟨o18, h19, hw⟩ := hw
        refine h_getR C0 hW (T := TX9) (kf := 6) in_X9_join_RX9 h19 rfl (by decide) (List.mem_of_getElem? (i := 1) rfl) rfl dX9_join_33 ?_
        refine lv_iload_n hx hb dX9_join_36 rfl (lv_at hl 2 rfl) ?_
        obtain ⟨h23, h24, hw⟩ := hw
        refine h_new C0 hW (ci := 3) (fs := [.null, .null, .null, .null, .null]) in_X9_join_RX2 rfl tyX2 tyX2_ok (List.mem_of_getElem? (i := 2) rfl) (List.mem_of_getElem? (i := 3) rfl) (List.mem_of_getElem? (i := 4) rfl) (fun j hj => by rcases (show j = 0 ∨ j = 1 ∨ j = 2 ∨ j = 3 ∨ j = 4 by omega) with rfl | rfl | rfl | rfl | rfl <;> rfl) (by show _ ≤ MC; omega) (by show _ ≤ MS; omega) dX9_join_37 (fun q20 H h21 hW => ?_)
        obtain ⟨S22, eS22⟩ : ∃ z : hS, z = adS S q20 (.inr (3, [.null, .null, .null, .null, .null])) := ⟨_, rfl⟩
        rw [← eS22] at hW
        replace hw := hw q20 S22 h21 eS22
        have hkn : (k + 1) + (mc - 1) ≤ MC ∧ (n + 5) + (ms - 5) ≤ MS := by omega
        refine lv_dup hx hb dX9_join_40 rfl ?_
        refine lv_aload_n hx hb dX9_join_41 rfl (lv_at hl 0 rfl) ?_
        obtain ⟨o25, h26, hw⟩ := hw
        refine h_getRN C0 hW (host := RX9) (T := TX6) (kf := 0) in_X9_join_RX6 h26 rfl (by decide) (by decide +kernel) rfl dX9_join_42 ?_
        refine va_ldcS hx hb ho C0.2.2.2.1.1 dX9_join_45 ?_
        refine va_ldcS hx hb ho C0.2.2.2.1.1 dX9_join_47 ?_
        refine h_gov C0 hW (va_runI (As := [va_rf o25, .ref (u.1 0).1, .ref (u.1 0).1]) (rest := [.ref q20, .int z1, va_rf o18]) ⟨hx, hb, hml, ho, hts⟩ (k_X2_init (l := l) (u := u) (X := X) (sz := H.size) _ q20 o25 (some (u.1 0).1) (some (u.1 0).1) S22  hw) (cwI 3 hts gX9_join_X2_init rfl rfl rfl (hts _ (List.mem_of_getElem? (i := 4) rfl)) (hts _ (List.mem_of_getElem? (i := 19) rfl)) (hts _ (List.mem_of_getElem? (i := 20) rfl)) rfl (by decide +kernel) ⟨Nat.le_of_ble_eq_true rfl, Nat.le_of_ble_eq_true rfl⟩) ⟨h_blind, (h_pre C0 hW [.ref q20, va_rf o25, .ref (u.1 0).1, .ref (u.1 0).1])⟩ rfl rfl hl.1 rfl (lv_room (by simp [va_rf_cat, va_c_ref, va_c_int, va_c_null])) dX9_join_49 ⟨by show _ ≤ MC; omega, by show _ ≤ MS; omega⟩) (fun S28 H locs h29 hW => ?_)
        replace hw := h29
        obtain ⟨a30, rfl, hw⟩ := hw
        obtain ⟨N31, g32, h33, h34, h36, hw⟩ := hw
        refine h_qast C0 hW 7 3 h33 rfl h36 rfl h34 dX9_join_52 (fun H locs hW => ?_)
        obtain ⟨S35, eS35⟩ : ∃ z : hS, z = upS S28 a30 (.inl (u.2.1 7, N31, .inr (.inr (.inr (.inr (va_up g32 (z1 : Int32).toNatClampNeg (some q20))))))) := ⟨_, rfl⟩
        rw [← eS35] at hW
        replace hw := hw S35 eS35
        refine lv_iconst (v := 0) hx hb dX9_join_53 (by decide) ?_
        exact hret 0 S35 _ _ _ _ (by omega) (by omega) hw rfl dX9_join_54 _ _ _ hW hl
      · subst c12
        replace hw := hw.1 rfl
        refine lv_aload_n hx hb dX9_join_27 rfl (lv_at hl 1 rfl) ?_
        obtain ⟨h15, hw⟩ := hw
        refine h_goi C0 hW (va_runV (As := []) (rest := []) ⟨hx, hb, hml, ho, hts⟩ (k_X9_refuseNull (l := l) (u := u) (X := X) (sz := H.size) _ t0  S  hw) (cwV 0 hts gX9_join_X9_refuseNull rfl rfl rfl (by decide +kernel) ⟨Nat.le_of_ble_eq_true rfl, Nat.le_of_ble_eq_true rfl⟩) ⟨h_blind, (h_recv C0 hW (ci := 10) rfl h15), (h_pre C0 hW [.ref t0])⟩ rfl rfl hl.1 rfl (lv_room (Nat.le_of_ble_eq_true rfl)) dX9_join_28 ⟨by show _ ≤ MC; omega, by show _ ≤ MS; omega⟩) (fun r14 S16 H locs h17 hW => ?_)
        replace hw := h17
        exact hret r14 S16 _ _ _ _ (by omega) (by omega) hw rfl dX9_join_31 _ _ _ hW hl
    · subst c8
      replace hw := hw.1 rfl
      refine lv_iconst (v := (-1)) hx hb dX9_join_18 (by decide) ?_
      exact hret (-1) S _ _ _ _ (by omega) (by omega) hw rfl dX9_join_19 _ _ _ hW hl
set_option maxHeartbeats 4000000 in
set_option maxRecDepth 100000 in
theorem k_X9_join {l : Launch} {D : va_G} {u : hU} {X : va_W} {sz : Nat} (post : Int32 → hS → Prop) (t0 : Nat) (z1 : Int32) (z2 : Int32) (S : hS) (mc ms : Nat) (hw : w_X9_join u post t0 z1 z2 S mc ms) : hMi l yX9_join wsX9_join (rm_X9_join mc ms) D (gt u.2.1) u.1 u.2.2 sz X S [.ref t0, .int z1, .int z2] post mc ms := by
  refine hMi_of (cc := cX9_join) (nL := 4) (ty := .int) (own := RX9) (by decide) rfl rfl (Nat.le_of_ble_eq_true rfl) ?_
  intro p e s m args below meth c A Q C0 hin hret
  exact t_X9_join_0 C0 t0 post hret z1 z2 S mc ms 0 0 ⟨by omega, by omega⟩ hw
abbrev rm_X9_joinWithin (MC MS : Nat) : Room := { frames := 3, cells := MC, slots := MS, locals := 60 }
theorem in_X9_joinWithin_RX2 : ∀ w ∈ wsX20, w ∈ wsX9_joinWithin := fun w hw9 => List.mem_cons_of_mem _ (List.mem_append_left _ (List.mem_append_left _ (List.mem_append_right _ hw9)))
theorem in_X9_joinWithin_RX6 : ∀ w ∈ wsX60, w ∈ wsX9_joinWithin := fun w hw9 => List.mem_cons_of_mem _ (List.mem_append_left _ (List.mem_append_left _ (List.mem_append_left _ (List.mem_append_right _ hw9))))
theorem in_X9_joinWithin_RX9 : ∀ w ∈ wsX90, w ∈ wsX9_joinWithin := fun w hw9 => List.mem_cons_of_mem _ (List.mem_append_left _ (List.mem_append_right _ hw9))
set_option maxHeartbeats 4000000 in
set_option maxRecDepth 100000 in
theorem t_X9_joinWithin_73 (C0 : hX p s m args c cX9_joinWithin 9 RX9 wsX9_joinWithin D (gt u.2.1) A u.1 u.2.2) (t0 : Nat) (post : Int32 → hS → Prop) (hret : ∀ (r : Int32) (S' : hS) (pc : Nat) (lv : List (Nat × Value)) (k n : Nat), k ≤ MC → n ≤ MS → post r S' → narrow .int (.int r) = .int r → decode cX9_joinWithin pc = .ok (.ireturn, 1) → gG p l e (rm_X9_joinWithin MC MS) s m args below meth c Q D A 9 k n (hC X S') pc lv [.int r])  : ∀ (S : hS) (mc ms k n : Nat), k + mc ≤ MC ∧ n + ms ≤ MS → w_X9_joinWithin_73 u post t0   S mc ms → gG p l e (rm_X9_joinWithin MC MS) s m args below meth c Q D A 9 k n (hC X S) 73 [(0, .ref t0)] [] := by
  obtain ⟨⟨hx, hb, hml, ho, hts, hK, hA⟩, hR⟩ := id C0
  intro  S mc ms k n hkn hw H locs ls hW hl
  rw [w_X9_joinWithin_73] at hw
  refine lv_aload_n hx hb dX9_joinWithin_73 rfl (lv_at hl 0 rfl) ?_
  obtain ⟨h82, hw⟩ := hw
  refine h_goi C0 hW (va_runV (As := []) (rest := []) ⟨hx, hb, hml, ho, hts⟩ (k_X9_refuseNull (l := l) (u := u) (X := X) (sz := H.size) _ t0  S  hw) (cwV 0 hts gX9_joinWithin_X9_refuseNull rfl rfl rfl (by decide +kernel) ⟨Nat.le_of_ble_eq_true rfl, Nat.le_of_ble_eq_true rfl⟩) ⟨h_blind, (h_recv C0 hW (ci := 10) rfl h82), (h_pre C0 hW [.ref t0])⟩ rfl rfl hl.1 rfl (lv_room (Nat.le_of_ble_eq_true rfl)) dX9_joinWithin_74 ⟨by show _ ≤ MC; omega, by show _ ≤ MS; omega⟩) (fun r81 S83 H locs h84 hW => ?_)
  replace hw := h84
  exact hret r81 S83 _ _ _ _ (by omega) (by omega) hw rfl dX9_joinWithin_77 _ _ _ hW hl
set_option maxHeartbeats 4000000 in
set_option maxRecDepth 100000 in
theorem t_X9_joinWithin_0 (C0 : hX p s m args c cX9_joinWithin 9 RX9 wsX9_joinWithin D (gt u.2.1) A u.1 u.2.2) (t0 : Nat) (post : Int32 → hS → Prop) (hret : ∀ (r : Int32) (S' : hS) (pc : Nat) (lv : List (Nat × Value)) (k n : Nat), k ≤ MC → n ≤ MS → post r S' → narrow .int (.int r) = .int r → decode cX9_joinWithin pc = .ok (.ireturn, 1) → gG p l e (rm_X9_joinWithin MC MS) s m args below meth c Q D A 9 k n (hC X S') pc lv [.int r])  : ∀ (z1 : Int32) (z2 : Int32) (z3 : Int32) (z4 : Int32) (S : hS) (mc ms k n : Nat), k + mc ≤ MC ∧ n + ms ≤ MS → w_X9_joinWithin u post t0  z1 z2 z3 z4 S mc ms → gG p l e (rm_X9_joinWithin MC MS) s m args below meth c Q D A 9 k n (hC X S) 0 [(0, .ref t0), (1, .int z1), (2, .int z2), (3, .int z3), (4, .int z4)] [] := by
  obtain ⟨⟨hx, hb, hml, ho, hts, hK, hA⟩, hR⟩ := id C0
  intro z1 z2 z3 z4 S mc ms k n hkn hw H locs ls hW hl
  rw [w_X9_joinWithin] at hw
  refine lv_aload_n hx hb dX9_joinWithin_0 rfl (lv_at hl 0 rfl) ?_
  refine lv_iload_n hx hb dX9_joinWithin_1 rfl (lv_at hl 2 rfl) ?_
  obtain ⟨h2, hw⟩ := hw
  refine h_goq C0 hW (va_runV (As := [.int z2]) (rest := []) ⟨hx, hb, hml, ho, hts⟩ (k_X9_slotAt (l := l) (u := u) (X := X) (sz := H.size) _ t0 z2 S  hw) (cwV 1 hts gX9_joinWithin_X9_slotAt rfl rfl rfl (by decide +kernel) ⟨Nat.le_of_ble_eq_true rfl, Nat.le_of_ble_eq_true rfl⟩) ⟨h_blind, (h_recv C0 hW (ci := 10) rfl h2), (h_pre C0 hW [.ref t0, .int z2])⟩ rfl rfl hl.1 rfl (lv_room (Nat.le_of_ble_eq_true rfl)) dX9_joinWithin_2 ⟨by show _ ≤ MC; omega, by show _ ≤ MS; omega⟩) (fun r1 S3 H locs h4 hW => ?_)
  obtain ⟨h5, hp⟩ := h4
  rw [h5] at hW
  replace hw := hp
  refine lv_astoreV (i := 5) (lv' := [(5, va_rf r1), (0, .ref t0), (1, .int z1), (2, .int z2), (3, .int z3), (4, .int z4)]) hx hb dX9_joinWithin_5 hl (by decide) rfl (fun ls hl9 => ?_)
  replace hl := hl9
  refine lv_aload_n hx hb dX9_joinWithin_7 rfl (lv_at hl 1 rfl) ?_
  refine lv_iload_n hx hb dX9_joinWithin_8 rfl (lv_at hl 4 rfl) ?_
  obtain ⟨h7, hw⟩ := hw
  refine h_goq C0 hW (va_runV (As := [.int z3]) (rest := []) ⟨hx, hb, hml, ho, hts⟩ (k_X9_slotAt (l := l) (u := u) (X := X) (sz := H.size) _ t0 z3 S  hw) (cwV 1 hts gX9_joinWithin_X9_slotAt rfl rfl rfl (by decide +kernel) ⟨Nat.le_of_ble_eq_true rfl, Nat.le_of_ble_eq_true rfl⟩) ⟨h_blind, (h_recv C0 hW (ci := 10) rfl h7), (h_pre C0 hW [.ref t0, .int z3])⟩ rfl rfl hl.1 rfl (lv_room (Nat.le_of_ble_eq_true rfl)) dX9_joinWithin_9 ⟨by show _ ≤ MC; omega, by show _ ≤ MS; omega⟩) (fun r6 S8 H locs h9 hW => ?_)
  obtain ⟨h10, hp⟩ := h9
  rw [h10] at hW
  replace hw := hp
  refine lv_astoreV (i := 6) (lv' := [(6, va_rf r6), (5, va_rf r1), (0, .ref t0), (1, .int z1), (2, .int z2), (3, .int z3), (4, .int z4)]) hx hb dX9_joinWithin_12 hl (by decide) (by show (6, va_rf r6) :: List.filter (fun q : Nat × Value => !(q.1 == 6) && !(q.1 + 1 == 6 && q.2.category == 2)) [(5, va_rf r1), (0, .ref t0), (1, .int z1), (2, .int z2), (3, .int z3), (4, .int z4)] = [(6, va_rf r6), (5, va_rf r1), (0, .ref t0), (1, .int z1), (2, .int z2), (3, .int z3), (4, .int z4)]; simp [va_rf_cat, va_c_ref, va_c_int, va_c_null]) (fun ls hl9 => ?_)
  replace hl := hl9
  refine lv_aload_n hx hb dX9_joinWithin_14 rfl (lv_at hl 2 rfl) ?_
  refine lv_iload hx hb dX9_joinWithin_15 (lv_at hl 6 rfl) ?_
  obtain ⟨h12, hw⟩ := hw
  refine h_goq C0 hW (va_runV (As := [.int z4]) (rest := []) ⟨hx, hb, hml, ho, hts⟩ (k_X9_slotAt (l := l) (u := u) (X := X) (sz := H.size) _ t0 z4 S  hw) (cwV 1 hts gX9_joinWithin_X9_slotAt rfl rfl rfl (by decide +kernel) ⟨Nat.le_of_ble_eq_true rfl, Nat.le_of_ble_eq_true rfl⟩) ⟨h_blind, (h_recv C0 hW (ci := 10) rfl h12), (h_pre C0 hW [.ref t0, .int z4])⟩ rfl rfl hl.1 rfl (lv_room (Nat.le_of_ble_eq_true rfl)) dX9_joinWithin_17 ⟨by show _ ≤ MC; omega, by show _ ≤ MS; omega⟩) (fun r11 S13 H locs h14 hW => ?_)
  obtain ⟨h15, hp⟩ := h14
  rw [h15] at hW
  replace hw := hp
  refine lv_astoreV (i := 7) (lv' := [(7, va_rf r11), (6, va_rf r6), (5, va_rf r1), (0, .ref t0), (1, .int z1), (2, .int z2), (3, .int z3), (4, .int z4)]) hx hb dX9_joinWithin_20 hl (by decide) (by show (7, va_rf r11) :: List.filter (fun q : Nat × Value => !(q.1 == 7) && !(q.1 + 1 == 7 && q.2.category == 2)) [(6, va_rf r6), (5, va_rf r1), (0, .ref t0), (1, .int z1), (2, .int z2), (3, .int z3), (4, .int z4)] = [(7, va_rf r11), (6, va_rf r6), (5, va_rf r1), (0, .ref t0), (1, .int z1), (2, .int z2), (3, .int z3), (4, .int z4)]; simp [va_rf_cat, va_c_ref, va_c_int, va_c_null]) (fun ls hl9 => ?_)
  replace hl := hl9
  refine lv_iload_n hx hb dX9_joinWithin_22 rfl (lv_at hl 4 rfl) ?_
  refine lv_iconst (v := 3) hx hb dX9_joinWithin_23 (by decide) ?_
  refine g_calls (As := [.int z1, .int 3]) (rest := []) ⟨hx, hb, hml, ho, hts⟩ hl.1 (k_X9_isWithin (l := l) _ z1 3 hw) (va_cwS 2 hts gX9_joinWithin_X9_isWithin rfl rfl rfl (by decide +kernel) ⟨Nat.le_of_ble_eq_true rfl, Nat.le_of_ble_eq_true rfl⟩) (Nat.le_of_ble_eq_true rfl) dX9_joinWithin_24 rfl ⟨by show _ ≤ MC; omega, by show _ ≤ MS; omega⟩ (fun r16 hp => ?_)
  replace hw := hp
  refine lv_if_ne (tgt := 32) hx hb dX9_joinWithin_27 (by decide) (fun c17 => ?_) (fun c17 => ?_)
  · replace hw := hw.1 c17
    refine lv_aloadV hx hb dX9_joinWithin_32 (lv_at hl 2 rfl) ?_
    refine lv_ifnullV (tgt := 47) hx hb dX9_joinWithin_34 (by decide) (fun c18 => ?_) (fun a19 c18 => ?_)
    · subst c18
      replace hw := hw.1 rfl
      refine lv_iconst (v := (-1)) hx hb dX9_joinWithin_47 (by decide) ?_
      exact hret (-1) S _ _ _ _ (by omega) (by omega) hw rfl dX9_joinWithin_48 _ _ _ hW hl
    · subst c18
      replace hw := hw.2 a19 rfl
      refine lv_aloadV hx hb dX9_joinWithin_37 (lv_at hl 1 rfl) ?_
      refine lv_ifnullV (tgt := 47) hx hb dX9_joinWithin_39 (by decide) (fun c20 => ?_) (fun a21 c20 => ?_)
      · subst c20
        replace hw := hw.1 rfl
        refine lv_iconst (v := (-1)) hx hb dX9_joinWithin_47 (by decide) ?_
        exact hret (-1) S _ _ _ _ (by omega) (by omega) hw rfl dX9_joinWithin_48 _ _ _ hW hl
      · subst c20
        replace hw := hw.2 a21 rfl
        refine lv_aloadV hx hb dX9_joinWithin_42 (lv_at hl 0 rfl) ?_
        refine lv_ifnonnullV (tgt := 49) hx hb dX9_joinWithin_44 (by decide) (fun a23 c22 => ?_) (fun c22 => ?_)
        · subst c22
          replace hw := hw.2 a23 rfl
          refine lv_aload hx hb dX9_joinWithin_49 (lv_at hl 2 rfl) ?_
          obtain ⟨o24, h25, hw⟩ := hw
          refine h_getRN C0 hW (host := RX9) (T := TX6) (kf := 0) in_X9_joinWithin_RX6 h25 rfl (by decide) (by decide +kernel) rfl dX9_joinWithin_51 ?_
          refine lv_ifnullV (tgt := 73) hx hb dX9_joinWithin_54 (by decide) (fun c26 => ?_) (fun a27 c26 => ?_)
          · subst c26
            replace hw := hw.1 rfl
            exact t_X9_joinWithin_73 C0 t0 post hret   S mc ms _ _ hkn hw _ _ _ hW (lv_sub hl [3] rfl)
          · subst c26
            replace hw := hw.2 a27 rfl
            refine lv_aload hx hb dX9_joinWithin_57 (lv_at hl 1 rfl) ?_
            obtain ⟨o28, h29, hw⟩ := hw
            refine h_getRN C0 hW (host := RX9) (T := TX6) (kf := 0) in_X9_joinWithin_RX6 h29 rfl (by decide) (by decide +kernel) rfl dX9_joinWithin_59 ?_
            refine lv_ifnullV (tgt := 73) hx hb dX9_joinWithin_62 (by decide) (fun c30 => ?_) (fun a31 c30 => ?_)
            · subst c30
              replace hw := hw.1 rfl
              exact t_X9_joinWithin_73 C0 t0 post hret   S mc ms _ _ hkn hw _ _ _ hW (lv_sub hl [3] rfl)
            · subst c30
              replace hw := hw.2 a31 rfl
              refine lv_aload hx hb dX9_joinWithin_65 (lv_at hl 0 rfl) ?_
              obtain ⟨o32, h33, hw⟩ := hw
              refine h_getRN C0 hW (host := RX9) (T := TX6) (kf := 0) in_X9_joinWithin_RX6 h33 rfl (by decide) (by decide +kernel) rfl dX9_joinWithin_67 ?_
              refine lv_ifnonnullV (tgt := 78) hx hb dX9_joinWithin_70 (by decide) (fun a35 c34 => ?_) (fun c34 => ?_)
              · subst c34
                replace hw := hw.2 a35 rfl
                refine lv_aload hx hb dX9_joinWithin_78 (lv_at hl 1 rfl) ?_
                obtain ⟨o36, h37, hw⟩ := hw
                refine h_getRN C0 hW (host := RX9) (T := TX6) (kf := 0) in_X9_joinWithin_RX6 h37 rfl (by decide) (by decide +kernel) rfl dX9_joinWithin_80 ?_
                obtain ⟨a38, rfl, hw⟩ := hw
                obtain ⟨h40, hw⟩ := hw
                refine h_goi C0 hW (va_runV (As := []) (rest := []) ⟨hx, hb, hml, ho, hts⟩ (k_J0_length_8a (l := l) (u := u) (X := X) (sz := H.size) _ a38  S  hw) (cwV 0 hts gX9_joinWithin_J0_length_8abf5 rfl rfl rfl (by decide +kernel) ⟨Nat.le_of_ble_eq_true rfl, Nat.le_of_ble_eq_true rfl⟩) ⟨h_blind, (h_recvS C0 hW h40), (h_pre C0 hW [.ref a38])⟩ rfl rfl hl.1 rfl (lv_room (Nat.le_of_ble_eq_true rfl)) dX9_joinWithin_83 ⟨by show _ ≤ MC; omega, by show _ ≤ MS; omega⟩) (fun r39 S41 H locs h42 hW => ?_)
                obtain ⟨h43, hp⟩ := h42
                rw [h43] at hW
                replace hw := hp
                refine lv_aload hx hb dX9_joinWithin_86 (lv_at hl 0 rfl) ?_
                obtain ⟨o44, h45, hw⟩ := hw
                refine h_getRN C0 hW (host := RX9) (T := TX6) (kf := 0) in_X9_joinWithin_RX6 h45 rfl (by decide) (by decide +kernel) rfl dX9_joinWithin_88 ?_
                obtain ⟨a46, rfl, hw⟩ := hw
                obtain ⟨h48, hw⟩ := hw
                refine h_goi C0 hW (va_runV (As := []) (rest := [.int r39]) ⟨hx, hb, hml, ho, hts⟩ (k_J0_length_8a (l := l) (u := u) (X := X) (sz := H.size) _ a46  S  hw) (cwV 0 hts gX9_joinWithin_J0_length_8abf5 rfl rfl rfl (by decide +kernel) ⟨Nat.le_of_ble_eq_true rfl, Nat.le_of_ble_eq_true rfl⟩) ⟨h_blind, (h_recvS C0 hW h48), (h_pre C0 hW [.ref a46])⟩ rfl rfl hl.1 rfl (lv_room (Nat.le_of_ble_eq_true rfl)) dX9_joinWithin_91 ⟨by show _ ≤ MC; omega, by show _ ≤ MS; omega⟩) (fun r47 S49 H locs h50 hW => ?_)
                obtain ⟨h51, hp⟩ := h50
                rw [h51] at hW
                replace hw := hp
                refine lv_iadd hx hb dX9_joinWithin_94 ?_
                refine lv_sipush (v := 300) hx hb dX9_joinWithin_95 (by decide) ?_
                refine lv_icmp_le (tgt := 104) hx hb dX9_joinWithin_98 (by decide) (fun c52 => ?_) (fun c52 => ?_)
                · replace hw := hw.1 c52
                  obtain ⟨h56, h57, hw⟩ := hw
                  refine h_new C0 hW (ci := 3) (fs := [.null, .null, .null, .null, .null]) in_X9_joinWithin_RX2 rfl tyX2 tyX2_ok (List.mem_of_getElem? (i := 1) rfl) (List.mem_of_getElem? (i := 2) rfl) (List.mem_of_getElem? (i := 3) rfl) (fun j hj => by rcases (show j = 0 ∨ j = 1 ∨ j = 2 ∨ j = 3 ∨ j = 4 by omega) with rfl | rfl | rfl | rfl | rfl <;> rfl) (by show _ ≤ MC; omega) (by show _ ≤ MS; omega) dX9_joinWithin_104 (fun q53 H h54 hW => ?_)
                  obtain ⟨S55, eS55⟩ : ∃ z : hS, z = adS S q53 (.inr (3, [.null, .null, .null, .null, .null])) := ⟨_, rfl⟩
                  rw [← eS55] at hW
                  replace hw := hw q53 S55 h54 eS55
                  have hkn : (k + 1) + (mc - 1) ≤ MC ∧ (n + 5) + (ms - 5) ≤ MS := by omega
                  refine lv_dup hx hb dX9_joinWithin_107 rfl ?_
                  refine lv_aload hx hb dX9_joinWithin_108 (lv_at hl 2 rfl) ?_
                  obtain ⟨o58, h59, hw⟩ := hw
                  refine h_getRN C0 hW (host := RX9) (T := TX6) (kf := 0) in_X9_joinWithin_RX6 h59 rfl (by decide) (by decide +kernel) rfl dX9_joinWithin_110 ?_
                  refine lv_aload hx hb dX9_joinWithin_113 (lv_at hl 1 rfl) ?_
                  obtain ⟨o60, h61, hw⟩ := hw
                  refine h_getRN C0 hW (host := RX9) (T := TX6) (kf := 0) in_X9_joinWithin_RX6 h61 rfl (by decide) (by decide +kernel) rfl dX9_joinWithin_115 ?_
                  refine lv_aload hx hb dX9_joinWithin_118 (lv_at hl 0 rfl) ?_
                  obtain ⟨o62, h63, hw⟩ := hw
                  refine h_getRN C0 hW (host := RX9) (T := TX6) (kf := 0) in_X9_joinWithin_RX6 h63 rfl (by decide) (by decide +kernel) rfl dX9_joinWithin_120 ?_
                  refine h_gov C0 hW (va_runI (As := [va_rf o58, va_rf o60, va_rf o62]) (rest := [.ref q53]) ⟨hx, hb, hml, ho, hts⟩ (k_X2_init (l := l) (u := u) (X := X) (sz := H.size) _ q53 o58 o60 o62 S55  hw) (cwI 3 hts gX9_joinWithin_X2_init rfl rfl rfl (hts _ (List.mem_of_getElem? (i := 3) rfl)) (hts _ (List.mem_of_getElem? (i := 31) rfl)) (hts _ (List.mem_of_getElem? (i := 32) rfl)) rfl (by decide +kernel) ⟨Nat.le_of_ble_eq_true rfl, Nat.le_of_ble_eq_true rfl⟩) ⟨h_blind, (h_pre C0 hW [.ref q53, va_rf o58, va_rf o60, va_rf o62])⟩ rfl rfl hl.1 rfl (lv_room (Nat.le_of_ble_eq_true rfl)) dX9_joinWithin_123 ⟨by show _ ≤ MC; omega, by show _ ≤ MS; omega⟩) (fun S65 H locs h66 hW => ?_)
                  replace hw := h66
                  refine lv_astore (i := 8) (lv' := [(8, .ref q53), (7, .ref a23), (6, .ref a21), (5, .ref a19), (0, .ref t0), (1, .int z1), (2, .int z2), (3, .int z3), (4, .int z4)]) hx hb dX9_joinWithin_126 hl (by decide) rfl (fun ls hl9 => ?_)
                  replace hl := hl9
                  refine lv_aload_n hx hb dX9_joinWithin_128 rfl (lv_at hl 4 rfl) ?_
                  obtain ⟨o67, h68, hw⟩ := hw
                  refine h_getR C0 hW (T := TX9) (kf := 6) in_X9_joinWithin_RX9 h68 rfl (by decide) (List.mem_of_getElem? (i := 4) rfl) rfl dX9_joinWithin_129 ?_
                  refine lv_iload_n hx hb dX9_joinWithin_132 rfl (lv_at hl 5 rfl) ?_
                  refine lv_aload hx hb dX9_joinWithin_133 (lv_at hl 0 rfl) ?_
                  obtain ⟨a69, rfl, hw⟩ := hw
                  obtain ⟨N70, g71, h72, h73, h75, hw⟩ := hw
                  refine h_qast C0 hW 7 3 h72 rfl h75 rfl h73 dX9_joinWithin_135 (fun H locs hW => ?_)
                  obtain ⟨S74, eS74⟩ : ∃ z : hS, z = upS S65 a69 (.inl (u.2.1 7, N70, .inr (.inr (.inr (.inr (va_up g71 (z1 : Int32).toNatClampNeg (some q53))))))) := ⟨_, rfl⟩
                  rw [← eS74] at hW
                  replace hw := hw S74 eS74
                  refine lv_aload hx hb dX9_joinWithin_136 (lv_at hl 0 rfl) ?_
                  obtain ⟨h77, hw⟩ := hw
                  refine h_goi C0 hW (va_runV (As := []) (rest := []) ⟨hx, hb, hml, ho, hts⟩ (k_X2_resultLength (l := l) (u := u) (X := X) (sz := H.size) _ q53  S74  hw) (cwV 0 hts gX9_joinWithin_X2_resultLength rfl rfl rfl (by decide +kernel) ⟨Nat.le_of_ble_eq_true rfl, Nat.le_of_ble_eq_true rfl⟩) ⟨h_blind, (h_recv C0 hW (ci := 3) rfl h77), (h_pre C0 hW [.ref q53])⟩ rfl rfl hl.1 rfl (lv_room (Nat.le_of_ble_eq_true rfl)) dX9_joinWithin_138 ⟨by show _ ≤ MC; omega, by show _ ≤ MS; omega⟩) (fun r76 S78 H locs h79 hW => ?_)
                  obtain ⟨h80, hp⟩ := h79
                  rw [h80] at hW
                  replace hw := hp
                  exact hret r76 S74 _ _ _ _ (by omega) (by omega) hw rfl dX9_joinWithin_141 _ _ _ hW hl
                · replace hw := hw.2 c52
                  refine lv_bipush (v := (-3)) hx hb dX9_joinWithin_101 (by decide) ?_
                  exact hret (-3) S _ _ _ _ (by omega) (by omega) hw rfl dX9_joinWithin_103 _ _ _ hW hl
              · subst c34
                replace hw := hw.1 rfl
                exact t_X9_joinWithin_73 C0 t0 post hret   S mc ms _ _ hkn hw _ _ _ hW (lv_sub hl [3] rfl)
        · subst c22
          replace hw := hw.1 rfl
          refine lv_iconst (v := (-1)) hx hb dX9_joinWithin_47 (by decide) ?_
          exact hret (-1) S _ _ _ _ (by omega) (by omega) hw rfl dX9_joinWithin_48 _ _ _ hW hl
  · replace hw := hw.2 c17
    refine lv_iconst (v := (-1)) hx hb dX9_joinWithin_30 (by decide) ?_
    exact hret (-1) S _ _ _ _ (by omega) (by omega) hw rfl dX9_joinWithin_31 _ _ _ hW hl
set_option maxHeartbeats 4000000 in
set_option maxRecDepth 100000 in
theorem k_X9_joinWithin {l : Launch} {D : va_G} {u : hU} {X : va_W} {sz : Nat} (post : Int32 → hS → Prop) (t0 : Nat) (z1 : Int32) (z2 : Int32) (z3 : Int32) (z4 : Int32) (S : hS) (mc ms : Nat) (hw : w_X9_joinWithin u post t0 z1 z2 z3 z4 S mc ms) : hMi l yX9_joinWithin wsX9_joinWithin (rm_X9_joinWithin mc ms) D (gt u.2.1) u.1 u.2.2 sz X S [.ref t0, .int z1, .int z2, .int z3, .int z4] post mc ms := by
  refine hMi_of (cc := cX9_joinWithin) (nL := 9) (ty := .int) (own := RX9) (by decide) rfl rfl (Nat.le_of_ble_eq_true rfl) ?_
  intro p e s m args below meth c A Q C0 hin hret
  exact t_X9_joinWithin_0 C0 t0 post hret z1 z2 z3 z4 S mc ms 0 0 ⟨by omega, by omega⟩ hw
abbrev rm_X9_addTo (MC MS : Nat) : Room := { frames := 8, cells := MC, slots := MS, locals := 176 }
set_option maxHeartbeats 4000000 in
set_option maxRecDepth 100000 in
theorem t_X9_addTo_0 (C0 : hX p s m args c cX9_addTo 2 RX9 wsX9_addTo D (gt u.2.1) A u.1 u.2.2)  (post : Int32 → hS → Prop) (hret : ∀ (r : Int32) (S' : hS) (pc : Nat) (lv : List (Nat × Value)) (k n : Nat), k ≤ MC → n ≤ MS → post r S' → narrow .int (.int r) = .int r → decode cX9_addTo pc = .ok (.ireturn, 1) → gG p l e (rm_X9_addTo MC MS) s m args below meth c Q D A 2 k n (hC X S') pc lv [.int r])  : ∀ (p1 : Option Nat) (p2 : Option Nat) (S : hS) (mc ms k n : Nat), k + mc ≤ MC ∧ n + ms ≤ MS → w_X9_addTo u post   p1 p2 S mc ms → gG p l e (rm_X9_addTo MC MS) s m args below meth c Q D A 2 k n (hC X S) 0 [(0, va_rf p1), (1, va_rf p2)] [] := by
  obtain ⟨⟨hx, hb, hml, ho, hts, hK, hA⟩, hR⟩ := id C0
  intro p1 p2 S mc ms k n hkn hw H locs ls hW hl
  rw [w_X9_addTo] at hw
  refine lv_aloadV_n hx hb dX9_addTo_0 rfl (lv_at hl 0 rfl) ?_
  refine lv_aloadV_n hx hb dX9_addTo_1 rfl (lv_at hl 1 rfl) ?_
  obtain ⟨a1, rfl, hw⟩ := hw
  obtain ⟨h3, hw⟩ := hw
  refine h_goi C0 hW (va_runV (As := [va_rf p2]) (rest := []) ⟨hx, hb, hml, ho, hts⟩ (k_X2_lengthWith (l := l) (u := u) (X := X) (sz := H.size) _ a1 p2 S  hw) (cwV 1 hts gX9_addTo_X2_lengthWith rfl rfl rfl (by decide +kernel) ⟨Nat.le_of_ble_eq_true rfl, Nat.le_of_ble_eq_true rfl⟩) ⟨h_blind, (h_recv C0 hW (ci := 3) rfl h3), (h_pre C0 hW [.ref a1, va_rf p2])⟩ rfl rfl hl.1 rfl (lv_room (Nat.le_of_ble_eq_true rfl)) dX9_addTo_2 ⟨by show _ ≤ MC; omega, by show _ ≤ MS; omega⟩) (fun r2 S4 H locs h5 hW => ?_)
  obtain ⟨h6, hp⟩ := h5
  rw [h6] at hW
  replace hw := hp
  refine lv_sipush (v := 300) hx hb dX9_addTo_5 (by decide) ?_
  refine lv_icmp_le (tgt := 14) hx hb dX9_addTo_8 (by decide) (fun c7 => ?_) (fun c7 => ?_)
  · replace hw := hw.1 c7
    refine lv_aload_n hx hb dX9_addTo_14 rfl (lv_at hl 0 rfl) ?_
    refine lv_aloadV_n hx hb dX9_addTo_15 rfl (lv_at hl 1 rfl) ?_
    obtain ⟨h13, k9, n10, h11, h12, hw⟩ := hw
    refine h_gov C0 hW (va_runV (As := [va_rf p2]) (rest := []) ⟨hx, hb, hml, ho, hts⟩ (k_X2_addElement (l := l) (u := u) (X := X) (sz := H.size) _ a1 p2 S k9 n10 hw) (cwV 1 hts gX9_addTo_X2_addElement rfl rfl rfl (by decide +kernel) ⟨Nat.le_of_ble_eq_true rfl, Nat.le_of_ble_eq_true rfl⟩) ⟨h_blind, (h_recv C0 hW (ci := 3) rfl h13), (h_pre C0 hW [.ref a1, va_rf p2])⟩ rfl rfl hl.1 rfl (lv_room (Nat.le_of_ble_eq_true rfl)) dX9_addTo_16 ⟨by show _ ≤ MC; omega, by show _ ≤ MS; omega⟩) (fun S14 H locs h15 hW => ?_)
    replace hw := h15
    have hkn : (k + k9) + (mc - k9) ≤ MC ∧ (n + n10) + (ms - n10) ≤ MS := by omega
    refine lv_aload_n hx hb dX9_addTo_19 rfl (lv_at hl 0 rfl) ?_
    obtain ⟨h17, hw⟩ := hw
    refine h_goi C0 hW (va_runV (As := []) (rest := []) ⟨hx, hb, hml, ho, hts⟩ (k_X2_resultLength (l := l) (u := u) (X := X) (sz := H.size) _ a1  S14  hw) (cwV 0 hts gX9_addTo_X2_resultLength rfl rfl rfl (by decide +kernel) ⟨Nat.le_of_ble_eq_true rfl, Nat.le_of_ble_eq_true rfl⟩) ⟨h_blind, (h_recv C0 hW (ci := 3) rfl h17), (h_pre C0 hW [.ref a1])⟩ rfl rfl hl.1 rfl (lv_room (Nat.le_of_ble_eq_true rfl)) dX9_addTo_20 ⟨by show _ ≤ MC; omega, by show _ ≤ MS; omega⟩) (fun r16 S18 H locs h19 hW => ?_)
    obtain ⟨h20, hp⟩ := h19
    rw [h20] at hW
    replace hw := hp
    exact hret r16 S14 _ _ _ _ (by omega) (by omega) hw rfl dX9_addTo_23 _ _ _ hW hl
  · replace hw := hw.2 c7
    refine lv_bipush (v := (-3)) hx hb dX9_addTo_11 (by decide) ?_
    exact hret (-3) S _ _ _ _ (by omega) (by omega) hw rfl dX9_addTo_13 _ _ _ hW hl
set_option maxHeartbeats 4000000 in
set_option maxRecDepth 100000 in
theorem k_X9_addTo {l : Launch} {D : va_G} {u : hU} {X : va_W} {sz : Nat} (post : Int32 → hS → Prop) (p1 : Option Nat) (p2 : Option Nat) (S : hS) (mc ms : Nat) (hw : w_X9_addTo u post  p1 p2 S mc ms) : hMi l yX9_addTo wsX9_addTo (rm_X9_addTo mc ms) D (gt u.2.1) u.1 u.2.2 sz X S [va_rf p1, va_rf p2] post mc ms := by
  refine hMi_of (cc := cX9_addTo) (nL := 2) (ty := .int) (own := RX9) (by decide) rfl rfl (by cases p1 <;> cases p2 <;> exact Nat.le_of_ble_eq_true rfl) ?_
  intro p e s m args below meth c A Q C0 hin hret
  have hfin := t_X9_addTo_0 C0  post hret p1 p2 S mc ms 0 0 ⟨by omega, by omega⟩ hw
  intro H locs ls hW hl
  refine hfin H locs ls hW ?_
  cases p1 <;> cases p2 <;> exact hl
abbrev rm_X9_add (MC MS : Nat) : Room := { frames := 9, cells := MC, slots := MS, locals := 197 }
theorem in_X9_add_RX6 : ∀ w ∈ wsX60, w ∈ wsX9_add := fun w hw9 => List.mem_cons_of_mem _ (List.mem_append_left _ (List.mem_append_left _ (List.mem_append_left _ (List.mem_append_right _ hw9))))
theorem in_X9_add_RX9 : ∀ w ∈ wsX90, w ∈ wsX9_add := fun w hw9 => List.mem_cons_of_mem _ (List.mem_append_left _ (List.mem_append_left _ (List.mem_append_left _ (List.mem_append_left _ (List.mem_append_right _ hw9)))))
set_option maxHeartbeats 4000000 in
set_option maxRecDepth 100000 in
theorem t_X9_add_54 (C0 : hX p s m args c cX9_add 5 RX9 wsX9_add D (gt u.2.1) A u.1 u.2.2) (t0 : Nat) (post : Int32 → hS → Prop) (hret : ∀ (r : Int32) (S' : hS) (pc : Nat) (lv : List (Nat × Value)) (k n : Nat), k ≤ MC → n ≤ MS → post r S' → narrow .int (.int r) = .int r → decode cX9_add pc = .ok (.ireturn, 1) → gG p l e (rm_X9_add MC MS) s m args below meth c Q D A 5 k n (hC X S') pc lv [.int r])  : ∀ (s0 : Option Nat) (s1 : Nat) (S : hS) (mc ms k n : Nat), k + mc ≤ MC ∧ n + ms ≤ MS → w_X9_add_54 u post t0  s0 s1 S mc ms → gG p l e (rm_X9_add MC MS) s m args below meth c Q D A 5 k n (hC X S) 54 [(0, .ref t0)] [va_rf s0, .ref s1] := by
  obtain ⟨⟨hx, hb, hml, ho, hts, hK, hA⟩, hR⟩ := id C0
  intro s0 s1 S mc ms k n hkn hw H locs ls hW hl
  rw [w_X9_add_54] at hw
  obtain ⟨k27, n28, h29, h30, hw⟩ := hw
  refine h_goi C0 hW (va_runS (As := [.ref s1, va_rf s0]) (rest := []) ⟨hx, hb, hml, ho, hts⟩ (k_X9_addTo (l := l) (u := u) (X := X) (sz := H.size) _ (some s1) s0 S k27 n28 hw) (va_cwS 2 hts gX9_add_X9_addTo rfl rfl rfl (by decide +kernel) ⟨Nat.le_of_ble_eq_true rfl, Nat.le_of_ble_eq_true rfl⟩) ⟨h_blind, (h_pre C0 hW [.ref s1, va_rf s0])⟩ rfl rfl hl.1 rfl (lv_room (Nat.le_of_ble_eq_true rfl)) dX9_add_54 ⟨by show _ ≤ MC; omega, by show _ ≤ MS; omega⟩) (fun r26 S31 H locs h32 hW => ?_)
  replace hw := h32
  have hkn : (k + k27) + (mc - k27) ≤ MC ∧ (n + n28) + (ms - n28) ≤ MS := by omega
  exact hret r26 S31 _ _ _ _ (by omega) (by omega) hw rfl dX9_add_57 _ _ _ hW hl
set_option maxHeartbeats 4000000 in
set_option maxRecDepth 100000 in
theorem t_X9_add_0 (C0 : hX p s m args c cX9_add 5 RX9 wsX9_add D (gt u.2.1) A u.1 u.2.2) (t0 : Nat) (post : Int32 → hS → Prop) (hret : ∀ (r : Int32) (S' : hS) (pc : Nat) (lv : List (Nat × Value)) (k n : Nat), k ≤ MC → n ≤ MS → post r S' → narrow .int (.int r) = .int r → decode cX9_add pc = .ok (.ireturn, 1) → gG p l e (rm_X9_add MC MS) s m args below meth c Q D A 5 k n (hC X S') pc lv [.int r])  : ∀ (z1 : Int32) (z2 : Int32) (S : hS) (mc ms k n : Nat), k + mc ≤ MC ∧ n + ms ≤ MS → w_X9_add u post t0  z1 z2 S mc ms → gG p l e (rm_X9_add MC MS) s m args below meth c Q D A 5 k n (hC X S) 0 [(0, .ref t0), (1, .int z1), (2, .int z2)] [] := by
  obtain ⟨⟨hx, hb, hml, ho, hts, hK, hA⟩, hR⟩ := id C0
  intro z1 z2 S mc ms k n hkn hw H locs ls hW hl
  rw [w_X9_add] at hw
  refine lv_aload_n hx hb dX9_add_0 rfl (lv_at hl 0 rfl) ?_
  refine lv_iload_n hx hb dX9_add_1 rfl (lv_at hl 2 rfl) ?_
  obtain ⟨h2, hw⟩ := hw
  refine h_goq C0 hW (va_runV (As := [.int z2]) (rest := []) ⟨hx, hb, hml, ho, hts⟩ (k_X9_slotAt (l := l) (u := u) (X := X) (sz := H.size) _ t0 z2 S  hw) (cwV 1 hts gX9_add_X9_slotAt rfl rfl rfl (by decide +kernel) ⟨Nat.le_of_ble_eq_true rfl, Nat.le_of_ble_eq_true rfl⟩) ⟨h_blind, (h_recv C0 hW (ci := 10) rfl h2), (h_pre C0 hW [.ref t0, .int z2])⟩ rfl rfl hl.1 rfl (lv_room (Nat.le_of_ble_eq_true rfl)) dX9_add_2 ⟨by show _ ≤ MC; omega, by show _ ≤ MS; omega⟩) (fun r1 S3 H locs h4 hW => ?_)
  obtain ⟨h5, hp⟩ := h4
  rw [h5] at hW
  replace hw := hp
  refine lv_astoreV_n (i := 3) (lv' := [(3, va_rf r1), (0, .ref t0), (1, .int z1), (2, .int z2)]) hx hb dX9_add_5 rfl hl (by decide) rfl (fun ls hl9 => ?_)
  replace hl := hl9
  refine lv_iload_n hx hb dX9_add_6 rfl (lv_at hl 2 rfl) ?_
  refine lv_iconst (v := 3) hx hb dX9_add_7 (by decide) ?_
  refine g_calls (As := [.int z1, .int 3]) (rest := []) ⟨hx, hb, hml, ho, hts⟩ hl.1 (k_X9_isWithin (l := l) _ z1 3 hw) (va_cwS 2 hts gX9_add_X9_isWithin rfl rfl rfl (by decide +kernel) ⟨Nat.le_of_ble_eq_true rfl, Nat.le_of_ble_eq_true rfl⟩) (Nat.le_of_ble_eq_true rfl) dX9_add_8 rfl ⟨by show _ ≤ MC; omega, by show _ ≤ MS; omega⟩ (fun r6 hp => ?_)
  replace hw := hp
  refine lv_if_eq (tgt := 18) hx hb dX9_add_11 (by decide) (fun c7 => ?_) (fun c7 => ?_)
  · replace hw := hw.1 c7
    refine lv_iconst (v := (-1)) hx hb dX9_add_18 (by decide) ?_
    exact hret (-1) S _ _ _ _ (by omega) (by omega) hw rfl dX9_add_19 _ _ _ hW hl
  · replace hw := hw.2 c7
    refine lv_aloadV_n hx hb dX9_add_14 rfl (lv_at hl 0 rfl) ?_
    refine lv_ifnonnullV (tgt := 20) hx hb dX9_add_15 (by decide) (fun a9 c8 => ?_) (fun c8 => ?_)
    · subst c8
      replace hw := hw.2 a9 rfl
      refine lv_aload_n hx hb dX9_add_20 rfl (lv_at hl 1 rfl) ?_
      obtain ⟨o10, h11, hw⟩ := hw
      refine h_getR C0 hW (T := TX9) (kf := 6) in_X9_add_RX9 h11 rfl (by decide) (List.mem_of_getElem? (i := 1) rfl) rfl dX9_add_21 ?_
      refine lv_iload_n hx hb dX9_add_24 rfl (lv_at hl 2 rfl) ?_
      obtain ⟨a12, rfl, hw⟩ := hw
      obtain ⟨N13, g14, h15, h16, hw⟩ := hw
      refine h_qald C0 hW 7 h15 rfl h16 dX9_add_25 (fun o17 eo17 => ?_)
      replace hw := hw o17 eo17
      refine lv_astoreV (i := 4) (lv' := [(4, va_rf o17), (3, .ref a9), (0, .ref t0), (1, .int z1), (2, .int z2)]) hx hb dX9_add_26 hl (by decide) rfl (fun ls hl9 => ?_)
      replace hl := hl9
      refine lv_aloadV hx hb dX9_add_28 (lv_at hl 0 rfl) ?_
      refine lv_ifnonnullV (tgt := 36) hx hb dX9_add_30 (by decide) (fun a19 c18 => ?_) (fun c18 => ?_)
      · subst c18
        replace hw := hw.2 a19 rfl
        refine lv_aload hx hb dX9_add_36 (lv_at hl 0 rfl) ?_
        refine lv_aload_n hx hb dX9_add_38 rfl (lv_at hl 1 rfl) ?_
        obtain ⟨o20, h21, hw⟩ := hw
        refine h_getRN C0 hW (host := RX9) (T := TX6) (kf := 0) in_X9_add_RX6 h21 rfl (by decide) (by decide +kernel) rfl dX9_add_39 ?_
        refine lv_ifnonnullV (tgt := 50) hx hb dX9_add_42 (by decide) (fun a23 c22 => ?_) (fun c22 => ?_)
        · subst c22
          replace hw := hw.2 a23 rfl
          refine lv_aload_n hx hb dX9_add_50 rfl (lv_at hl 1 rfl) ?_
          obtain ⟨o24, h25, hw⟩ := hw
          refine h_getRN C0 hW (host := RX9) (T := TX6) (kf := 0) in_X9_add_RX6 h25 rfl (by decide) (by decide +kernel) rfl dX9_add_51 ?_
          exact t_X9_add_54 C0 t0 post hret  o24 a19 S mc ms _ _ hkn hw _ _ _ hW (lv_sub hl [2] rfl)
        · subst c22
          replace hw := hw.1 rfl
          refine va_ldcS hx hb ho C0.2.2.2.1.2.2.2.2.2 dX9_add_45 ?_
          refine lv_goto (tgt := 54) hx hb dX9_add_47 (by decide) ?_
          exact t_X9_add_54 C0 t0 post hret  (some (u.1 3).1) a19 S mc ms _ _ hkn hw _ _ _ hW (lv_sub hl [2] rfl)
      · subst c18
        replace hw := hw.1 rfl
        refine lv_bipush (v := (-4)) hx hb dX9_add_33 (by decide) ?_
        exact hret (-4) S _ _ _ _ (by omega) (by omega) hw rfl dX9_add_35 _ _ _ hW hl
    · subst c8
      replace hw := hw.1 rfl
      refine lv_iconst (v := (-1)) hx hb dX9_add_18 (by decide) ?_
      exact hret (-1) S _ _ _ _ (by omega) (by omega) hw rfl dX9_add_19 _ _ _ hW hl
set_option maxHeartbeats 4000000 in
set_option maxRecDepth 100000 in
theorem k_X9_add {l : Launch} {D : va_G} {u : hU} {X : va_W} {sz : Nat} (post : Int32 → hS → Prop) (t0 : Nat) (z1 : Int32) (z2 : Int32) (S : hS) (mc ms : Nat) (hw : w_X9_add u post t0 z1 z2 S mc ms) : hMi l yX9_add wsX9_add (rm_X9_add mc ms) D (gt u.2.1) u.1 u.2.2 sz X S [.ref t0, .int z1, .int z2] post mc ms := by
  refine hMi_of (cc := cX9_add) (nL := 5) (ty := .int) (own := RX9) (by decide) rfl rfl (Nat.le_of_ble_eq_true rfl) ?_
  intro p e s m args below meth c A Q C0 hin hret
  exact t_X9_add_0 C0 t0 post hret z1 z2 S mc ms 0 0 ⟨by omega, by omega⟩ hw
abbrev rm_X9_ifEmpty : Room := { frames := 3, cells := 0, slots := 0, locals := 60 }
theorem in_X9_ifEmpty_RX2 : ∀ w ∈ wsX20, w ∈ wsX9_ifEmpty := fun w hw9 => List.mem_cons_of_mem _ (List.mem_append_left _ (List.mem_append_right _ hw9))
theorem in_X9_ifEmpty_RX6 : ∀ w ∈ wsX60, w ∈ wsX9_ifEmpty := fun w hw9 => List.mem_cons_of_mem _ (List.mem_append_left _ (List.mem_append_left _ (List.mem_append_right _ hw9)))
theorem in_X9_ifEmpty_RX9 : ∀ w ∈ wsX90, w ∈ wsX9_ifEmpty := fun w hw9 => List.mem_cons_of_mem _ (List.mem_append_left _ (List.mem_append_left _ (List.mem_append_left _ (List.mem_append_right _ hw9))))
set_option maxHeartbeats 4000000 in
set_option maxRecDepth 100000 in
theorem t_X9_ifEmpty_0 (C0 : hX p s m args c cX9_ifEmpty 5 RX9 wsX9_ifEmpty D (gt u.2.1) A u.1 u.2.2) (t0 : Nat) (post : Int32 → hS → Prop) (hret : ∀ (r : Int32) (S' : hS) (pc : Nat) (lv : List (Nat × Value)) (k n : Nat), k ≤ 0 → n ≤ 0 → post r S' → narrow .int (.int r) = .int r → decode cX9_ifEmpty pc = .ok (.ireturn, 1) → gG p l e (rm_X9_ifEmpty) s m args below meth c Q D A 5 k n (hC X S') pc lv [.int r])  : ∀ (z1 : Int32) (z2 : Int32) (S : hS), w_X9_ifEmpty u post t0  z1 z2 S → gG p l e (rm_X9_ifEmpty) s m args below meth c Q D A 5 0 0 (hC X S) 0 [(0, .ref t0), (1, .int z1), (2, .int z2)] [] := by
  obtain ⟨⟨hx, hb, hml, ho, hts, hK, hA⟩, hR⟩ := id C0
  intro z1 z2 S hw H locs ls hW hl
  rw [w_X9_ifEmpty] at hw
  refine lv_aload_n hx hb dX9_ifEmpty_0 rfl (lv_at hl 0 rfl) ?_
  refine lv_iload_n hx hb dX9_ifEmpty_1 rfl (lv_at hl 2 rfl) ?_
  obtain ⟨h2, hw⟩ := hw
  refine h_goq C0 hW (va_runV (As := [.int z2]) (rest := []) ⟨hx, hb, hml, ho, hts⟩ (k_X9_slotAt (l := l) (u := u) (X := X) (sz := H.size) _ t0 z2 S  hw) (cwV 1 hts gX9_ifEmpty_X9_slotAt rfl rfl rfl (by decide +kernel) ⟨Nat.le_of_ble_eq_true rfl, Nat.le_of_ble_eq_true rfl⟩) ⟨h_blind, (h_recv C0 hW (ci := 10) rfl h2), (h_pre C0 hW [.ref t0, .int z2])⟩ rfl rfl hl.1 rfl (lv_room (Nat.le_of_ble_eq_true rfl)) dX9_ifEmpty_2 ⟨Nat.le_refl _, Nat.le_refl _⟩) (fun r1 S3 H locs h4 hW => ?_)
  obtain ⟨h5, hp⟩ := h4
  rw [h5] at hW
  replace hw := hp
  refine lv_astoreV_n (i := 3) (lv' := [(3, va_rf r1), (0, .ref t0), (1, .int z1), (2, .int z2)]) hx hb dX9_ifEmpty_5 rfl hl (by decide) rfl (fun ls hl9 => ?_)
  replace hl := hl9
  refine lv_iload_n hx hb dX9_ifEmpty_6 rfl (lv_at hl 2 rfl) ?_
  refine lv_iconst (v := 3) hx hb dX9_ifEmpty_7 (by decide) ?_
  refine g_calls (As := [.int z1, .int 3]) (rest := []) ⟨hx, hb, hml, ho, hts⟩ hl.1 (k_X9_isWithin (l := l) _ z1 3 hw) (va_cwS 2 hts gX9_ifEmpty_X9_isWithin rfl rfl rfl (by decide +kernel) ⟨Nat.le_of_ble_eq_true rfl, Nat.le_of_ble_eq_true rfl⟩) (Nat.le_of_ble_eq_true rfl) dX9_ifEmpty_8 rfl ⟨Nat.le_refl _, Nat.le_refl _⟩ (fun r6 hp => ?_)
  replace hw := hp
  refine lv_if_eq (tgt := 18) hx hb dX9_ifEmpty_11 (by decide) (fun c7 => ?_) (fun c7 => ?_)
  · replace hw := hw.1 c7
    refine lv_iconst (v := (-1)) hx hb dX9_ifEmpty_18 (by decide) ?_
    exact hret (-1) S _ _ 0 0 (Nat.le_refl _) (Nat.le_refl _) hw rfl dX9_ifEmpty_19 _ _ _ hW hl
  · replace hw := hw.2 c7
    refine lv_aloadV_n hx hb dX9_ifEmpty_14 rfl (lv_at hl 0 rfl) ?_
    refine lv_ifnonnullV (tgt := 20) hx hb dX9_ifEmpty_15 (by decide) (fun a9 c8 => ?_) (fun c8 => ?_)
    · subst c8
      replace hw := hw.2 a9 rfl
      refine lv_aload_n hx hb dX9_ifEmpty_20 rfl (lv_at hl 1 rfl) ?_
      obtain ⟨o10, h11, hw⟩ := hw
      refine h_getR C0 hW (T := TX9) (kf := 6) in_X9_ifEmpty_RX9 h11 rfl (by decide) (List.mem_of_getElem? (i := 1) rfl) rfl dX9_ifEmpty_21 ?_
      refine lv_iload_n hx hb dX9_ifEmpty_24 rfl (lv_at hl 2 rfl) ?_
      obtain ⟨a12, rfl, hw⟩ := hw
      obtain ⟨N13, g14, h15, h16, hw⟩ := hw
      refine h_qald C0 hW 7 h15 rfl h16 dX9_ifEmpty_25 (fun o17 eo17 => ?_)
      replace hw := hw o17 eo17
      refine lv_astoreV (i := 4) (lv' := [(4, va_rf o17), (3, .ref a9), (0, .ref t0), (1, .int z1), (2, .int z2)]) hx hb dX9_ifEmpty_26 hl (by decide) rfl (fun ls hl9 => ?_)
      replace hl := hl9
      refine lv_aloadV hx hb dX9_ifEmpty_28 (lv_at hl 0 rfl) ?_
      refine lv_ifnonnullV (tgt := 36) hx hb dX9_ifEmpty_30 (by decide) (fun a19 c18 => ?_) (fun c18 => ?_)
      · subst c18
        replace hw := hw.2 a19 rfl
        refine lv_aload_n hx hb dX9_ifEmpty_36 rfl (lv_at hl 1 rfl) ?_
        obtain ⟨o20, h21, hw⟩ := hw
        refine h_getRN C0 hW (host := RX9) (T := TX6) (kf := 0) in_X9_ifEmpty_RX6 h21 rfl (by decide) (by decide +kernel) rfl dX9_ifEmpty_37 ?_
        refine lv_ifnonnullV (tgt := 48) hx hb dX9_ifEmpty_40 (by decide) (fun a23 c22 => ?_) (fun c22 => ?_)
        · subst c22
          replace hw := hw.2 a23 rfl
          refine lv_aload hx hb dX9_ifEmpty_48 (lv_at hl 0 rfl) ?_
          refine lv_aload_n hx hb dX9_ifEmpty_50 rfl (lv_at hl 1 rfl) ?_
          obtain ⟨o28, h29, hw⟩ := hw
          refine h_getRN C0 hW (host := RX9) (T := TX6) (kf := 0) in_X9_ifEmpty_RX6 h29 rfl (by decide) (by decide +kernel) rfl dX9_ifEmpty_51 ?_
          obtain ⟨fs30, h31, h32, hw⟩ := hw
          refine h_putN C0 hW (host := RX9) (T := TX2) (kf := 4) (ty := .object "java/lang/String") in_X9_ifEmpty_RX2 h31 rfl (by decide) h32 tyX2 tyX2_ok nmX2 (by decide +kernel) rfl rfl (by decide +kernel) (by cases o28 <;> rfl) (by cases o28 <;> rfl) dX9_ifEmpty_54 (fun H locs hW => ?_)
          obtain ⟨S33, eS33⟩ : ∃ z : hS, z = upS S a19 (.inr (3, fs30.set 4 (va_rf o28))) := ⟨_, rfl⟩
          rw [← eS33] at hW
          replace hw := hw S33 eS33
          refine lv_aload hx hb dX9_ifEmpty_57 (lv_at hl 0 rfl) ?_
          obtain ⟨h35, hw⟩ := hw
          refine h_goi C0 hW (va_runV (As := []) (rest := []) ⟨hx, hb, hml, ho, hts⟩ (k_X2_resultLength (l := l) (u := u) (X := X) (sz := H.size) _ a19  S33  hw) (cwV 0 hts gX9_ifEmpty_X2_resultLength rfl rfl rfl (by decide +kernel) ⟨Nat.le_of_ble_eq_true rfl, Nat.le_of_ble_eq_true rfl⟩) ⟨h_blind, (h_recv C0 hW (ci := 3) rfl h35), (h_pre C0 hW [.ref a19])⟩ rfl rfl hl.1 rfl (lv_room (Nat.le_of_ble_eq_true rfl)) dX9_ifEmpty_59 ⟨Nat.le_refl _, Nat.le_refl _⟩) (fun r34 S36 H locs h37 hW => ?_)
          obtain ⟨h38, hp⟩ := h37
          rw [h38] at hW
          replace hw := hp
          exact hret r34 S33 _ _ 0 0 (Nat.le_refl _) (Nat.le_refl _) hw rfl dX9_ifEmpty_62 _ _ _ hW hl
        · subst c22
          replace hw := hw.1 rfl
          refine lv_aload_n hx hb dX9_ifEmpty_43 rfl (lv_at hl 2 rfl) ?_
          obtain ⟨h25, hw⟩ := hw
          refine h_goi C0 hW (va_runV (As := []) (rest := []) ⟨hx, hb, hml, ho, hts⟩ (k_X9_refuseNull (l := l) (u := u) (X := X) (sz := H.size) _ t0  S  hw) (cwV 0 hts gX9_ifEmpty_X9_refuseNull rfl rfl rfl (by decide +kernel) ⟨Nat.le_of_ble_eq_true rfl, Nat.le_of_ble_eq_true rfl⟩) ⟨h_blind, (h_recv C0 hW (ci := 10) rfl h25), (h_pre C0 hW [.ref t0])⟩ rfl rfl hl.1 rfl (lv_room (Nat.le_of_ble_eq_true rfl)) dX9_ifEmpty_44 ⟨Nat.le_refl _, Nat.le_refl _⟩) (fun r24 S26 H locs h27 hW => ?_)
          replace hw := h27
          exact hret r24 S26 _ _ 0 0 (Nat.le_refl _) (Nat.le_refl _) hw rfl dX9_ifEmpty_47 _ _ _ hW hl
      · subst c18
        replace hw := hw.1 rfl
        refine lv_bipush (v := (-4)) hx hb dX9_ifEmpty_33 (by decide) ?_
        exact hret (-4) S _ _ 0 0 (Nat.le_refl _) (Nat.le_refl _) hw rfl dX9_ifEmpty_35 _ _ _ hW hl
    · subst c8
      replace hw := hw.1 rfl
      refine lv_iconst (v := (-1)) hx hb dX9_ifEmpty_18 (by decide) ?_
      exact hret (-1) S _ _ 0 0 (Nat.le_refl _) (Nat.le_refl _) hw rfl dX9_ifEmpty_19 _ _ _ hW hl
set_option maxHeartbeats 4000000 in
set_option maxRecDepth 100000 in
theorem k_X9_ifEmpty {l : Launch} {D : va_G} {u : hU} {X : va_W} {sz : Nat} (post : Int32 → hS → Prop) (t0 : Nat) (z1 : Int32) (z2 : Int32) (S : hS) (hw : w_X9_ifEmpty u post t0 z1 z2 S) : hMi l yX9_ifEmpty wsX9_ifEmpty rm_X9_ifEmpty D (gt u.2.1) u.1 u.2.2 sz X S [.ref t0, .int z1, .int z2] post 0 0 := by
  refine hMi_of (cc := cX9_ifEmpty) (nL := 5) (ty := .int) (own := RX9) (by decide) rfl rfl (Nat.le_of_ble_eq_true rfl) ?_
  intro p e s m args below meth c A Q C0 hin hret
  exact t_X9_ifEmpty_0 C0 t0 post hret z1 z2 S hw
end RAWM
