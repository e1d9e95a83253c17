section RAWM
variable {p : Program} {l : Launch} {e : Env} {s : State} {m : MethodId} {args : Array Value} {below : List Frame} {meth : Method} {c : Code} {Q : State → Prop}
variable {D : va_G} {A : Nat → Prop} {u : hU} {X : va_W} {MC MS : Nat}
abbrev rm_X9_more : Room := { frames := 7, cells := 0, slots := 0, locals := 154 }
theorem in_X9_more_RX9 : ∀ w ∈ wsX90, w ∈ wsX9_more := fun w hw9 => List.mem_cons_of_mem _ (List.mem_append_left _ (List.mem_append_left _ (List.mem_append_right _ hw9)))
set_option maxHeartbeats 4000000 in
set_option maxRecDepth 100000 in
theorem t_X9_more_0 (C0 : hX p s m args c cX9_more 3 RX9 wsX9_more D (gt u.2.1) A u.1 u.2.2) {S : hS} (t0 : Nat) (post : Int32 → Prop) (hret : ∀ (r : Int32) (S' : hS) (pc : Nat) (lv : List (Nat × Value)) (k n : Nat), k ≤ 0 → n ≤ 0 → (S' = S ∧ post r) → narrow .int (.int r) = .int r → decode cX9_more pc = .ok (.ireturn, 1) → gG p l e (rm_X9_more) s m args below meth c Q D A 3 k n (hC X S') pc lv [.int r])  : ∀ (z1 : Int32), w_X9_more u post t0  z1 S → gG p l e (rm_X9_more) s m args below meth c Q D A 3 0 0 (hC X S) 0 [(0, .ref t0), (1, .int z1)] [] := by
  obtain ⟨⟨hx, hb, hml, ho, hts, hK, hA⟩, hR⟩ := id C0
  intro z1 hw H locs ls hW hl
  rw [w_X9_more] at hw
  refine lv_iload_n hx hb dX9_more_0 rfl (lv_at hl 1 rfl) ?_
  refine lv_iconst (v := 2) hx hb dX9_more_1 (by decide) ?_
  refine g_calls (As := [.int z1, .int 2]) (rest := []) ⟨hx, hb, hml, ho, hts⟩ hl.1 (k_X9_isWithin (l := l) _ z1 2 hw) (va_cwS 2 hts gX9_more_X9_isWithin rfl rfl rfl (by decide +kernel) ⟨Nat.le_of_ble_eq_true rfl, Nat.le_of_ble_eq_true rfl⟩) (Nat.le_of_ble_eq_true rfl) dX9_more_2 rfl ⟨Nat.le_refl _, Nat.le_refl _⟩ (fun r1 hp => ?_)
  replace hw := hp
  refine lv_if_ne (tgt := 10) hx hb dX9_more_5 (by decide) (fun c2 => ?_) (fun c2 => ?_)
  · replace hw := hw.1 c2
    refine lv_aload_n hx hb dX9_more_10 rfl (lv_at hl 0 rfl) ?_
    obtain ⟨o3, h4, hw⟩ := hw
    refine h_getR C0 hW (T := TX9) (kf := 5) in_X9_more_RX9 h4 rfl (by decide) (List.mem_of_getElem? (i := 1) rfl) rfl dX9_more_11 ?_
    refine lv_iload_n hx hb dX9_more_14 rfl (lv_at hl 1 rfl) ?_
    obtain ⟨a5, rfl, hw⟩ := hw
    obtain ⟨N6, g7, h8, h9, hw⟩ := hw
    refine h_qald C0 hW 6 h8 rfl h9 dX9_more_15 (fun o10 eo10 => ?_)
    replace hw := hw o10 eo10
    refine lv_astoreV_n (i := 2) (lv' := [(2, va_rf o10), (0, .ref t0), (1, .int z1)]) hx hb dX9_more_16 rfl hl (by decide) rfl (fun ls hl9 => ?_)
    replace hl := hl9
    refine lv_aloadV_n hx hb dX9_more_17 rfl (lv_at hl 0 rfl) ?_
    refine lv_ifnonnullV (tgt := 24) hx hb dX9_more_18 (by decide) (fun a12 c11 => ?_) (fun c11 => ?_)
    · subst c11
      replace hw := hw.2 a12 rfl
      refine lv_aload_n hx hb dX9_more_24 rfl (lv_at hl 0 rfl) ?_
      obtain ⟨h14, hw⟩ := hw
      refine h_goi C0 hW (va_runV (As := []) (rest := []) ⟨hx, hb, hml, ho, hts⟩ (k_X8_hasToken (l := l) (u := u) (X := X) (sz := H.size) _ a12  S  hw) (cwV 0 hts gX9_more_X8_hasToken rfl rfl rfl (by decide +kernel) ⟨Nat.le_of_ble_eq_true rfl, Nat.le_of_ble_eq_true rfl⟩) ⟨h_blind, (h_recv C0 hW (ci := 9) rfl h14), (h_pre C0 hW [.ref a12])⟩ rfl rfl hl.1 rfl (lv_room (Nat.le_of_ble_eq_true rfl)) dX9_more_25 ⟨Nat.le_refl _, Nat.le_refl _⟩) (fun r13 S15 H locs h16 hW => ?_)
      obtain ⟨h17, hp⟩ := h16
      rw [h17] at hW
      replace hw := hp
      refine lv_if_eq (tgt := 35) hx hb dX9_more_28 (by decide) (fun c18 => ?_) (fun c18 => ?_)
      · replace hw := hw.1 c18
        refine lv_iconst (v := 0) hx hb dX9_more_35 (by decide) ?_
        exact hret 0 S _ _ 0 0 (Nat.le_refl _) (Nat.le_refl _) ⟨rfl, hw⟩ rfl dX9_more_36 _ _ _ hW hl
      · replace hw := hw.2 c18
        refine lv_iconst (v := 1) hx hb dX9_more_31 (by decide) ?_
        refine lv_goto (tgt := 36) hx hb dX9_more_32 (by decide) ?_
        exact hret 1 S _ _ 0 0 (Nat.le_refl _) (Nat.le_refl _) ⟨rfl, hw⟩ rfl dX9_more_36 _ _ _ hW hl
    · subst c11
      replace hw := hw.1 rfl
      refine lv_bipush (v := (-4)) hx hb dX9_more_21 (by decide) ?_
      exact hret (-4) S _ _ 0 0 (Nat.le_refl _) (Nat.le_refl _) ⟨rfl, hw⟩ rfl dX9_more_23 _ _ _ hW hl
  · replace hw := hw.2 c2
    refine lv_iconst (v := (-1)) hx hb dX9_more_8 (by decide) ?_
    exact hret (-1) S _ _ 0 0 (Nat.le_refl _) (Nat.le_refl _) ⟨rfl, hw⟩ rfl dX9_more_9 _ _ _ hW hl
set_option maxHeartbeats 4000000 in
set_option maxRecDepth 100000 in
theorem k_X9_more {l : Launch} {D : va_G} {u : hU} {X : va_W} {sz : Nat} (post : Int32 → Prop) (t0 : Nat) (z1 : Int32) (S : hS) (hw : w_X9_more u post t0 z1 S) : hMi l yX9_more wsX9_more rm_X9_more D (gt u.2.1) u.1 u.2.2 sz X S [.ref t0, .int z1] (fun r S' => S' = S ∧ post r) 0 0 := by
  refine hMi_of (cc := cX9_more) (nL := 3) (ty := .int) (own := RX9) (by decide) rfl rfl (Nat.le_of_ble_eq_true rfl) ?_
  intro p e s m args below meth c A Q C0 hin hret
  exact t_X9_more_0 C0 t0 post hret z1 hw
abbrev rm_X9_count : Room := { frames := 7, cells := 0, slots := 0, locals := 156 }
theorem in_X9_count_RX9 : ∀ w ∈ wsX90, w ∈ wsX9_count := fun w hw9 => List.mem_cons_of_mem _ (List.mem_append_left _ (List.mem_append_left _ (List.mem_append_right _ hw9)))
set_option maxHeartbeats 4000000 in
set_option maxRecDepth 100000 in
theorem t_X9_count_0 (C0 : hX p s m args c cX9_count 3 RX9 wsX9_count D (gt u.2.1) A u.1 u.2.2) {S : hS} (t0 : Nat) (post : Int32 → Prop) (hret : ∀ (r : Int32) (S' : hS) (pc : Nat) (lv : List (Nat × Value)) (k n : Nat), k ≤ 0 → n ≤ 0 → (S' = S ∧ post r) → narrow .int (.int r) = .int r → decode cX9_count pc = .ok (.ireturn, 1) → gG p l e (rm_X9_count) s m args below meth c Q D A 3 k n (hC X S') pc lv [.int r])  : ∀ (z1 : Int32), w_X9_count u post t0  z1 S → gG p l e (rm_X9_count) s m args below meth c Q D A 3 0 0 (hC X S) 0 [(0, .ref t0), (1, .int z1)] [] := by
  obtain ⟨⟨hx, hb, hml, ho, hts, hK, hA⟩, hR⟩ := id C0
  intro z1 hw H locs ls hW hl
  rw [w_X9_count] at hw
  refine lv_iload_n hx hb dX9_count_0 rfl (lv_at hl 1 rfl) ?_
  refine lv_iconst (v := 2) hx hb dX9_count_1 (by decide) ?_
  refine g_calls (As := [.int z1, .int 2]) (rest := []) ⟨hx, hb, hml, ho, hts⟩ hl.1 (k_X9_isWithin (l := l) _ z1 2 hw) (va_cwS 2 hts gX9_count_X9_isWithin rfl rfl rfl (by decide +kernel) ⟨Nat.le_of_ble_eq_true rfl, Nat.le_of_ble_eq_true rfl⟩) (Nat.le_of_ble_eq_true rfl) dX9_count_2 rfl ⟨Nat.le_refl _, Nat.le_refl _⟩ (fun r1 hp => ?_)
  replace hw := hp
  refine lv_if_ne (tgt := 10) hx hb dX9_count_5 (by decide) (fun c2 => ?_) (fun c2 => ?_)
  · replace hw := hw.1 c2
    refine lv_aload_n hx hb dX9_count_10 rfl (lv_at hl 0 rfl) ?_
    obtain ⟨o3, h4, hw⟩ := hw
    refine h_getR C0 hW (T := TX9) (kf := 5) in_X9_count_RX9 h4 rfl (by decide) (List.mem_of_getElem? (i := 1) rfl) rfl dX9_count_11 ?_
    refine lv_iload_n hx hb dX9_count_14 rfl (lv_at hl 1 rfl) ?_
    obtain ⟨a5, rfl, hw⟩ := hw
    obtain ⟨N6, g7, h8, h9, hw⟩ := hw
    refine h_qald C0 hW 6 h8 rfl h9 dX9_count_15 (fun o10 eo10 => ?_)
    replace hw := hw o10 eo10
    refine lv_astoreV_n (i := 2) (lv' := [(2, va_rf o10), (0, .ref t0), (1, .int z1)]) hx hb dX9_count_16 rfl hl (by decide) rfl (fun ls hl9 => ?_)
    replace hl := hl9
    refine lv_aloadV_n hx hb dX9_count_17 rfl (lv_at hl 0 rfl) ?_
    refine lv_ifnonnullV (tgt := 24) hx hb dX9_count_18 (by decide) (fun a12 c11 => ?_) (fun c11 => ?_)
    · subst c11
      replace hw := hw.2 a12 rfl
      refine lv_aload_n hx hb dX9_count_24 rfl (lv_at hl 0 rfl) ?_
      obtain ⟨h14, hw⟩ := hw
      refine h_goi C0 hW (va_runV (As := []) (rest := []) ⟨hx, hb, hml, ho, hts⟩ (k_X8_tokensLeft (l := l) (u := u) (X := X) (sz := H.size) _ a12  S  hw) (cwV 0 hts gX9_count_X8_tokensLeft rfl rfl rfl (by decide +kernel) ⟨Nat.le_of_ble_eq_true rfl, Nat.le_of_ble_eq_true rfl⟩) ⟨h_blind, (h_recv C0 hW (ci := 9) rfl h14), (h_pre C0 hW [.ref a12])⟩ rfl rfl hl.1 rfl (lv_room (Nat.le_of_ble_eq_true rfl)) dX9_count_25 ⟨Nat.le_refl _, Nat.le_refl _⟩) (fun r13 S15 H locs h16 hW => ?_)
      obtain ⟨h17, hp⟩ := h16
      rw [h17] at hW
      replace hw := hp
      exact hret r13 S _ _ 0 0 (Nat.le_refl _) (Nat.le_refl _) ⟨rfl, hw⟩ rfl dX9_count_28 _ _ _ hW hl
    · subst c11
      replace hw := hw.1 rfl
      refine lv_bipush (v := (-4)) hx hb dX9_count_21 (by decide) ?_
      exact hret (-4) S _ _ 0 0 (Nat.le_refl _) (Nat.le_refl _) ⟨rfl, hw⟩ rfl dX9_count_23 _ _ _ hW hl
  · replace hw := hw.2 c2
    refine lv_iconst (v := (-1)) hx hb dX9_count_8 (by decide) ?_
    exact hret (-1) S _ _ 0 0 (Nat.le_refl _) (Nat.le_refl _) ⟨rfl, hw⟩ rfl dX9_count_9 _ _ _ hW hl
set_option maxHeartbeats 4000000 in
set_option maxRecDepth 100000 in
theorem k_X9_count {l : Launch} {D : va_G} {u : hU} {X : va_W} {sz : Nat} (post : Int32 → Prop) (t0 : Nat) (z1 : Int32) (S : hS) (hw : w_X9_count u post t0 z1 S) : hMi l yX9_count wsX9_count rm_X9_count D (gt u.2.1) u.1 u.2.2 sz X S [.ref t0, .int z1] (fun r S' => S' = S ∧ post r) 0 0 := by
  refine hMi_of (cc := cX9_count) (nL := 3) (ty := .int) (own := RX9) (by decide) rfl rfl (Nat.le_of_ble_eq_true rfl) ?_
  intro p e s m args below meth c A Q C0 hin hret
  exact t_X9_count_0 C0 t0 post hret z1 hw
abbrev rm_X9_refuseToken : Room := { frames := 1, cells := 0, slots := 0, locals := 21 }
theorem in_X9_refuseToken_RX9 : ∀ w ∈ wsX90, w ∈ wsX9_refuseToken := fun w hw9 => List.mem_cons_of_mem _ (List.mem_append_right _ hw9)
set_option maxHeartbeats 4000000 in
set_option maxRecDepth 100000 in
theorem t_X9_refuseToken_15 (C0 : hX p s m args c cX9_refuseToken 2 RX9 wsX9_refuseToken D (gt u.2.1) A u.1 u.2.2) (t0 : Nat) (post : Int32 → hS → Prop) (hret : ∀ (r : Int32) (S' : hS) (pc : Nat) (lv : List (Nat × Value)) (k n : Nat), k ≤ 0 → n ≤ 0 → post r S' → narrow .int (.int r) = .int r → decode cX9_refuseToken pc = .ok (.ireturn, 1) → gG p l e (rm_X9_refuseToken) s m args below meth c Q D A 2 k n (hC X S') pc lv [.int r])  : ∀ (S : hS), w_X9_refuseToken_15 u post t0   S → gG p l e (rm_X9_refuseToken) s m args below meth c Q D A 2 0 0 (hC X S) 15 [(0, .ref t0)] [] := by
  obtain ⟨⟨hx, hb, hml, ho, hts, hK, hA⟩, hR⟩ := id C0
  intro  S hw H locs ls hW hl
  rw [w_X9_refuseToken_15] at hw
  refine lv_aload_n hx hb dX9_refuseToken_15 rfl (lv_at hl 0 rfl) ?_
  refine lv_dup hx hb dX9_refuseToken_16 rfl ?_
  obtain ⟨v11, h12, hw⟩ := hw
  refine h_getI C0 hW (T := TX9) (kf := 8) in_X9_refuseToken_RX9 h12 rfl (by decide) (List.mem_of_getElem? (i := 2) rfl) rfl dX9_refuseToken_17 ?_
  refine lv_iconst (v := 1) hx hb dX9_refuseToken_20 (by decide) ?_
  refine lv_iadd hx hb dX9_refuseToken_21 ?_
  obtain ⟨fs13, h14, h15, hw⟩ := hw
  refine h_put C0 hW (T := TX9) (kf := 8) (ty := .int) in_X9_refuseToken_RX9 h14 rfl (by decide) h15 tyX9 tyX9_ok nmX9 (List.mem_of_getElem? (i := 2) rfl) rfl (Or.inl rfl) (by decide +kernel) rfl rfl dX9_refuseToken_22 rfl (fun H locs hW => ?_)
  obtain ⟨S16, eS16⟩ : ∃ z : hS, z = upS S t0 (.inr (10, fs13.set 8 (.int (v11 + 1)))) := ⟨_, rfl⟩
  rw [← eS16] at hW
  replace hw := hw S16 eS16
  refine lv_bipush (v := (-8)) hx hb dX9_refuseToken_25 (by decide) ?_
  exact hret (-8) S16 _ _ 0 0 (Nat.le_refl _) (Nat.le_refl _) hw rfl dX9_refuseToken_27 _ _ _ hW hl
set_option maxHeartbeats 4000000 in
set_option maxRecDepth 100000 in
theorem t_X9_refuseToken_0 (C0 : hX p s m args c cX9_refuseToken 2 RX9 wsX9_refuseToken D (gt u.2.1) A u.1 u.2.2) (t0 : Nat) (post : Int32 → hS → Prop) (hret : ∀ (r : Int32) (S' : hS) (pc : Nat) (lv : List (Nat × Value)) (k n : Nat), k ≤ 0 → n ≤ 0 → post r S' → narrow .int (.int r) = .int r → decode cX9_refuseToken pc = .ok (.ireturn, 1) → gG p l e (rm_X9_refuseToken) s m args below meth c Q D A 2 k n (hC X S') pc lv [.int r])  : ∀ (z1 : Int32) (S : hS), w_X9_refuseToken u post t0  z1 S → gG p l e (rm_X9_refuseToken) s m args below meth c Q D A 2 0 0 (hC X S) 0 [(0, .ref t0), (1, .int z1)] [] := by
  obtain ⟨⟨hx, hb, hml, ho, hts, hK, hA⟩, hR⟩ := id C0
  intro z1 S hw H locs ls hW hl
  rw [w_X9_refuseToken] at hw
  refine lv_iload_n hx hb dX9_refuseToken_0 rfl (lv_at hl 1 rfl) ?_
  refine lv_iconst (v := 2) hx hb dX9_refuseToken_1 (by decide) ?_
  refine g_calls (As := [.int z1, .int 2]) (rest := []) ⟨hx, hb, hml, ho, hts⟩ hl.1 (k_X9_isWithin (l := l) _ z1 2 hw) (va_cwS 2 hts gX9_refuseToken_X9_isWithin rfl rfl rfl (by decide +kernel) ⟨Nat.le_of_ble_eq_true rfl, Nat.le_of_ble_eq_true rfl⟩) (Nat.le_of_ble_eq_true rfl) dX9_refuseToken_2 rfl ⟨Nat.le_refl _, Nat.le_refl _⟩ (fun r1 hp => ?_)
  replace hw := hp
  refine lv_if_eq (tgt := 15) hx hb dX9_refuseToken_5 (by decide) (fun c2 => ?_) (fun c2 => ?_)
  · replace hw := hw.1 c2
    exact t_X9_refuseToken_15 C0 t0 post hret   S  hw _ _ _ hW (lv_sub hl [0] rfl)
  · replace hw := hw.2 c2
    refine lv_aload_n hx hb dX9_refuseToken_8 rfl (lv_at hl 0 rfl) ?_
    obtain ⟨o3, h4, hw⟩ := hw
    refine h_getR C0 hW (T := TX9) (kf := 5) in_X9_refuseToken_RX9 h4 rfl (by decide) (List.mem_of_getElem? (i := 1) rfl) rfl dX9_refuseToken_9 ?_
    refine lv_iload_n hx hb dX9_refuseToken_12 rfl (lv_at hl 1 rfl) ?_
    refine lv_null hx hb dX9_refuseToken_13 ?_
    obtain ⟨a5, rfl, hw⟩ := hw
    obtain ⟨N6, g7, h8, h9, hw⟩ := hw
    refine h_qastN C0 hW 6 h8 rfl h9 dX9_refuseToken_14 (fun H locs hW => ?_)
    obtain ⟨S10, eS10⟩ : ∃ z : hS, z = upS S a5 (.inl (u.2.1 6, N6, .inr (.inr (.inr (.inr (va_up g7 (z1 : Int32).toNatClampNeg none)))))) := ⟨_, rfl⟩
    rw [← eS10] at hW
    replace hw := hw S10 eS10
    exact t_X9_refuseToken_15 C0 t0 post hret   S10  hw _ _ _ hW (lv_sub hl [0] rfl)
set_option maxHeartbeats 4000000 in
set_option maxRecDepth 100000 in
theorem k_X9_refuseToken {l : Launch} {D : va_G} {u : hU} {X : va_W} {sz : Nat} (post : Int32 → hS → Prop) (t0 : Nat) (z1 : Int32) (S : hS) (hw : w_X9_refuseToken u post t0 z1 S) : hMi l yX9_refuseToken wsX9_refuseToken rm_X9_refuseToken D (gt u.2.1) u.1 u.2.2 sz X S [.ref t0, .int z1] post 0 0 := by
  refine hMi_of (cc := cX9_refuseToken) (nL := 2) (ty := .int) (own := RX9) (by decide) rfl rfl (Nat.le_of_ble_eq_true rfl) ?_
  intro p e s m args below meth c A Q C0 hin hret
  exact t_X9_refuseToken_0 C0 t0 post hret z1 S hw
abbrev rm_X9_next (MC MS : Nat) : Room := { frames := 7, cells := MC, slots := MS, locals := 155 }
theorem in_X9_next_RX9 : ∀ w ∈ wsX90, w ∈ wsX9_next := fun w hw9 => List.mem_cons_of_mem _ (List.mem_append_left _ (List.mem_append_left _ (List.mem_append_left _ (List.mem_append_right _ hw9))))
set_option maxHeartbeats 4000000 in
set_option maxRecDepth 100000 in
theorem t_X9_next_0 (C0 : hX p s m args c cX9_next 5 RX9 wsX9_next D (gt u.2.1) A u.1 u.2.2) (t0 : Nat) (post : Int32 → hS → Prop) (hret : ∀ (r : Int32) (S' : hS) (pc : Nat) (lv : List (Nat × Value)) (k n : Nat), k ≤ MC → n ≤ MS → post r S' → narrow .int (.int r) = .int r → decode cX9_next pc = .ok (.ireturn, 1) → gG p l e (rm_X9_next MC MS) s m args below meth c Q D A 5 k n (hC X S') pc lv [.int r])  : ∀ (z1 : Int32) (z2 : Int32) (S : hS) (mc ms k n : Nat), k + mc ≤ MC ∧ n + ms ≤ MS → w_X9_next u post t0  z1 z2 S mc ms → gG p l e (rm_X9_next MC MS) s m args below meth c Q D A 5 k n (hC X S) 0 [(0, .ref t0), (1, .int z1), (2, .int z2)] [] := by
  obtain ⟨⟨hx, hb, hml, ho, hts, hK, hA⟩, hR⟩ := id C0
  intro z1 z2 S mc ms k n hkn hw H locs ls hW hl
  rw [w_X9_next] at hw
  refine lv_aload_n hx hb dX9_next_0 rfl (lv_at hl 0 rfl) ?_
  refine lv_iload_n hx hb dX9_next_1 rfl (lv_at hl 2 rfl) ?_
  obtain ⟨h2, hw⟩ := hw
  refine h_goq C0 hW (va_runV (As := [.int z2]) (rest := []) ⟨hx, hb, hml, ho, hts⟩ (k_X9_slotAt (l := l) (u := u) (X := X) (sz := H.size) _ t0 z2 S  hw) (cwV 1 hts gX9_next_X9_slotAt rfl rfl rfl (by decide +kernel) ⟨Nat.le_of_ble_eq_true rfl, Nat.le_of_ble_eq_true rfl⟩) ⟨h_blind, (h_recv C0 hW (ci := 10) rfl h2), (h_pre C0 hW [.ref t0, .int z2])⟩ rfl rfl hl.1 rfl (lv_room (Nat.le_of_ble_eq_true rfl)) dX9_next_2 ⟨by show _ ≤ MC; omega, by show _ ≤ MS; omega⟩) (fun r1 S3 H locs h4 hW => ?_)
  obtain ⟨h5, hp⟩ := h4
  rw [h5] at hW
  replace hw := hp
  refine lv_astoreV_n (i := 3) (lv' := [(3, va_rf r1), (0, .ref t0), (1, .int z1), (2, .int z2)]) hx hb dX9_next_5 rfl hl (by decide) rfl (fun ls hl9 => ?_)
  replace hl := hl9
  refine lv_iload_n hx hb dX9_next_6 rfl (lv_at hl 2 rfl) ?_
  refine lv_iconst (v := 2) hx hb dX9_next_7 (by decide) ?_
  refine g_calls (As := [.int z1, .int 2]) (rest := []) ⟨hx, hb, hml, ho, hts⟩ hl.1 (k_X9_isWithin (l := l) _ z1 2 hw) (va_cwS 2 hts gX9_next_X9_isWithin rfl rfl rfl (by decide +kernel) ⟨Nat.le_of_ble_eq_true rfl, Nat.le_of_ble_eq_true rfl⟩) (Nat.le_of_ble_eq_true rfl) dX9_next_8 rfl ⟨by show _ ≤ MC; omega, by show _ ≤ MS; omega⟩ (fun r6 hp => ?_)
  replace hw := hp
  refine lv_if_eq (tgt := 18) hx hb dX9_next_11 (by decide) (fun c7 => ?_) (fun c7 => ?_)
  · replace hw := hw.1 c7
    refine lv_iconst (v := (-1)) hx hb dX9_next_18 (by decide) ?_
    exact hret (-1) S _ _ _ _ (by omega) (by omega) hw rfl dX9_next_19 _ _ _ hW hl
  · replace hw := hw.2 c7
    refine lv_aloadV_n hx hb dX9_next_14 rfl (lv_at hl 0 rfl) ?_
    refine lv_ifnonnullV (tgt := 20) hx hb dX9_next_15 (by decide) (fun a9 c8 => ?_) (fun c8 => ?_)
    · subst c8
      replace hw := hw.2 a9 rfl
      refine lv_aload_n hx hb dX9_next_20 rfl (lv_at hl 1 rfl) ?_
      obtain ⟨o10, h11, hw⟩ := hw
      refine h_getR C0 hW (T := TX9) (kf := 5) in_X9_next_RX9 h11 rfl (by decide) (List.mem_of_getElem? (i := 1) rfl) rfl dX9_next_21 ?_
      refine lv_iload_n hx hb dX9_next_24 rfl (lv_at hl 2 rfl) ?_
      obtain ⟨a12, rfl, hw⟩ := hw
      obtain ⟨N13, g14, h15, h16, hw⟩ := hw
      refine h_qald C0 hW 6 h15 rfl h16 dX9_next_25 (fun o17 eo17 => ?_)
      replace hw := hw o17 eo17
      refine lv_astoreV (i := 4) (lv' := [(4, va_rf o17), (3, .ref a9), (0, .ref t0), (1, .int z1), (2, .int z2)]) hx hb dX9_next_26 hl (by decide) rfl (fun ls hl9 => ?_)
      replace hl := hl9
      refine lv_aloadV hx hb dX9_next_28 (lv_at hl 0 rfl) ?_
      refine lv_ifnonnullV (tgt := 36) hx hb dX9_next_30 (by decide) (fun a19 c18 => ?_) (fun c18 => ?_)
      · subst c18
        replace hw := hw.2 a19 rfl
        refine lv_aload hx hb dX9_next_36 (lv_at hl 0 rfl) ?_
        obtain ⟨h21, hw⟩ := hw
        refine h_goi C0 hW (va_runV (As := []) (rest := []) ⟨hx, hb, hml, ho, hts⟩ (k_X8_hasToken (l := l) (u := u) (X := X) (sz := H.size) _ a19  S  hw) (cwV 0 hts gX9_next_X8_hasToken rfl rfl rfl (by decide +kernel) ⟨Nat.le_of_ble_eq_true rfl, Nat.le_of_ble_eq_true rfl⟩) ⟨h_blind, (h_recv C0 hW (ci := 9) rfl h21), (h_pre C0 hW [.ref a19])⟩ rfl rfl hl.1 rfl (lv_room (Nat.le_of_ble_eq_true rfl)) dX9_next_38 ⟨by show _ ≤ MC; omega, by show _ ≤ MS; omega⟩) (fun r20 S22 H locs h23 hW => ?_)
        obtain ⟨h24, hp⟩ := h23
        rw [h24] at hW
        replace hw := hp
        refine lv_if_ne (tgt := 50) hx hb dX9_next_41 (by decide) (fun c25 => ?_) (fun c25 => ?_)
        · replace hw := hw.1 c25
          refine lv_aload_n hx hb dX9_next_50 rfl (lv_at hl 1 rfl) ?_
          refine lv_aload hx hb dX9_next_51 (lv_at hl 0 rfl) ?_
          obtain ⟨h31, k27, n28, h29, h30, hw⟩ := hw
          refine h_goq C0 hW (va_runV (As := []) (rest := [.ref a9]) ⟨hx, hb, hml, ho, hts⟩ (k_X8_takeToken (l := l) (u := u) (X := X) (sz := H.size) _ a19  S k27 n28 hw) (cwV 0 hts gX9_next_X8_takeToken rfl rfl rfl (by decide +kernel) ⟨Nat.le_of_ble_eq_true rfl, Nat.le_of_ble_eq_true rfl⟩) ⟨h_blind, (h_recv C0 hW (ci := 9) rfl h31), (h_pre C0 hW [.ref a19])⟩ rfl rfl hl.1 rfl (lv_room (Nat.le_of_ble_eq_true rfl)) dX9_next_53 ⟨by show _ ≤ MC; omega, by show _ ≤ MS; omega⟩) (fun r26 S32 H locs h33 hW => ?_)
          replace hw := h33
          have hkn : (k + k27) + (mc - k27) ≤ MC ∧ (n + n28) + (ms - n28) ≤ MS := by omega
          refine h_goi C0 hW (va_runS (As := [.ref a9, va_rf r26]) (rest := []) ⟨hx, hb, hml, ho, hts⟩ (k_X9_putInto (l := l) (u := u) (X := X) (sz := H.size) _ (some a9) r26 S32  hw) (va_cwS 2 hts gX9_next_X9_putInto rfl rfl rfl (by decide +kernel) ⟨Nat.le_of_ble_eq_true rfl, Nat.le_of_ble_eq_true rfl⟩) ⟨h_blind, (h_pre C0 hW [.ref a9, va_rf r26])⟩ rfl rfl hl.1 rfl (lv_room (Nat.le_of_ble_eq_true rfl)) dX9_next_56 ⟨by show _ ≤ MC; omega, by show _ ≤ MS; omega⟩) (fun r34 S35 H locs h36 hW => ?_)
          replace hw := h36
          exact hret r34 S35 _ _ _ _ (by omega) (by omega) hw rfl dX9_next_59 _ _ _ hW hl
        · replace hw := hw.2 c25
          refine lv_aload_n hx hb dX9_next_44 rfl (lv_at hl 2 rfl) ?_
          refine lv_iload_n hx hb dX9_next_45 rfl (lv_at hl 3 rfl) ?_
          obtain ⟨h38, hw⟩ := hw
          refine h_goi C0 hW (va_runV (As := [.int z1]) (rest := []) ⟨hx, hb, hml, ho, hts⟩ (k_X9_refuseToken (l := l) (u := u) (X := X) (sz := H.size) _ t0 z1 S  hw) (cwV 1 hts gX9_next_X9_refuseToken rfl rfl rfl (by decide +kernel) ⟨Nat.le_of_ble_eq_true rfl, Nat.le_of_ble_eq_true rfl⟩) ⟨h_blind, (h_recv C0 hW (ci := 10) rfl h38), (h_pre C0 hW [.ref t0, .int z1])⟩ rfl rfl hl.1 rfl (lv_room (Nat.le_of_ble_eq_true rfl)) dX9_next_46 ⟨by show _ ≤ MC; omega, by show _ ≤ MS; omega⟩) (fun r37 S39 H locs h40 hW => ?_)
          replace hw := h40
          exact hret r37 S39 _ _ _ _ (by omega) (by omega) hw rfl dX9_next_49 _ _ _ hW hl
      · subst c18
        replace hw := hw.1 rfl
        refine lv_bipush (v := (-4)) hx hb dX9_next_33 (by decide) ?_
        exact hret (-4) S _ _ _ _ (by omega) (by omega) hw rfl dX9_next_35 _ _ _ hW hl
    · subst c8
      replace hw := hw.1 rfl
      refine lv_iconst (v := (-1)) hx hb dX9_next_18 (by decide) ?_
      exact hret (-1) S _ _ _ _ (by omega) (by omega) hw rfl dX9_next_19 _ _ _ hW hl
set_option maxHeartbeats 4000000 in
set_option maxRecDepth 100000 in
theorem k_X9_next {l : Launch} {D : va_G} {u : hU} {X : va_W} {sz : Nat} (post : Int32 → hS → Prop) (t0 : Nat) (z1 : Int32) (z2 : Int32) (S : hS) (mc ms : Nat) (hw : w_X9_next u post t0 z1 z2 S mc ms) : hMi l yX9_next wsX9_next (rm_X9_next mc ms) D (gt u.2.1) u.1 u.2.2 sz X S [.ref t0, .int z1, .int z2] post mc ms := by
  refine hMi_of (cc := cX9_next) (nL := 5) (ty := .int) (own := RX9) (by decide) rfl rfl (Nat.le_of_ble_eq_true rfl) ?_
  intro p e s m args below meth c A Q C0 hin hret
  exact t_X9_next_0 C0 t0 post hret z1 z2 S mc ms 0 0 ⟨by omega, by omega⟩ hw
abbrev rm_X9_join (MC MS : Nat) : Room := { frames := 2, cells := MC, slots := MS, locals := 42 }
theorem in_X9_join_RX2 : ∀ w ∈ wsX20, w ∈ wsX9_join := fun w hw9 => List.mem_cons_of_mem _ (List.mem_append_right _ hw9)
theorem in_X9_join_RX6 : ∀ w ∈ wsX60, w ∈ wsX9_join := fun w hw9 => List.mem_cons_of_mem _ (List.mem_append_left _ (List.mem_append_left _ (List.mem_append_right _ hw9)))
theorem in_X9_join_RX9 : ∀ w ∈ wsX90, w ∈ wsX9_join := fun w hw9 => List.mem_cons_of_mem _ (List.mem_append_left _ (List.mem_append_right _ hw9))
set_option maxHeartbeats 4000000 in
set_option maxRecDepth 100000 in
theorem t_X9_join_0 (C0 : hX p s m args c cX9_join 4 RX9 wsX9_join D (gt u.2.1) A u.1 u.2.2) (t0 : Nat) (post : Int32 → hS → Prop) (hret : ∀ (r : Int32) (S' : hS) (pc : Nat) (lv : List (Nat × Value)) (k n : Nat), k ≤ MC → n ≤ MS → post r S' → narrow .int (.int r) = .int r → decode cX9_join pc = .ok (.ireturn, 1) → gG p l e (rm_X9_join MC MS) s m args below meth c Q D A 4 k n (hC X S') pc lv [.int r])  : ∀ (z1 : Int32) (z2 : Int32) (S : hS) (mc ms k n : Nat), k + mc ≤ MC ∧ n + ms ≤ MS → w_X9_join u post t0  z1 z2 S mc ms → gG p l e (rm_X9_join MC MS) s m args below meth c Q D A 4 k n (hC X S) 0 [(0, .ref t0), (1, .int z1), (2, .int z2)] [] := by
  obtain ⟨⟨hx, hb, hml, ho, hts, hK, hA⟩, hR⟩ := id C0
  intro z1 z2 S mc ms k n hkn hw H locs ls hW hl
  rw [w_X9_join] at hw
  refine lv_aload_n hx hb dX9_join_0 rfl (lv_at hl 0 rfl) ?_
  refine lv_iload_n hx hb dX9_join_1 rfl (lv_at hl 2 rfl) ?_
  obtain ⟨h2, hw⟩ := hw
  refine h_goq C0 hW (va_runV (As := [.int z2]) (rest := []) ⟨hx, hb, hml, ho, hts⟩ (k_X9_slotAt (l := l) (u := u) (X := X) (sz := H.size) _ t0 z2 S  hw) (cwV 1 hts gX9_join_X9_slotAt rfl rfl rfl (by decide +kernel) ⟨Nat.le_of_ble_eq_true rfl, Nat.le_of_ble_eq_true rfl⟩) ⟨h_blind, (h_recv C0 hW (ci := 10) rfl h2), (h_pre C0 hW [.ref t0, .int z2])⟩ rfl rfl hl.1 rfl (lv_room (Nat.le_of_ble_eq_true rfl)) dX9_join_2 ⟨by show _ ≤ MC; omega, by show _ ≤ MS; omega⟩) (fun r1 S3 H locs h4 hW => ?_)
  obtain ⟨h5, hp⟩ := h4
  rw [h5] at hW
  replace hw := hp
  refine lv_astoreV_n (i := 3) (lv' := [(3, va_rf r1), (0, .ref t0), (1, .int z1), (2, .int z2)]) hx hb dX9_join_5 rfl hl (by decide) rfl (fun ls hl9 => ?_)
  replace hl := hl9
  refine lv_iload_n hx hb dX9_join_6 rfl (lv_at hl 2 rfl) ?_
  refine lv_iconst (v := 3) hx hb dX9_join_7 (by decide) ?_
  refine g_calls (As := [.int z1, .int 3]) (rest := []) ⟨hx, hb, hml, ho, hts⟩ hl.1 (k_X9_isWithin (l := l) _ z1 3 hw) (va_cwS 2 hts gX9_join_X9_isWithin rfl rfl rfl (by decide +kernel) ⟨Nat.le_of_ble_eq_true rfl, Nat.le_of_ble_eq_true rfl⟩) (Nat.le_of_ble_eq_true rfl) dX9_join_8 rfl ⟨by show _ ≤ MC; omega, by show _ ≤ MS; omega⟩ (fun r6 hp => ?_)
  replace hw := hp
  refine lv_if_eq (tgt := 18) hx hb dX9_join_11 (by decide) (fun c7 => ?_) (fun c7 => ?_)
  · replace hw := hw.1 c7
    refine lv_iconst (v := (-1)) hx hb dX9_join_18 (by decide) ?_
    exact hret (-1) S _ _ _ _ (by omega) (by omega) hw rfl dX9_join_19 _ _ _ hW hl
  · replace hw := hw.2 c7
    refine lv_aloadV_n hx hb dX9_join_14 rfl (lv_at hl 0 rfl) ?_
    refine lv_ifnonnullV (tgt := 20) hx hb dX9_join_15 (by decide) (fun a9 c8 => ?_) (fun c8 => ?_)
    · subst c8
      replace hw := hw.2 a9 rfl
      refine lv_aload_n hx hb dX9_join_20 rfl (lv_at hl 0 rfl) ?_
      obtain ⟨o10, h11, hw⟩ := hw
      refine h_getRN C0 hW (host := RX9) (T := TX6) (kf := 0) in_X9_join_RX6 h11 rfl (by decide) (by decide +kernel) rfl dX9_join_21 ?_
      refine lv_ifnonnullV (tgt := 32) hx hb dX9_join_24 (by decide) (fun a13 c12 => ?_) (fun c12 => ?_)
      · subst c12
        replace hw := hw.2 a13 rfl
        refine lv_aload_n hx hb dX9_join_32 rfl (lv_at hl 1 rfl) ?_
        obtain ⟨o18, h19, hw⟩ := hw
        refine h_getR C0 hW (T := TX9) (kf := 6) in_X9_join_RX9 h19 rfl (by decide) (List.mem_of_getElem? (i := 1) rfl) rfl dX9_join_33 ?_
        refine lv_iload_n hx hb dX9_join_36 rfl (lv_at hl 2 rfl) ?_
        obtain ⟨h23, h24, hw⟩ := hw
        refine h_new C0 hW (ci := 3) (fs := [.null, .null, .null, .null, .null]) in_X9_join_RX2 rfl tyX2 tyX2_ok (List.mem_of_getElem? (i := 2) rfl) (List.mem_of_getElem? (i := 3) rfl) (List.mem_of_getElem? (i := 4) rfl) (fun j hj => by rcases (show j = 0 ∨ j = 1 ∨ j = 2 ∨ j = 3 ∨ j = 4 by omega) with rfl | rfl | rfl | rfl | rfl <;> rfl) (by show _ ≤ MC; omega) (by show _ ≤ MS; omega) dX9_join_37 (fun q20 H h21 hW => ?_)
        obtain ⟨S22, eS22⟩ : ∃ z : hS, z = adS S q20 (.inr (3, [.null, .null, .null, .null, .null])) := ⟨_, rfl⟩
        rw [← eS22] at hW
        replace hw := hw q20 S22 h21 eS22
        have hkn : (k + 1) + (mc - 1) ≤ MC ∧ (n + 5) + (ms - 5) ≤ MS := by omega
        refine lv_dup hx hb dX9_join_40 rfl ?_
        refine lv_aload_n hx hb dX9_join_41 rfl (lv_at hl 0 rfl) ?_
        obtain ⟨o25, h26, hw⟩ := hw
        refine h_getRN C0 hW (host := RX9) (T := TX6) (kf := 0) in_X9_join_RX6 h26 rfl (by decide) (by decide +kernel) rfl dX9_join_42 ?_
        refine va_ldcS hx hb ho C0.2.2.2.1.1 dX9_join_45 ?_
        refine va_ldcS hx hb ho C0.2.2.2.1.1 dX9_join_47 ?_
        refine h_gov C0 hW (va_runI (As := [va_rf o25, .ref (u.1 0).1, .ref (u.1 0).1]) (rest := [.ref q20, .int z1, va_rf o18]) ⟨hx, hb, hml, ho, hts⟩ (k_X2_init (l := l) (u := u) (X := X) (sz := H.size) _ q20 o25 (some (u.1 0).1) (some (u.1 0).1) S22  hw) (cwI 3 hts gX9_join_X2_init rfl rfl rfl (hts _ (List.mem_of_getElem? (i := 4) rfl)) (hts _ (List.mem_of_getElem? (i := 19) rfl)) (hts _ (List.mem_of_getElem? (i := 20) rfl)) rfl (by decide +kernel) ⟨Nat.le_of_ble_eq_true rfl, Nat.le_of_ble_eq_true rfl⟩) ⟨h_blind, (h_pre C0 hW [.ref q20, va_rf o25, .ref (u.1 0).1, .ref (u.1 0).1])⟩ rfl rfl hl.1 rfl (lv_room (by simp [va_rf_cat, va_c_ref, va_c_int, va_c_null])) dX9_join_49 ⟨by show _ ≤ MC; omega, by show _ ≤ MS; omega⟩) (fun S28 H locs h29 hW => ?_)
        replace hw := h29
        obtain ⟨a30, rfl, hw⟩ := hw
        obtain ⟨N31, g32, h33, h34, h36, hw⟩ := hw
        refine h_qast C0 hW 7 3 h33 rfl h36 rfl h34 dX9_join_52 (fun H locs hW => ?_)
        obtain ⟨S35, eS35⟩ : ∃ z : hS, z = upS S28 a30 (.inl (u.2.1 7, N31, .inr (.inr (.inr (.inr (va_up g32 (z1 : Int32).toNatClampNeg (some q20))))))) := ⟨_, rfl⟩
        rw [← eS35] at hW
        replace hw := hw S35 eS35
        refine lv_iconst (v := 0) hx hb dX9_join_53 (by decide) ?_
        exact hret 0 S35 _ _ _ _ (by omega) (by omega) hw rfl dX9_join_54 _ _ _ hW hl
      · subst c12
        replace hw := hw.1 rfl
        refine lv_aload_n hx hb dX9_join_27 rfl (lv_at hl 1 rfl) ?_
        obtain ⟨h15, hw⟩ := hw
        refine h_goi C0 hW (va_runV (As := []) (rest := []) ⟨hx, hb, hml, ho, hts⟩ (k_X9_refuseNull (l := l) (u := u) (X := X) (sz := H.size) _ t0  S  hw) (cwV 0 hts gX9_join_X9_refuseNull rfl rfl rfl (by decide +kernel) ⟨Nat.le_of_ble_eq_true rfl, Nat.le_of_ble_eq_true rfl⟩) ⟨h_blind, (h_recv C0 hW (ci := 10) rfl h15), (h_pre C0 hW [.ref t0])⟩ rfl rfl hl.1 rfl (lv_room (Nat.le_of_ble_eq_true rfl)) dX9_join_28 ⟨by show _ ≤ MC; omega, by show _ ≤ MS; omega⟩) (fun r14 S16 H locs h17 hW => ?_)
        replace hw := h17
        exact hret r14 S16 _ _ _ _ (by omega) (by omega) hw rfl dX9_join_31 _ _ _ hW hl
    · subst c8
      replace hw := hw.1 rfl
      refine lv_iconst (v := (-1)) hx hb dX9_join_18 (by decide) ?_
      exact hret (-1) S _ _ _ _ (by omega) (by omega) hw rfl dX9_join_19 _ _ _ hW hl
set_option maxHeartbeats 4000000 in
set_option maxRecDepth 100000 in
theorem k_X9_join {l : Launch} {D : va_G} {u : hU} {X : va_W} {sz : Nat} (post : Int32 → hS → Prop) (t0 : Nat) (z1 : Int32) (z2 : Int32) (S : hS) (mc ms : Nat) (hw : w_X9_join u post t0 z1 z2 S mc ms) : hMi l yX9_join wsX9_join (rm_X9_join mc ms) D (gt u.2.1) u.1 u.2.2 sz X S [.ref t0, .int z1, .int z2] post mc ms := by
  refine hMi_of (cc := cX9_join) (nL := 4) (ty := .int) (own := RX9) (by decide) rfl rfl (Nat.le_of_ble_eq_true rfl) ?_
  intro p e s m args below meth c A Q C0 hin hret
  exact t_X9_join_0 C0 t0 post hret z1 z2 S mc ms 0 0 ⟨by omega, by omega⟩ hw
abbrev rm_X9_addTo (MC MS : Nat) : Room := { frames := 8, cells := MC, slots := MS, locals := 176 }
set_option maxHeartbeats 4000000 in
set_option maxRecDepth 100000 in
theorem t_X9_addTo_0 (C0 : hX p s m args c cX9_addTo 2 RX9 wsX9_addTo D (gt u.2.1) A u.1 u.2.2)  (post : Int32 → hS → Prop) (hret : ∀ (r : Int32) (S' : hS) (pc : Nat) (lv : List (Nat × Value)) (k n : Nat), k ≤ MC → n ≤ MS → post r S' → narrow .int (.int r) = .int r → decode cX9_addTo pc = .ok (.ireturn, 1) → gG p l e (rm_X9_addTo MC MS) s m args below meth c Q D A 2 k n (hC X S') pc lv [.int r])  : ∀ (p1 : Option Nat) (p2 : Option Nat) (S : hS) (mc ms k n : Nat), k + mc ≤ MC ∧ n + ms ≤ MS → w_X9_addTo u post   p1 p2 S mc ms → gG p l e (rm_X9_addTo MC MS) s m args below meth c Q D A 2 k n (hC X S) 0 [(0, va_rf p1), (1, va_rf p2)] [] := by
  obtain ⟨⟨hx, hb, hml, ho, hts, hK, hA⟩, hR⟩ := id C0
  intro p1 p2 S mc ms k n hkn hw H locs ls hW hl
  rw [w_X9_addTo] at hw
  refine lv_aloadV_n hx hb dX9_addTo_0 rfl (lv_at hl 0 rfl) ?_
  refine lv_aloadV_n hx hb dX9_addTo_1 rfl (lv_at hl 1 rfl) ?_
  obtain ⟨a1, rfl, hw⟩ := hw
  obtain ⟨h3, hw⟩ := hw
  refine h_goi C0 hW (va_runV (As := [va_rf p2]) (rest := []) ⟨hx, hb, hml, ho, hts⟩ (k_X2_lengthWith (l := l) (u := u) (X := X) (sz := H.size) _ a1 p2 S  hw) (cwV 1 hts gX9_addTo_X2_lengthWith rfl rfl rfl (by decide +kernel) ⟨Nat.le_of_ble_eq_true rfl, Nat.le_of_ble_eq_true rfl⟩) ⟨h_blind, (h_recv C0 hW (ci := 3) rfl h3), (h_pre C0 hW [.ref a1, va_rf p2])⟩ rfl rfl hl.1 rfl (lv_room (Nat.le_of_ble_eq_true rfl)) dX9_addTo_2 ⟨by show _ ≤ MC; omega, by show _ ≤ MS; omega⟩) (fun r2 S4 H locs h5 hW => ?_)
  obtain ⟨h6, hp⟩ := h5
  rw [h6] at hW
  replace hw := hp
  refine lv_sipush (v := 300) hx hb dX9_addTo_5 (by decide) ?_
  refine lv_icmp_le (tgt := 14) hx hb dX9_addTo_8 (by decide) (fun c7 => ?_) (fun c7 => ?_)
  · replace hw := hw.1 c7
    refine lv_aload_n hx hb dX9_addTo_14 rfl (lv_at hl 0 rfl) ?_
    refine lv_aloadV_n hx hb dX9_addTo_15 rfl (lv_at hl 1 rfl) ?_
    obtain ⟨h13, k9, n10, h11, h12, hw⟩ := hw
    refine h_gov C0 hW (va_runV (As := [va_rf p2]) (rest := []) ⟨hx, hb, hml, ho, hts⟩ (k_X2_addElement (l := l) (u := u) (X := X) (sz := H.size) _ a1 p2 S k9 n10 hw) (cwV 1 hts gX9_addTo_X2_addElement rfl rfl rfl (by decide +kernel) ⟨Nat.le_of_ble_eq_true rfl, Nat.le_of_ble_eq_true rfl⟩) ⟨h_blind, (h_recv C0 hW (ci := 3) rfl h13), (h_pre C0 hW [.ref a1, va_rf p2])⟩ rfl rfl hl.1 rfl (lv_room (Nat.le_of_ble_eq_true rfl)) dX9_addTo_16 ⟨by show _ ≤ MC; omega, by show _ ≤ MS; omega⟩) (fun S14 H locs h15 hW => ?_)
    replace hw := h15
    have hkn : (k + k9) + (mc - k9) ≤ MC ∧ (n + n10) + (ms - n10) ≤ MS := by omega
    refine lv_aload_n hx hb dX9_addTo_19 rfl (lv_at hl 0 rfl) ?_
    obtain ⟨h17, hw⟩ := hw
    refine h_goi C0 hW (va_runV (As := []) (rest := []) ⟨hx, hb, hml, ho, hts⟩ (k_X2_resultLength (l := l) (u := u) (X := X) (sz := H.size) _ a1  S14  hw) (cwV 0 hts gX9_addTo_X2_resultLength rfl rfl rfl (by decide +kernel) ⟨Nat.le_of_ble_eq_true rfl, Nat.le_of_ble_eq_true rfl⟩) ⟨h_blind, (h_recv C0 hW (ci := 3) rfl h17), (h_pre C0 hW [.ref a1])⟩ rfl rfl hl.1 rfl (lv_room (Nat.le_of_ble_eq_true rfl)) dX9_addTo_20 ⟨by show _ ≤ MC; omega, by show _ ≤ MS; omega⟩) (fun r16 S18 H locs h19 hW => ?_)
    obtain ⟨h20, hp⟩ := h19
    rw [h20] at hW
    replace hw := hp
    exact hret r16 S14 _ _ _ _ (by omega) (by omega) hw rfl dX9_addTo_23 _ _ _ hW hl
  · replace hw := hw.2 c7
    refine lv_bipush (v := (-3)) hx hb dX9_addTo_11 (by decide) ?_
    exact hret (-3) S _ _ _ _ (by omega) (by omega) hw rfl dX9_addTo_13 _ _ _ hW hl
set_option maxHeartbeats 4000000 in
set_option maxRecDepth 100000 in
theorem k_X9_addTo {l : Launch} {D : va_G} {u : hU} {X : va_W} {sz : Nat} (post : Int32 → hS → Prop) (p1 : Option Nat) (p2 : Option Nat) (S : hS) (mc ms : Nat) (hw : w_X9_addTo u post  p1 p2 S mc ms) : hMi l yX9_addTo wsX9_addTo (rm_X9_addTo mc ms) D (gt u.2.1) u.1 u.2.2 sz X S [va_rf p1, va_rf p2] post mc ms := by
  refine hMi_of (cc := cX9_addTo) (nL := 2) (ty := .int) (own := RX9) (by decide) rfl rfl (by cases p1 <;> cases p2 <;> exact Nat.le_of_ble_eq_true rfl) ?_
  intro p e s m args below meth c A Q C0 hin hret
  have hfin := t_X9_addTo_0 C0  post hret p1 p2 S mc ms 0 0 ⟨by omega, by omega⟩ hw
  intro H locs ls hW hl
  refine hfin H locs ls hW ?_
  cases p1 <;> cases p2 <;> exact hl
abbrev rm_X9_add (MC MS : Nat) : Room := { frames := 9, cells := MC, slots := MS, locals := 197 }
theorem in_X9_add_RX6 : ∀ w ∈ wsX60, w ∈ wsX9_add := fun w hw9 => List.mem_cons_of_mem _ (List.mem_append_left _ (List.mem_append_left _ (List.mem_append_left _ (List.mem_append_right _ hw9))))
theorem in_X9_add_RX9 : ∀ w ∈ wsX90, w ∈ wsX9_add := fun w hw9 => List.mem_cons_of_mem _ (List.mem_append_left _ (List.mem_append_left _ (List.mem_append_left _ (List.mem_append_left _ (List.mem_append_right _ hw9)))))
set_option maxHeartbeats 4000000 in
set_option maxRecDepth 100000 in
theorem t_X9_add_54 (C0 : hX p s m args c cX9_add 5 RX9 wsX9_add D (gt u.2.1) A u.1 u.2.2) (t0 : Nat) (post : Int32 → hS → Prop) (hret : ∀ (r : Int32) (S' : hS) (pc : Nat) (lv : List (Nat × Value)) (k n : Nat), k ≤ MC → n ≤ MS → post r S' → narrow .int (.int r) = .int r → decode cX9_add pc = .ok (.ireturn, 1) → gG p l e (rm_X9_add MC MS) s m args below meth c Q D A 5 k n (hC X S') pc lv [.int r])  : ∀ (s0 : Option Nat) (s1 : Nat) (S : hS) (mc ms k n : Nat), k + mc ≤ MC ∧ n + ms ≤ MS → w_X9_add_54 u post t0  s0 s1 S mc ms → gG p l e (rm_X9_add MC MS) s m args below meth c Q D A 5 k n (hC X S) 54 [(0, .ref t0)] [va_rf s0, .ref s1] := by
  obtain ⟨⟨hx, hb, hml, ho, hts, hK, hA⟩, hR⟩ := id C0
  intro s0 s1 S mc ms k n hkn hw H locs ls hW hl
  rw [w_X9_add_54] at hw
  obtain ⟨k27, n28, h29, h30, hw⟩ := hw
  refine h_goi C0 hW (va_runS (As := [.ref s1, va_rf s0]) (rest := []) ⟨hx, hb, hml, ho, hts⟩ (k_X9_addTo (l := l) (u := u) (X := X) (sz := H.size) _ (some s1) s0 S k27 n28 hw) (va_cwS 2 hts gX9_add_X9_addTo rfl rfl rfl (by decide +kernel) ⟨Nat.le_of_ble_eq_true rfl, Nat.le_of_ble_eq_true rfl⟩) ⟨h_blind, (h_pre C0 hW [.ref s1, va_rf s0])⟩ rfl rfl hl.1 rfl (lv_room (Nat.le_of_ble_eq_true rfl)) dX9_add_54 ⟨by show _ ≤ MC; omega, by show _ ≤ MS; omega⟩) (fun r26 S31 H locs h32 hW => ?_)
  replace hw := h32
  have hkn : (k + k27) + (mc - k27) ≤ MC ∧ (n + n28) + (ms - n28) ≤ MS := by omega
  exact hret r26 S31 _ _ _ _ (by omega) (by omega) hw rfl dX9_add_57 _ _ _ hW hl
set_option maxHeartbeats 4000000 in
set_option maxRecDepth 100000 in
theorem t_X9_add_0 (C0 : hX p s m args c cX9_add 5 RX9 wsX9_add D (gt u.2.1) A u.1 u.2.2) (t0 : Nat) (post : Int32 → hS → Prop) (hret : ∀ (r : Int32) (S' : hS) (pc : Nat) (lv : List (Nat × Value)) (k n : Nat), k ≤ MC → n ≤ MS → post r S' → narrow .int (.int r) = .int r → decode cX9_add pc = .ok (.ireturn, 1) → gG p l e (rm_X9_add MC MS) s m args below meth c Q D A 5 k n (hC X S') pc lv [.int r])  : ∀ (z1 : Int32) (z2 : Int32) (S : hS) (mc ms k n : Nat), k + mc ≤ MC ∧ n + ms ≤ MS → w_X9_add u post t0  z1 z2 S mc ms → gG p l e (rm_X9_add MC MS) s m args below meth c Q D A 5 k n (hC X S) 0 [(0, .ref t0), (1, .int z1), (2, .int z2)] [] := by
  obtain ⟨⟨hx, hb, hml, ho, hts, hK, hA⟩, hR⟩ := id C0
  intro z1 z2 S mc ms k n hkn hw H locs ls hW hl
  rw [w_X9_add] at hw
  refine lv_aload_n hx hb dX9_add_0 rfl (lv_at hl 0 rfl) ?_
  refine lv_iload_n hx hb dX9_add_1 rfl (lv_at hl 2 rfl) ?_
  obtain ⟨h2, hw⟩ := hw
  refine h_goq C0 hW (va_runV (As := [.int z2]) (rest := []) ⟨hx, hb, hml, ho, hts⟩ (k_X9_slotAt (l := l) (u := u) (X := X) (sz := H.size) _ t0 z2 S  hw) (cwV 1 hts gX9_add_X9_slotAt rfl rfl rfl (by decide +kernel) ⟨Nat.le_of_ble_eq_true rfl, Nat.le_of_ble_eq_true rfl⟩) ⟨h_blind, (h_recv C0 hW (ci := 10) rfl h2), (h_pre C0 hW [.ref t0, .int z2])⟩ rfl rfl hl.1 rfl (lv_room (Nat.le_of_ble_eq_true rfl)) dX9_add_2 ⟨by show _ ≤ MC; omega, by show _ ≤ MS; omega⟩) (fun r1 S3 H locs h4 hW => ?_)
  obtain ⟨h5, hp⟩ := h4
  rw [h5] at hW
  replace hw := hp
  refine lv_astoreV_n (i := 3) (lv' := [(3, va_rf r1), (0, .ref t0), (1, .int z1), (2, .int z2)]) hx hb dX9_add_5 rfl hl (by decide) rfl (fun ls hl9 => ?_)
  replace hl := hl9
  refine lv_iload_n hx hb dX9_add_6 rfl (lv_at hl 2 rfl) ?_
  refine lv_iconst (v := 3) hx hb dX9_add_7 (by decide) ?_
  refine g_calls (As := [.int z1, .int 3]) (rest := []) ⟨hx, hb, hml, ho, hts⟩ hl.1 (k_X9_isWithin (l := l) _ z1 3 hw) (va_cwS 2 hts gX9_add_X9_isWithin rfl rfl rfl (by decide +kernel) ⟨Nat.le_of_ble_eq_true rfl, Nat.le_of_ble_eq_true rfl⟩) (Nat.le_of_ble_eq_true rfl) dX9_add_8 rfl ⟨by show _ ≤ MC; omega, by show _ ≤ MS; omega⟩ (fun r6 hp => ?_)
  replace hw := hp
  refine lv_if_eq (tgt := 18) hx hb dX9_add_11 (by decide) (fun c7 => ?_) (fun c7 => ?_)
  · replace hw := hw.1 c7
    refine lv_iconst (v := (-1)) hx hb dX9_add_18 (by decide) ?_
    exact hret (-1) S _ _ _ _ (by omega) (by omega) hw rfl dX9_add_19 _ _ _ hW hl
  · replace hw := hw.2 c7
    refine lv_aloadV_n hx hb dX9_add_14 rfl (lv_at hl 0 rfl) ?_
    refine lv_ifnonnullV (tgt := 20) hx hb dX9_add_15 (by decide) (fun a9 c8 => ?_) (fun c8 => ?_)
    · subst c8
      replace hw := hw.2 a9 rfl
      refine lv_aload_n hx hb dX9_add_20 rfl (lv_at hl 1 rfl) ?_
      obtain ⟨o10, h11, hw⟩ := hw
      refine h_getR C0 hW (T := TX9) (kf := 6) in_X9_add_RX9 h11 rfl (by decide) (List.mem_of_getElem? (i := 1) rfl) rfl dX9_add_21 ?_
      refine lv_iload_n hx hb dX9_add_24 rfl (lv_at hl 2 rfl) ?_
      obtain ⟨a12, rfl, hw⟩ := hw
      obtain ⟨N13, g14, h15, h16, hw⟩ := hw
      refine h_qald C0 hW 7 h15 rfl h16 dX9_add_25 (fun o17 eo17 => ?_)
      replace hw := hw o17 eo17
      refine lv_astoreV (i := 4) (lv' := [(4, va_rf o17), (3, .ref a9), (0, .ref t0), (1, .int z1), (2, .int z2)]) hx hb dX9_add_26 hl (by decide) rfl (fun ls hl9 => ?_)
      replace hl := hl9
      refine lv_aloadV hx hb dX9_add_28 (lv_at hl 0 rfl) ?_
      refine lv_ifnonnullV (tgt := 36) hx hb dX9_add_30 (by decide) (fun a19 c18 => ?_) (fun c18 => ?_)
      · subst c18
        replace hw := hw.2 a19 rfl
        refine lv_aload hx hb dX9_add_36 (lv_at hl 0 rfl) ?_
        refine lv_aload_n hx hb dX9_add_38 rfl (lv_at hl 1 rfl) ?_
        obtain ⟨o20, h21, hw⟩ := hw
        refine h_getRN C0 hW (host := RX9) (T := TX6) (kf := 0) in_X9_add_RX6 h21 rfl (by decide) (by decide +kernel) rfl dX9_add_39 ?_
        refine lv_ifnonnullV (tgt := 50) hx hb dX9_add_42 (by decide) (fun a23 c22 => ?_) (fun c22 => ?_)
        · subst c22
          replace hw := hw.2 a23 rfl
          refine lv_aload_n hx hb dX9_add_50 rfl (lv_at hl 1 rfl) ?_
          obtain ⟨o24, h25, hw⟩ := hw
          refine h_getRN C0 hW (host := RX9) (T := TX6) (kf := 0) in_X9_add_RX6 h25 rfl (by decide) (by decide +kernel) rfl dX9_add_51 ?_
          exact t_X9_add_54 C0 t0 post hret  o24 a19 S mc ms _ _ hkn hw _ _ _ hW (lv_sub hl [2] rfl)
        · subst c22
          replace hw := hw.1 rfl
          refine va_ldcS hx hb ho C0.2.2.2.1.2.2.2.2 dX9_add_45 ?_
          refine lv_goto (tgt := 54) hx hb dX9_add_47 (by decide) ?_
          exact t_X9_add_54 C0 t0 post hret  (some (u.1 2).1) a19 S mc ms _ _ hkn hw _ _ _ hW (lv_sub hl [2] rfl)
      · subst c18
        replace hw := hw.1 rfl
        refine lv_bipush (v := (-4)) hx hb dX9_add_33 (by decide) ?_
        exact hret (-4) S _ _ _ _ (by omega) (by omega) hw rfl dX9_add_35 _ _ _ hW hl
    · subst c8
      replace hw := hw.1 rfl
      refine lv_iconst (v := (-1)) hx hb dX9_add_18 (by decide) ?_
      exact hret (-1) S _ _ _ _ (by omega) (by omega) hw rfl dX9_add_19 _ _ _ hW hl
set_option maxHeartbeats 4000000 in
set_option maxRecDepth 100000 in
theorem k_X9_add {l : Launch} {D : va_G} {u : hU} {X : va_W} {sz : Nat} (post : Int32 → hS → Prop) (t0 : Nat) (z1 : Int32) (z2 : Int32) (S : hS) (mc ms : Nat) (hw : w_X9_add u post t0 z1 z2 S mc ms) : hMi l yX9_add wsX9_add (rm_X9_add mc ms) D (gt u.2.1) u.1 u.2.2 sz X S [.ref t0, .int z1, .int z2] post mc ms := by
  refine hMi_of (cc := cX9_add) (nL := 5) (ty := .int) (own := RX9) (by decide) rfl rfl (Nat.le_of_ble_eq_true rfl) ?_
  intro p e s m args below meth c A Q C0 hin hret
  exact t_X9_add_0 C0 t0 post hret z1 z2 S mc ms 0 0 ⟨by omega, by omega⟩ hw
abbrev rm_X9_joined (MC MS : Nat) : Room := { frames := 8, cells := MC, slots := MS, locals := 175 }
theorem in_X9_joined_RX9 : ∀ w ∈ wsX90, w ∈ wsX9_joined := fun w hw9 => List.mem_cons_of_mem _ (List.mem_append_left _ (List.mem_append_left _ (List.mem_append_left _ (List.mem_append_left _ (List.mem_append_right _ hw9)))))
set_option maxHeartbeats 4000000 in
set_option maxRecDepth 100000 in
theorem t_X9_joined_0 (C0 : hX p s m args c cX9_joined 5 RX9 wsX9_joined D (gt u.2.1) A u.1 u.2.2) (t0 : Nat) (post : Int32 → hS → Prop) (hret : ∀ (r : Int32) (S' : hS) (pc : Nat) (lv : List (Nat × Value)) (k n : Nat), k ≤ MC → n ≤ MS → post r S' → narrow .int (.int r) = .int r → decode cX9_joined pc = .ok (.ireturn, 1) → gG p l e (rm_X9_joined MC MS) s m args below meth c Q D A 5 k n (hC X S') pc lv [.int r])  : ∀ (z1 : Int32) (z2 : Int32) (S : hS) (mc ms k n : Nat), k + mc ≤ MC ∧ n + ms ≤ MS → w_X9_joined u post t0  z1 z2 S mc ms → gG p l e (rm_X9_joined MC MS) s m args below meth c Q D A 5 k n (hC X S) 0 [(0, .ref t0), (1, .int z1), (2, .int z2)] [] := by
  obtain ⟨⟨hx, hb, hml, ho, hts, hK, hA⟩, hR⟩ := id C0
  intro z1 z2 S mc ms k n hkn hw H locs ls hW hl
  rw [w_X9_joined] at hw
  refine lv_aload_n hx hb dX9_joined_0 rfl (lv_at hl 0 rfl) ?_
  refine lv_iload_n hx hb dX9_joined_1 rfl (lv_at hl 2 rfl) ?_
  obtain ⟨h2, hw⟩ := hw
  refine h_goq C0 hW (va_runV (As := [.int z2]) (rest := []) ⟨hx, hb, hml, ho, hts⟩ (k_X9_slotAt (l := l) (u := u) (X := X) (sz := H.size) _ t0 z2 S  hw) (cwV 1 hts gX9_joined_X9_slotAt rfl rfl rfl (by decide +kernel) ⟨Nat.le_of_ble_eq_true rfl, Nat.le_of_ble_eq_true rfl⟩) ⟨h_blind, (h_recv C0 hW (ci := 10) rfl h2), (h_pre C0 hW [.ref t0, .int z2])⟩ rfl rfl hl.1 rfl (lv_room (Nat.le_of_ble_eq_true rfl)) dX9_joined_2 ⟨by show _ ≤ MC; omega, by show _ ≤ MS; omega⟩) (fun r1 S3 H locs h4 hW => ?_)
  obtain ⟨h5, hp⟩ := h4
  rw [h5] at hW
  replace hw := hp
  refine lv_astoreV_n (i := 3) (lv' := [(3, va_rf r1), (0, .ref t0), (1, .int z1), (2, .int z2)]) hx hb dX9_joined_5 rfl hl (by decide) rfl (fun ls hl9 => ?_)
  replace hl := hl9
  refine lv_iload_n hx hb dX9_joined_6 rfl (lv_at hl 2 rfl) ?_
  refine lv_iconst (v := 3) hx hb dX9_joined_7 (by decide) ?_
  refine g_calls (As := [.int z1, .int 3]) (rest := []) ⟨hx, hb, hml, ho, hts⟩ hl.1 (k_X9_isWithin (l := l) _ z1 3 hw) (va_cwS 2 hts gX9_joined_X9_isWithin rfl rfl rfl (by decide +kernel) ⟨Nat.le_of_ble_eq_true rfl, Nat.le_of_ble_eq_true rfl⟩) (Nat.le_of_ble_eq_true rfl) dX9_joined_8 rfl ⟨by show _ ≤ MC; omega, by show _ ≤ MS; omega⟩ (fun r6 hp => ?_)
  replace hw := hp
  refine lv_if_eq (tgt := 18) hx hb dX9_joined_11 (by decide) (fun c7 => ?_) (fun c7 => ?_)
  · replace hw := hw.1 c7
    refine lv_iconst (v := (-1)) hx hb dX9_joined_18 (by decide) ?_
    exact hret (-1) S _ _ _ _ (by omega) (by omega) hw rfl dX9_joined_19 _ _ _ hW hl
  · replace hw := hw.2 c7
    refine lv_aloadV_n hx hb dX9_joined_14 rfl (lv_at hl 0 rfl) ?_
    refine lv_ifnonnullV (tgt := 20) hx hb dX9_joined_15 (by decide) (fun a9 c8 => ?_) (fun c8 => ?_)
    · subst c8
      replace hw := hw.2 a9 rfl
      refine lv_aload_n hx hb dX9_joined_20 rfl (lv_at hl 1 rfl) ?_
      obtain ⟨o10, h11, hw⟩ := hw
      refine h_getR C0 hW (T := TX9) (kf := 6) in_X9_joined_RX9 h11 rfl (by decide) (List.mem_of_getElem? (i := 1) rfl) rfl dX9_joined_21 ?_
      refine lv_iload_n hx hb dX9_joined_24 rfl (lv_at hl 2 rfl) ?_
      obtain ⟨a12, rfl, hw⟩ := hw
      obtain ⟨N13, g14, h15, h16, hw⟩ := hw
      refine h_qald C0 hW 7 h15 rfl h16 dX9_joined_25 (fun o17 eo17 => ?_)
      replace hw := hw o17 eo17
      refine lv_astoreV (i := 4) (lv' := [(4, va_rf o17), (3, .ref a9), (0, .ref t0), (1, .int z1), (2, .int z2)]) hx hb dX9_joined_26 hl (by decide) rfl (fun ls hl9 => ?_)
      replace hl := hl9
      refine lv_aloadV hx hb dX9_joined_28 (lv_at hl 0 rfl) ?_
      refine lv_ifnonnullV (tgt := 36) hx hb dX9_joined_30 (by decide) (fun a19 c18 => ?_) (fun c18 => ?_)
      · subst c18
        replace hw := hw.2 a19 rfl
        refine lv_aload_n hx hb dX9_joined_36 rfl (lv_at hl 1 rfl) ?_
        refine lv_aload hx hb dX9_joined_37 (lv_at hl 0 rfl) ?_
        obtain ⟨h25, k21, n22, h23, h24, hw⟩ := hw
        refine h_goq C0 hW (va_runV (As := []) (rest := [.ref a9]) ⟨hx, hb, hml, ho, hts⟩ (k_X2_result (l := l) (u := u) (X := X) (sz := H.size) _ a19  S k21 n22 hw) (cwV 0 hts gX9_joined_X2_result rfl rfl rfl (by decide +kernel) ⟨Nat.le_of_ble_eq_true rfl, Nat.le_of_ble_eq_true rfl⟩) ⟨h_blind, (h_recv C0 hW (ci := 3) rfl h25), (h_pre C0 hW [.ref a19])⟩ rfl rfl hl.1 rfl (lv_room (Nat.le_of_ble_eq_true rfl)) dX9_joined_39 ⟨by show _ ≤ MC; omega, by show _ ≤ MS; omega⟩) (fun r20 S26 H locs h27 hW => ?_)
        replace hw := h27
        have hkn : (k + k21) + (mc - k21) ≤ MC ∧ (n + n22) + (ms - n22) ≤ MS := by omega
        refine h_goi C0 hW (va_runS (As := [.ref a9, va_rf r20]) (rest := []) ⟨hx, hb, hml, ho, hts⟩ (k_X9_putInto (l := l) (u := u) (X := X) (sz := H.size) _ (some a9) r20 S26  hw) (va_cwS 2 hts gX9_joined_X9_putInto rfl rfl rfl (by decide +kernel) ⟨Nat.le_of_ble_eq_true rfl, Nat.le_of_ble_eq_true rfl⟩) ⟨h_blind, (h_pre C0 hW [.ref a9, va_rf r20])⟩ rfl rfl hl.1 rfl (lv_room (Nat.le_of_ble_eq_true rfl)) dX9_joined_42 ⟨by show _ ≤ MC; omega, by show _ ≤ MS; omega⟩) (fun r28 S29 H locs h30 hW => ?_)
        replace hw := h30
        exact hret r28 S29 _ _ _ _ (by omega) (by omega) hw rfl dX9_joined_45 _ _ _ hW hl
      · subst c18
        replace hw := hw.1 rfl
        refine lv_bipush (v := (-4)) hx hb dX9_joined_33 (by decide) ?_
        exact hret (-4) S _ _ _ _ (by omega) (by omega) hw rfl dX9_joined_35 _ _ _ hW hl
    · subst c8
      replace hw := hw.1 rfl
      refine lv_iconst (v := (-1)) hx hb dX9_joined_18 (by decide) ?_
      exact hret (-1) S _ _ _ _ (by omega) (by omega) hw rfl dX9_joined_19 _ _ _ hW hl
set_option maxHeartbeats 4000000 in
set_option maxRecDepth 100000 in
theorem k_X9_joined {l : Launch} {D : va_G} {u : hU} {X : va_W} {sz : Nat} (post : Int32 → hS → Prop) (t0 : Nat) (z1 : Int32) (z2 : Int32) (S : hS) (mc ms : Nat) (hw : w_X9_joined u post t0 z1 z2 S mc ms) : hMi l yX9_joined wsX9_joined (rm_X9_joined mc ms) D (gt u.2.1) u.1 u.2.2 sz X S [.ref t0, .int z1, .int z2] post mc ms := by
  refine hMi_of (cc := cX9_joined) (nL := 5) (ty := .int) (own := RX9) (by decide) rfl rfl (Nat.le_of_ble_eq_true rfl) ?_
  intro p e s m args below meth c A Q C0 hin hret
  exact t_X9_joined_0 C0 t0 post hret z1 z2 S mc ms 0 0 ⟨by omega, by omega⟩ hw
abbrev rm_X9_joinedLength : Room := { frames := 3, cells := 0, slots := 0, locals := 60 }
theorem in_X9_joinedLength_RX9 : ∀ w ∈ wsX90, w ∈ wsX9_joinedLength := fun w hw9 => List.mem_cons_of_mem _ (List.mem_append_left _ (List.mem_append_left _ (List.mem_append_right _ hw9)))
set_option maxHeartbeats 4000000 in
set_option maxRecDepth 100000 in
theorem t_X9_joinedLength_0 (C0 : hX p s m args c cX9_joinedLength 3 RX9 wsX9_joinedLength D (gt u.2.1) A u.1 u.2.2) {S : hS} (t0 : Nat) (post : Int32 → Prop) (hret : ∀ (r : Int32) (S' : hS) (pc : Nat) (lv : List (Nat × Value)) (k n : Nat), k ≤ 0 → n ≤ 0 → (S' = S ∧ post r) → narrow .int (.int r) = .int r → decode cX9_joinedLength pc = .ok (.ireturn, 1) → gG p l e (rm_X9_joinedLength) s m args below meth c Q D A 3 k n (hC X S') pc lv [.int r])  : ∀ (z1 : Int32), w_X9_joinedLength u post t0  z1 S → gG p l e (rm_X9_joinedLength) s m args below meth c Q D A 3 0 0 (hC X S) 0 [(0, .ref t0), (1, .int z1)] [] := by
  obtain ⟨⟨hx, hb, hml, ho, hts, hK, hA⟩, hR⟩ := id C0
  intro z1 hw H locs ls hW hl
  rw [w_X9_joinedLength] at hw
  refine lv_iload_n hx hb dX9_joinedLength_0 rfl (lv_at hl 1 rfl) ?_
  refine lv_iconst (v := 3) hx hb dX9_joinedLength_1 (by decide) ?_
  refine g_calls (As := [.int z1, .int 3]) (rest := []) ⟨hx, hb, hml, ho, hts⟩ hl.1 (k_X9_isWithin (l := l) _ z1 3 hw) (va_cwS 2 hts gX9_joinedLength_X9_isWithin rfl rfl rfl (by decide +kernel) ⟨Nat.le_of_ble_eq_true rfl, Nat.le_of_ble_eq_true rfl⟩) (Nat.le_of_ble_eq_true rfl) dX9_joinedLength_2 rfl ⟨Nat.le_refl _, Nat.le_refl _⟩ (fun r1 hp => ?_)
  replace hw := hp
  refine lv_if_ne (tgt := 10) hx hb dX9_joinedLength_5 (by decide) (fun c2 => ?_) (fun c2 => ?_)
  · replace hw := hw.1 c2
    refine lv_aload_n hx hb dX9_joinedLength_10 rfl (lv_at hl 0 rfl) ?_
    obtain ⟨o3, h4, hw⟩ := hw
    refine h_getR C0 hW (T := TX9) (kf := 6) in_X9_joinedLength_RX9 h4 rfl (by decide) (List.mem_of_getElem? (i := 1) rfl) rfl dX9_joinedLength_11 ?_
    refine lv_iload_n hx hb dX9_joinedLength_14 rfl (lv_at hl 1 rfl) ?_
    obtain ⟨a5, rfl, hw⟩ := hw
    obtain ⟨N6, g7, h8, h9, hw⟩ := hw
    refine h_qald C0 hW 7 h8 rfl h9 dX9_joinedLength_15 (fun o10 eo10 => ?_)
    replace hw := hw o10 eo10
    refine lv_astoreV_n (i := 2) (lv' := [(2, va_rf o10), (0, .ref t0), (1, .int z1)]) hx hb dX9_joinedLength_16 rfl hl (by decide) rfl (fun ls hl9 => ?_)
    replace hl := hl9
    refine lv_aloadV_n hx hb dX9_joinedLength_17 rfl (lv_at hl 0 rfl) ?_
    refine lv_ifnonnullV (tgt := 24) hx hb dX9_joinedLength_18 (by decide) (fun a12 c11 => ?_) (fun c11 => ?_)
    · subst c11
      replace hw := hw.2 a12 rfl
      refine lv_aload_n hx hb dX9_joinedLength_24 rfl (lv_at hl 0 rfl) ?_
      obtain ⟨h14, hw⟩ := hw
      refine h_goi C0 hW (va_runV (As := []) (rest := []) ⟨hx, hb, hml, ho, hts⟩ (k_X2_resultLength (l := l) (u := u) (X := X) (sz := H.size) _ a12  S  hw) (cwV 0 hts gX9_joinedLength_X2_resultLength rfl rfl rfl (by decide +kernel) ⟨Nat.le_of_ble_eq_true rfl, Nat.le_of_ble_eq_true rfl⟩) ⟨h_blind, (h_recv C0 hW (ci := 3) rfl h14), (h_pre C0 hW [.ref a12])⟩ rfl rfl hl.1 rfl (lv_room (Nat.le_of_ble_eq_true rfl)) dX9_joinedLength_25 ⟨Nat.le_refl _, Nat.le_refl _⟩) (fun r13 S15 H locs h16 hW => ?_)
      obtain ⟨h17, hp⟩ := h16
      rw [h17] at hW
      replace hw := hp
      exact hret r13 S _ _ 0 0 (Nat.le_refl _) (Nat.le_refl _) ⟨rfl, hw⟩ rfl dX9_joinedLength_28 _ _ _ hW hl
    · subst c11
      replace hw := hw.1 rfl
      refine lv_bipush (v := (-4)) hx hb dX9_joinedLength_21 (by decide) ?_
      exact hret (-4) S _ _ 0 0 (Nat.le_refl _) (Nat.le_refl _) ⟨rfl, hw⟩ rfl dX9_joinedLength_23 _ _ _ hW hl
  · replace hw := hw.2 c2
    refine lv_iconst (v := (-1)) hx hb dX9_joinedLength_8 (by decide) ?_
    exact hret (-1) S _ _ 0 0 (Nat.le_refl _) (Nat.le_refl _) ⟨rfl, hw⟩ rfl dX9_joinedLength_9 _ _ _ hW hl
set_option maxHeartbeats 4000000 in
set_option maxRecDepth 100000 in
theorem k_X9_joinedLength {l : Launch} {D : va_G} {u : hU} {X : va_W} {sz : Nat} (post : Int32 → Prop) (t0 : Nat) (z1 : Int32) (S : hS) (hw : w_X9_joinedLength u post t0 z1 S) : hMi l yX9_joinedLength wsX9_joinedLength rm_X9_joinedLength D (gt u.2.1) u.1 u.2.2 sz X S [.ref t0, .int z1] (fun r S' => S' = S ∧ post r) 0 0 := by
  refine hMi_of (cc := cX9_joinedLength) (nL := 3) (ty := .int) (own := RX9) (by decide) rfl rfl (Nat.le_of_ble_eq_true rfl) ?_
  intro p e s m args below meth c A Q C0 hin hret
  exact t_X9_joinedLength_0 C0 t0 post hret z1 hw
abbrev rm_X9_refusals : Room := { frames := 0, cells := 0, slots := 0, locals := 0 }
theorem in_X9_refusals_RX9 : ∀ w ∈ wsX90, w ∈ wsX9_refusals := fun w hw9 => List.mem_cons_of_mem _ (List.mem_append_right _ hw9)
set_option maxHeartbeats 4000000 in
set_option maxRecDepth 100000 in
theorem t_X9_refusals_0 (C0 : hX p s m args c cX9_refusals 2 RX9 wsX9_refusals D (gt u.2.1) A u.1 u.2.2) {S : hS} (t0 : Nat) (post : Int32 → Prop) (hret : ∀ (r : Int32) (S' : hS) (pc : Nat) (lv : List (Nat × Value)) (k n : Nat), k ≤ 0 → n ≤ 0 → (S' = S ∧ post r) → narrow .int (.int r) = .int r → decode cX9_refusals pc = .ok (.ireturn, 1) → gG p l e (rm_X9_refusals) s m args below meth c Q D A 2 k n (hC X S') pc lv [.int r])  : ∀ (z1 : Int32), w_X9_refusals u post t0  z1 S → gG p l e (rm_X9_refusals) s m args below meth c Q D A 2 0 0 (hC X S) 0 [(0, .ref t0), (1, .int z1)] [] := by
  obtain ⟨⟨hx, hb, hml, ho, hts, hK, hA⟩, hR⟩ := id C0
  intro z1 hw H locs ls hW hl
  rw [w_X9_refusals] at hw
  refine lv_iload_n hx hb dX9_refusals_0 rfl (lv_at hl 1 rfl) ?_
  by_cases c1 : z1 = 0
  · replace hw := hw.1 c1
    refine lv_lookup (tgt := 28) (off := 27) hx hb dX9_refusals_1 (by decide) (by rw [c1]; decide) (by decide) ?_
    refine lv_aload_n hx hb dX9_refusals_28 rfl (lv_at hl 0 rfl) ?_
    obtain ⟨v2, h3, hw⟩ := hw
    refine h_getI C0 hW (T := TX9) (kf := 7) in_X9_refusals_RX9 h3 rfl (by decide) (List.mem_of_getElem? (i := 1) rfl) rfl dX9_refusals_29 ?_
    exact hret v2 S _ _ 0 0 (Nat.le_refl _) (Nat.le_refl _) ⟨rfl, hw⟩ rfl dX9_refusals_32 _ _ _ hW hl
  by_cases c4 : z1 = 1
  · replace hw := hw.2.1 c4
    refine lv_lookup (tgt := 33) (off := 32) hx hb dX9_refusals_1 (by decide) (by rw [c4]; decide) (by decide) ?_
    refine lv_aload_n hx hb dX9_refusals_33 rfl (lv_at hl 0 rfl) ?_
    obtain ⟨v5, h6, hw⟩ := hw
    refine h_getI C0 hW (T := TX9) (kf := 8) in_X9_refusals_RX9 h6 rfl (by decide) (List.mem_of_getElem? (i := 2) rfl) rfl dX9_refusals_34 ?_
    exact hret v5 S _ _ 0 0 (Nat.le_refl _) (Nat.le_refl _) ⟨rfl, hw⟩ rfl dX9_refusals_37 _ _ _ hW hl
  replace hw := hw.2.2 c1 c4
  refine lv_lookup (tgt := 38) (off := 37) hx hb dX9_refusals_1 (by decide) (by show Op.lookupswitch.offset [(0, 27), (1, 32)] 37 (z1 : Int32).toInt = 37; rw [Op.lookupswitch.offset_cons, if_neg (sw_ne (v := 0) (by decide) c1)]; rw [Op.lookupswitch.offset_cons, if_neg (sw_ne (v := 1) (by decide) c4)]; rfl) (by decide) ?_
  refine lv_iconst (v := (-1)) hx hb dX9_refusals_38 (by decide) ?_
  exact hret (-1) S _ _ 0 0 (Nat.le_refl _) (Nat.le_refl _) ⟨rfl, hw⟩ rfl dX9_refusals_39 _ _ _ hW hl
set_option maxHeartbeats 4000000 in
set_option maxRecDepth 100000 in
theorem k_X9_refusals {l : Launch} {D : va_G} {u : hU} {X : va_W} {sz : Nat} (post : Int32 → Prop) (t0 : Nat) (z1 : Int32) (S : hS) (hw : w_X9_refusals u post t0 z1 S) : hMi l yX9_refusals wsX9_refusals rm_X9_refusals D (gt u.2.1) u.1 u.2.2 sz X S [.ref t0, .int z1] (fun r S' => S' = S ∧ post r) 0 0 := by
  refine hMi_of (cc := cX9_refusals) (nL := 2) (ty := .int) (own := RX9) (by decide) rfl rfl (Nat.le_of_ble_eq_true rfl) ?_
  intro p e s m args below meth c A Q C0 hin hret
  exact t_X9_refusals_0 C0 t0 post hret z1 hw
end RAWM
