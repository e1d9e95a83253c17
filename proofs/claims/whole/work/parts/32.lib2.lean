section RAWM
variable {p : Program} {l : Launch} {e : Env} {s : State} {m : MethodId} {args : Array Value} {below : List Frame} {meth : Method} {c : Code} {Q : State → Prop}
variable {D : va_G} {A : Nat → Prop} {u : hU} {X : va_W} {MC MS : Nat}
abbrev rm_J5_charAt_50 : Room := { frames := 2, cells := 0, slots := 0, locals := 43 }
theorem in_J5_charAt_50_RJ4 : ∀ w ∈ wsJ40, w ∈ wsJ5_charAt_5068e := fun w hw9 => List.mem_cons_of_mem _ (List.mem_append_right _ hw9)
set_option maxHeartbeats 4000000 in
set_option maxRecDepth 100000 in
theorem t_J5_charAt_50_0 (C0 : hX p s m args c cJ5_charAt_5068e 5 RJ5 wsJ5_charAt_5068e D (gt u.2.1) A u.1 u.2.2) {S : hS} (t0 : Nat) (post : Int32 → Prop) (hret : ∀ (r : Int32) (S' : hS) (pc : Nat) (lv : List (Nat × Value)) (k n : Nat), k ≤ 0 → n ≤ 0 → (S' = S ∧ post r) → narrow .char (.int r) = .int r → decode cJ5_charAt_5068e pc = .ok (.ireturn, 1) → gG p l e (rm_J5_charAt_50) s m args below meth c Q D A 5 k n (hC X S') pc lv [.int r])  : ∀ (z1 : Int32), w_J5_charAt_50 u post t0  z1 S → gG p l e (rm_J5_charAt_50) s m args below meth c Q D A 5 0 0 (hC X S) 0 [(0, .ref t0), (1, .int z1)] [] := by
  obtain ⟨⟨hx, hb, hml, ho, hts, hK, hA⟩, hR⟩ := id C0
  intro z1 hw H locs ls hW hl
  rw [w_J5_charAt_50] at hw
  refine lv_aload_n hx hb dJ5_charAt_5068e_0 rfl (lv_at hl 0 rfl) ?_
  obtain ⟨v1, h2, hw⟩ := hw
  refine h_getI C0 hW (T := TJ4) (kf := 1) in_J5_charAt_50_RJ4 h2 rfl (by decide) (List.mem_of_getElem? (i := 1) rfl) rfl dJ5_charAt_5068e_1 ?_
  refine lv_istore_n (lv' := [(2, .int v1), (0, .ref t0), (1, .int z1)]) hx hb dJ5_charAt_5068e_4 rfl hl (by decide) rfl (fun ls hl9 => ?_)
  replace hl := hl9
  refine lv_aload_n hx hb dJ5_charAt_5068e_5 rfl (lv_at hl 1 rfl) ?_
  obtain ⟨o3, h4, hw⟩ := hw
  refine h_getR C0 hW (T := TJ4) (kf := 0) in_J5_charAt_50_RJ4 h4 rfl (by decide) (List.mem_of_getElem? (i := 2) rfl) rfl dJ5_charAt_5068e_6 ?_
  refine lv_astoreV_n (i := 3) (lv' := [(3, va_rf o3), (2, .int v1), (0, .ref t0), (1, .int z1)]) hx hb dJ5_charAt_5068e_9 rfl hl (by decide) rfl (fun ls hl9 => ?_)
  replace hl := hl9
  refine lv_aload_n hx hb dJ5_charAt_5068e_10 rfl (lv_at hl 2 rfl) ?_
  obtain ⟨v5, h6, hw⟩ := hw
  refine h_getI C0 hW (T := TJ4) (kf := 3) in_J5_charAt_50_RJ4 h6 rfl (by decide) (List.mem_of_getElem? (i := 3) rfl) rfl dJ5_charAt_5068e_11 ?_
  refine lv_aloadV_n hx hb dJ5_charAt_5068e_14 rfl (lv_at hl 0 rfl) ?_
  obtain ⟨a7, rfl, hw⟩ := hw
  obtain ⟨N8, g9, h10, hw⟩ := hw
  refine h_blen C0 hW h10 rfl dJ5_charAt_5068e_15 ?_
  refine lv_iload_n hx hb dJ5_charAt_5068e_16 rfl (lv_at hl 1 rfl) ?_
  refine lv_ishr hx hb dJ5_charAt_5068e_17 ?_
  refine va_mmin hx hb (hml.trans hl.1.symm) ho (hts (.methodLink RJ5 138 Lib.Math.min.name) (List.mem_of_getElem? (i := 4) rfl)) (hts _ (List.mem_of_getElem? (i := 5) rfl)) (hts _ (List.mem_of_getElem? (i := 6) rfl)) (hts _ (List.mem_of_getElem? (i := 7) rfl)) (Nat.le_of_ble_eq_true rfl) (Nat.le_of_ble_eq_true rfl) (Nat.zero_le _) (Nat.zero_le _) dJ5_charAt_5068e_18 ?_
  refine lv_topi (fun v11 ev11 => ?_)
  replace hw := hw v11 ev11
  refine lv_istore (lv' := [(4, .int v11), (3, .ref a7), (2, .int v1), (0, .ref t0), (1, .int z1)]) hx hb dJ5_charAt_5068e_21 hl (by decide) rfl (fun ls hl9 => ?_)
  replace hl := hl9
  refine lv_iload_n hx hb dJ5_charAt_5068e_23 rfl (lv_at hl 4 rfl) ?_
  refine lv_iload hx hb dJ5_charAt_5068e_24 (lv_at hl 0 rfl) ?_
  refine h_gov C0 hW (va_runS (As := [.int z1, .int v11]) (rest := []) ⟨hx, hb, hml, ho, hts⟩ (k_J0_checkIndex_df (l := l) (u := u) (X := X) (sz := H.size) _ z1 v11 S  hw) (va_cwS 2 hts gJ5_charAt_5068e_J0_checkIndex_df160 rfl rfl rfl (by decide +kernel) ⟨Nat.le_of_ble_eq_true rfl, Nat.le_of_ble_eq_true rfl⟩) ⟨h_blind, (h_pre C0 hW [.int z1, .int v11])⟩ rfl rfl hl.1 rfl (lv_room (Nat.le_of_ble_eq_true rfl)) dJ5_charAt_5068e_26 ⟨Nat.le_refl _, Nat.le_refl _⟩) (fun S13 H locs h14 hW => ?_)
  obtain ⟨h15, hp⟩ := h14
  rw [h15] at hW
  replace hw := hp
  refine lv_iload_n hx hb dJ5_charAt_5068e_29 rfl (lv_at hl 2 rfl) ?_
  refine lv_if_ne (tgt := 42) hx hb dJ5_charAt_5068e_30 (by decide) (fun c16 => ?_) (fun c16 => ?_)
  · replace hw := hw.1 c16
    refine lv_aload_n hx hb dJ5_charAt_5068e_42 rfl (lv_at hl 1 rfl) ?_
    refine lv_iload_n hx hb dJ5_charAt_5068e_43 rfl (lv_at hl 4 rfl) ?_
    exact hw.elim
  · replace hw := hw.2 c16
    refine lv_aload_n hx hb dJ5_charAt_5068e_33 rfl (lv_at hl 1 rfl) ?_
    refine lv_iload_n hx hb dJ5_charAt_5068e_34 rfl (lv_at hl 4 rfl) ?_
    obtain ⟨N17, g18, h19, h20, hw⟩ := hw
    refine h_bald C0 hW h19 rfl h20 dJ5_charAt_5068e_35 ?_
    refine lv_sipush (v := 255) hx hb dJ5_charAt_5068e_36 (by decide) ?_
    refine lv_iand hx hb dJ5_charAt_5068e_39 ?_
    refine lv_i2c hx hb dJ5_charAt_5068e_40 rfl ?_
    exact hret ((((g18 (z1 : Int32).toNatClampNeg) &&& 255) : Int32).toUInt32 % 65536).toInt32 S _ _ 0 0 (Nat.le_refl _) (Nat.le_refl _) ⟨rfl, hw.2⟩ hw.1 dJ5_charAt_5068e_41 _ _ _ hW hl
set_option maxHeartbeats 4000000 in
set_option maxRecDepth 100000 in
theorem k_J5_charAt_50 {l : Launch} {D : va_G} {u : hU} {X : va_W} {sz : Nat} (post : Int32 → Prop) (t0 : Nat) (z1 : Int32) (S : hS) (hw : w_J5_charAt_50 u post t0 z1 S) : hMi l yJ5_charAt_5068e wsJ5_charAt_5068e rm_J5_charAt_50 D (gt u.2.1) u.1 u.2.2 sz X S [.ref t0, .int z1] (fun r S' => S' = S ∧ post r) 0 0 := by
  refine hMi_of (cc := cJ5_charAt_5068e) (nL := 5) (ty := .char) (own := RJ5) (by decide) rfl rfl (Nat.le_of_ble_eq_true rfl) ?_
  intro p e s m args below meth c A Q C0 hin hret
  exact t_J5_charAt_50_0 C0 t0 post hret z1 hw
abbrev rm_J4_charAt_50 : Room := { frames := 3, cells := 0, slots := 0, locals := 67 }
set_option maxHeartbeats 4000000 in
set_option maxRecDepth 100000 in
theorem t_J4_charAt_50_0 (C0 : hX p s m args c cJ4_charAt_5068e 2 RJ4 wsJ4_charAt_5068e D (gt u.2.1) A u.1 u.2.2) {S : hS} (t0 : Nat) (post : Int32 → Prop) (hret : ∀ (r : Int32) (S' : hS) (pc : Nat) (lv : List (Nat × Value)) (k n : Nat), k ≤ 0 → n ≤ 0 → (S' = S ∧ post r) → narrow .char (.int r) = .int r → decode cJ4_charAt_5068e pc = .ok (.ireturn, 1) → gG p l e (rm_J4_charAt_50) s m args below meth c Q D A 2 k n (hC X S') pc lv [.int r])  : ∀ (z1 : Int32), w_J4_charAt_50 u post t0  z1 S → gG p l e (rm_J4_charAt_50) s m args below meth c Q D A 2 0 0 (hC X S) 0 [(0, .ref t0), (1, .int z1)] [] := by
  obtain ⟨⟨hx, hb, hml, ho, hts, hK, hA⟩, hR⟩ := id C0
  intro z1 hw H locs ls hW hl
  rw [w_J4_charAt_50] at hw
  refine lv_aload_n hx hb dJ4_charAt_5068e_0 rfl (lv_at hl 0 rfl) ?_
  refine lv_iload_n hx hb dJ4_charAt_5068e_1 rfl (lv_at hl 1 rfl) ?_
  obtain ⟨h2, hw⟩ := hw
  refine h_goi C0 hW (va_runSU (As := [.int z1]) (rest := []) ((C0.1.2.2.2.2.2.1.1 1 (RJ4, TJ4, 4) rfl).2) ⟨hx, hb, hml, ho, hts⟩ (k_J5_charAt_50 (l := l) (u := u) (X := X) (sz := H.size) _ t0 z1 S  hw) (va_cwSU 1 hts gJ4_charAt_5068e_J5_charAt_5068e_s329 rfl rfl rfl (by decide +kernel) ⟨Nat.le_of_ble_eq_true rfl, Nat.le_of_ble_eq_true rfl⟩) ⟨h_blind, (h_recv C0 hW (ci := 1) rfl h2), (h_pre C0 hW [.ref t0, .int z1])⟩ rfl rfl hl.1 rfl (lv_room (Nat.le_of_ble_eq_true rfl)) dJ4_charAt_5068e_2 ⟨Nat.le_refl _, Nat.le_refl _⟩) (fun r1 S3 H locs h4 hW => ?_)
  obtain ⟨h5, hp⟩ := h4
  rw [h5] at hW
  replace hw := hp
  exact hret r1 S _ _ 0 0 (Nat.le_refl _) (Nat.le_refl _) ⟨rfl, hw.2⟩ hw.1 dJ4_charAt_5068e_5 _ _ _ hW hl
set_option maxHeartbeats 4000000 in
set_option maxRecDepth 100000 in
theorem k_J4_charAt_50 {l : Launch} {D : va_G} {u : hU} {X : va_W} {sz : Nat} (post : Int32 → Prop) (t0 : Nat) (z1 : Int32) (S : hS) (hw : w_J4_charAt_50 u post t0 z1 S) : hMi l yJ4_charAt_5068e wsJ4_charAt_5068e rm_J4_charAt_50 D (gt u.2.1) u.1 u.2.2 sz X S [.ref t0, .int z1] (fun r S' => S' = S ∧ post r) 0 0 := by
  refine hMi_of (cc := cJ4_charAt_5068e) (nL := 2) (ty := .char) (own := RJ4) (by decide) rfl rfl (Nat.le_of_ble_eq_true rfl) ?_
  intro p e s m args below meth c A Q C0 hin hret
  exact t_J4_charAt_50_0 C0 t0 post hret z1 hw
abbrev rm_J5_setLength_d0 (MC MS : Nat) : Room := { frames := 4, cells := MC, slots := MS, locals := 84 }
theorem in_J5_setLength_d0_RJ4 : ∀ w ∈ wsJ40, w ∈ wsJ5_setLength_d00df := fun w hw9 => List.mem_cons_of_mem _ (List.mem_append_right _ hw9)
set_option maxHeartbeats 4000000 in
set_option maxRecDepth 100000 in
theorem t_J5_setLength_d0_0 (C0 : hX p s m args c cJ5_setLength_d00df 2 RJ5 wsJ5_setLength_d00df D (gt u.2.1) A u.1 u.2.2) (t0 : Nat) (post : hS → Prop) (hret : ∀ (S' : hS) (pc : Nat) (lv : List (Nat × Value)) (k n : Nat), k ≤ MC → n ≤ MS → post S' → decode cJ5_setLength_d00df pc = .ok (.return_, 1) → gG p l e (rm_J5_setLength_d0 MC MS) s m args below meth c Q D A 2 k n (hC X S') pc lv [])  : ∀ (z1 : Int32) (S : hS) (mc ms k n : Nat), k + mc ≤ MC ∧ n + ms ≤ MS → w_J5_setLength_d0 u post t0  z1 S mc ms → gG p l e (rm_J5_setLength_d0 MC MS) s m args below meth c Q D A 2 k n (hC X S) 0 [(0, .ref t0), (1, .int z1)] [] := by
  obtain ⟨⟨hx, hb, hml, ho, hts, hK, hA⟩, hR⟩ := id C0
  intro z1 S mc ms k n hkn hw H locs ls hW hl
  rw [w_J5_setLength_d0] at hw
  refine lv_iload_n hx hb dJ5_setLength_d00df_0 rfl (lv_at hl 1 rfl) ?_
  refine lv_if_ge (tgt := 13) hx hb dJ5_setLength_d00df_1 (by decide) (fun c1 => ?_) (fun c1 => ?_)
  · replace hw := hw.1 c1
    refine lv_aload_n hx hb dJ5_setLength_d00df_13 rfl (lv_at hl 0 rfl) ?_
    refine lv_iload_n hx hb dJ5_setLength_d00df_14 rfl (lv_at hl 1 rfl) ?_
    obtain ⟨h7, k3, n4, h5, h6, hw⟩ := hw
    refine h_gov C0 hW (va_runU (As := [.int z1]) (rest := []) ⟨hx, hb, hml, ho, hts⟩ (k_J5_ensureCapacityInternal_d0 (l := l) (u := u) (X := X) (sz := H.size) _ t0 z1 S k3 n4 hw) (va_cwU 1 hts gJ5_setLength_d00df_J5_ensureCapacityInternal_d00df_u100J4 rfl rfl rfl rfl (by decide +kernel) ⟨Nat.le_of_ble_eq_true rfl, Nat.le_of_ble_eq_true rfl⟩) ⟨h_blind, (h_recv C0 hW (ci := 1) rfl h7), (h_pre C0 hW [.ref t0, .int z1])⟩ rfl rfl hl.1 rfl (lv_room (Nat.le_of_ble_eq_true rfl)) dJ5_setLength_d00df_15 ⟨by show _ ≤ MC; omega, by show _ ≤ MS; omega⟩) (fun S8 H locs h9 hW => ?_)
    replace hw := h9
    have hkn : (k + k3) + (mc - k3) ≤ MC ∧ (n + n4) + (ms - n4) ≤ MS := by omega
    refine lv_aload_n hx hb dJ5_setLength_d00df_18 rfl (lv_at hl 0 rfl) ?_
    obtain ⟨v10, h11, hw⟩ := hw
    refine h_getI C0 hW (T := TJ4) (kf := 3) in_J5_setLength_d0_RJ4 h11 rfl (by decide) (List.mem_of_getElem? (i := 1) rfl) rfl dJ5_setLength_d00df_19 ?_
    refine lv_iload_n hx hb dJ5_setLength_d00df_22 rfl (lv_at hl 1 rfl) ?_
    refine lv_icmp_ge (tgt := 63) hx hb dJ5_setLength_d00df_23 (by decide) (fun c12 => ?_) (fun c12 => ?_)
    · replace hw := hw.1 c12
      refine lv_aload_n hx hb dJ5_setLength_d00df_63 rfl (lv_at hl 0 rfl) ?_
      obtain ⟨v13, h14, hw⟩ := hw
      refine h_getI C0 hW (T := TJ4) (kf := 3) in_J5_setLength_d0_RJ4 h14 rfl (by decide) (List.mem_of_getElem? (i := 1) rfl) rfl dJ5_setLength_d00df_64 ?_
      refine lv_iload_n hx hb dJ5_setLength_d00df_67 rfl (lv_at hl 1 rfl) ?_
      refine lv_icmp_le (tgt := 76) hx hb dJ5_setLength_d00df_68 (by decide) (fun c15 => ?_) (fun c15 => ?_)
      · replace hw := hw.1 c15
        refine lv_aload_n hx hb dJ5_setLength_d00df_76 rfl (lv_at hl 0 rfl) ?_
        refine lv_iload_n hx hb dJ5_setLength_d00df_77 rfl (lv_at hl 1 rfl) ?_
        obtain ⟨fs16, h17, h18, hw⟩ := hw
        refine h_put C0 hW (T := TJ4) (kf := 3) (ty := .int) in_J5_setLength_d0_RJ4 h17 rfl (by decide) h18 tyJ4 tyJ4_ok nmJ4 (List.mem_of_getElem? (i := 1) rfl) rfl (Or.inl rfl) (by decide +kernel) rfl rfl dJ5_setLength_d00df_78 rfl (fun H locs hW => ?_)
        obtain ⟨S19, eS19⟩ : ∃ z : hS, z = upS S8 t0 (.inr (1, fs16.set 3 (.int z1))) := ⟨_, rfl⟩
        rw [← eS19] at hW
        replace hw := hw S19 eS19
        exact hret S19 _ _ _ _ (by omega) (by omega) hw dJ5_setLength_d00df_81 _ _ _ hW hl
      · replace hw := hw.2 c15
        refine lv_aload_n hx hb dJ5_setLength_d00df_71 rfl (lv_at hl 0 rfl) ?_
        refine lv_iconst (v := 1) hx hb dJ5_setLength_d00df_72 (by decide) ?_
        obtain ⟨fs20, h21, h22, hw⟩ := hw
        refine h_put C0 hW (T := TJ4) (kf := 2) (ty := .boolean) in_J5_setLength_d0_RJ4 h21 rfl (by decide) h22 tyJ4 tyJ4_ok nmJ4 (List.mem_of_getElem? (i := 3) rfl) rfl (Or.inl rfl) (by decide +kernel) (by decide) (by decide) dJ5_setLength_d00df_73 rfl (fun H locs hW => ?_)
        obtain ⟨S23, eS23⟩ : ∃ z : hS, z = upS S8 t0 (.inr (1, fs20.set 2 (.int 1))) := ⟨_, rfl⟩
        rw [← eS23] at hW
        replace hw := hw S23 eS23
        refine lv_aload_n hx hb dJ5_setLength_d00df_76 rfl (lv_at hl 0 rfl) ?_
        refine lv_iload_n hx hb dJ5_setLength_d00df_77 rfl (lv_at hl 1 rfl) ?_
        obtain ⟨fs24, h25, h26, hw⟩ := hw
        refine h_put C0 hW (T := TJ4) (kf := 3) (ty := .int) in_J5_setLength_d0_RJ4 h25 rfl (by decide) h26 tyJ4 tyJ4_ok nmJ4 (List.mem_of_getElem? (i := 1) rfl) rfl (Or.inl rfl) (by decide +kernel) rfl rfl dJ5_setLength_d00df_78 rfl (fun H locs hW => ?_)
        obtain ⟨S27, eS27⟩ : ∃ z : hS, z = upS S23 t0 (.inr (1, fs24.set 3 (.int z1))) := ⟨_, rfl⟩
        rw [← eS27] at hW
        replace hw := hw S27 eS27
        exact hret S27 _ _ _ _ (by omega) (by omega) hw dJ5_setLength_d00df_81 _ _ _ hW hl
    · replace hw := hw.2 c12
      refine lv_aload_n hx hb dJ5_setLength_d00df_26 rfl (lv_at hl 0 rfl) ?_
      obtain ⟨h29, hw⟩ := hw
      refine h_goi C0 hW (va_runU (As := []) (rest := []) ⟨hx, hb, hml, ho, hts⟩ (k_J5_isLatin1_aa (l := l) (u := u) (X := X) (sz := H.size) _ t0  S8  hw) (va_cwU 0 hts gJ5_setLength_d00df_J5_isLatin1_aae02_u83J4 rfl rfl rfl rfl (by decide +kernel) ⟨Nat.le_of_ble_eq_true rfl, Nat.le_of_ble_eq_true rfl⟩) ⟨h_blind, (h_recv C0 hW (ci := 1) rfl h29), (h_pre C0 hW [.ref t0])⟩ rfl rfl hl.1 rfl (lv_room (Nat.le_of_ble_eq_true rfl)) dJ5_setLength_d00df_27 ⟨by show _ ≤ MC; omega, by show _ ≤ MS; omega⟩) (fun r28 S30 H locs h31 hW => ?_)
      obtain ⟨h32, hp⟩ := h31
      rw [h32] at hW
      replace hw := hp
      refine lv_if_eq (tgt := 48) hx hb dJ5_setLength_d00df_30 (by decide) (fun c33 => ?_) (fun c33 => ?_)
      · replace hw := hw.1 c33
        refine lv_aload_n hx hb dJ5_setLength_d00df_48 rfl (lv_at hl 0 rfl) ?_
        obtain ⟨o34, h35, hw⟩ := hw
        refine h_getR C0 hW (T := TJ4) (kf := 0) in_J5_setLength_d0_RJ4 h35 rfl (by decide) (List.mem_of_getElem? (i := 2) rfl) rfl dJ5_setLength_d00df_49 ?_
        refine lv_aload_n hx hb dJ5_setLength_d00df_52 rfl (lv_at hl 0 rfl) ?_
        obtain ⟨v36, h37, hw⟩ := hw
        refine h_getI C0 hW (T := TJ4) (kf := 3) in_J5_setLength_d0_RJ4 h37 rfl (by decide) (List.mem_of_getElem? (i := 1) rfl) rfl dJ5_setLength_d00df_53 ?_
        refine lv_iload_n hx hb dJ5_setLength_d00df_56 rfl (lv_at hl 1 rfl) ?_
        exact hw.elim
      · replace hw := hw.2 c33
        refine lv_aload_n hx hb dJ5_setLength_d00df_33 rfl (lv_at hl 0 rfl) ?_
        obtain ⟨o38, h39, hw⟩ := hw
        refine h_getR C0 hW (T := TJ4) (kf := 0) in_J5_setLength_d0_RJ4 h39 rfl (by decide) (List.mem_of_getElem? (i := 2) rfl) rfl dJ5_setLength_d00df_34 ?_
        refine lv_aload_n hx hb dJ5_setLength_d00df_37 rfl (lv_at hl 0 rfl) ?_
        obtain ⟨v40, h41, hw⟩ := hw
        refine h_getI C0 hW (T := TJ4) (kf := 3) in_J5_setLength_d0_RJ4 h41 rfl (by decide) (List.mem_of_getElem? (i := 1) rfl) rfl dJ5_setLength_d00df_38 ?_
        refine lv_iload_n hx hb dJ5_setLength_d00df_41 rfl (lv_at hl 1 rfl) ?_
        exact hw.elim
  · replace hw := hw.2 c1
    exact hw.elim
set_option maxHeartbeats 4000000 in
set_option maxRecDepth 100000 in
theorem k_J5_setLength_d0 {l : Launch} {D : va_G} {u : hU} {X : va_W} {sz : Nat} (post : hS → Prop) (t0 : Nat) (z1 : Int32) (S : hS) (mc ms : Nat) (hw : w_J5_setLength_d0 u post t0 z1 S mc ms) : hMv l yJ5_setLength_d00df wsJ5_setLength_d00df (rm_J5_setLength_d0 mc ms) D (gt u.2.1) u.1 u.2.2 sz X S [.ref t0, .int z1] post mc ms := by
  refine hMv_of (cc := cJ5_setLength_d00df) (nL := 2) (own := RJ5) (by decide) rfl rfl (Nat.le_of_ble_eq_true rfl) ?_
  intro p e s m args below meth c A Q C0 hin hret
  exact t_J5_setLength_d0_0 C0 t0 post hret z1 S mc ms 0 0 ⟨by omega, by omega⟩ hw
abbrev rm_J4_setLength_d0 (MC MS : Nat) : Room := { frames := 5, cells := MC, slots := MS, locals := 105 }
set_option maxHeartbeats 4000000 in
set_option maxRecDepth 100000 in
theorem t_J4_setLength_d0_0 (C0 : hX p s m args c cJ4_setLength_d00df 2 RJ4 wsJ4_setLength_d00df D (gt u.2.1) A u.1 u.2.2) (t0 : Nat) (post : hS → Prop) (hret : ∀ (S' : hS) (pc : Nat) (lv : List (Nat × Value)) (k n : Nat), k ≤ MC → n ≤ MS → post S' → decode cJ4_setLength_d00df pc = .ok (.return_, 1) → gG p l e (rm_J4_setLength_d0 MC MS) s m args below meth c Q D A 2 k n (hC X S') pc lv [])  : ∀ (z1 : Int32) (S : hS) (mc ms k n : Nat), k + mc ≤ MC ∧ n + ms ≤ MS → w_J4_setLength_d0 u post t0  z1 S mc ms → gG p l e (rm_J4_setLength_d0 MC MS) s m args below meth c Q D A 2 k n (hC X S) 0 [(0, .ref t0), (1, .int z1)] [] := by
  obtain ⟨⟨hx, hb, hml, ho, hts, hK, hA⟩, hR⟩ := id C0
  intro z1 S mc ms k n hkn hw H locs ls hW hl
  rw [w_J4_setLength_d0] at hw
  refine lv_aload_n hx hb dJ4_setLength_d00df_0 rfl (lv_at hl 0 rfl) ?_
  refine lv_iload_n hx hb dJ4_setLength_d00df_1 rfl (lv_at hl 1 rfl) ?_
  obtain ⟨h6, k2, n3, h4, h5, hw⟩ := hw
  refine h_gov C0 hW (va_runSU (As := [.int z1]) (rest := []) ((C0.1.2.2.2.2.2.1.1 1 (RJ4, TJ4, 4) rfl).2) ⟨hx, hb, hml, ho, hts⟩ (k_J5_setLength_d0 (l := l) (u := u) (X := X) (sz := H.size) _ t0 z1 S k2 n3 hw) (va_cwSU 1 hts gJ4_setLength_d00df_J5_setLength_d00df_s333 rfl rfl rfl (by decide +kernel) ⟨Nat.le_of_ble_eq_true rfl, Nat.le_of_ble_eq_true rfl⟩) ⟨h_blind, (h_recv C0 hW (ci := 1) rfl h6), (h_pre C0 hW [.ref t0, .int z1])⟩ rfl rfl hl.1 rfl (lv_room (Nat.le_of_ble_eq_true rfl)) dJ4_setLength_d00df_2 ⟨by show _ ≤ MC; omega, by show _ ≤ MS; omega⟩) (fun S7 H locs h8 hW => ?_)
  replace hw := h8
  have hkn : (k + k2) + (mc - k2) ≤ MC ∧ (n + n3) + (ms - n3) ≤ MS := by omega
  exact hret S7 _ _ _ _ (by omega) (by omega) hw dJ4_setLength_d00df_5 _ _ _ hW hl
set_option maxHeartbeats 4000000 in
set_option maxRecDepth 100000 in
theorem k_J4_setLength_d0 {l : Launch} {D : va_G} {u : hU} {X : va_W} {sz : Nat} (post : hS → Prop) (t0 : Nat) (z1 : Int32) (S : hS) (mc ms : Nat) (hw : w_J4_setLength_d0 u post t0 z1 S mc ms) : hMv l yJ4_setLength_d00df wsJ4_setLength_d00df (rm_J4_setLength_d0 mc ms) D (gt u.2.1) u.1 u.2.2 sz X S [.ref t0, .int z1] post mc ms := by
  refine hMv_of (cc := cJ4_setLength_d00df) (nL := 2) (own := RJ4) (by decide) rfl rfl (Nat.le_of_ble_eq_true rfl) ?_
  intro p e s m args below meth c A Q C0 hin hret
  exact t_J4_setLength_d0_0 C0 t0 post hret z1 S mc ms 0 0 ⟨by omega, by omega⟩ hw
abbrev rm_J1_canEncode_9a : Room := { frames := 0, cells := 0, slots := 0, locals := 0 }
set_option maxHeartbeats 4000000 in
set_option maxRecDepth 100000 in
theorem k_J1_canEncode_9a {l : Launch} (post : Int32 → Prop) (z1 : Int32) (hw : q_J1_canEncode_9a post z1) : gMs l yJ1_canEncode_9a6ad wsJ1_canEncode_9a6ad rm_J1_canEncode_9a [.int z1] post := by
  refine gMs_of (cc := cJ1_canEncode_9a6ad) (nL := 1) (ty := .boolean) (own := RJ1) (by decide) rfl rfl (Nat.le_of_ble_eq_true rfl) ?_
  intro p e s m args below meth c Q hx hb hml ho hts hret ls hl
  rw [q_J1_canEncode_9a] at hw
  refine lv_iload_n hx hb dJ1_canEncode_9a6ad_0 rfl (lv_at hl 0 rfl) ?_
  refine lv_if_lt (tgt := 15) hx hb dJ1_canEncode_9a6ad_1 (by decide) (fun c1 => ?_) (fun c1 => ?_)
  · replace hw := hw.1 c1
    refine lv_iconst (v := 0) hx hb dJ1_canEncode_9a6ad_15 (by decide) ?_
    exact hret 0 _ _ hw (by decide) dJ1_canEncode_9a6ad_16
  · replace hw := hw.2 c1
    refine lv_iload_n hx hb dJ1_canEncode_9a6ad_4 rfl (lv_at hl 0 rfl) ?_
    refine lv_sipush (v := 255) hx hb dJ1_canEncode_9a6ad_5 (by decide) ?_
    refine lv_icmp_gt (tgt := 15) hx hb dJ1_canEncode_9a6ad_8 (by decide) (fun c2 => ?_) (fun c2 => ?_)
    · replace hw := hw.1 c2
      refine lv_iconst (v := 0) hx hb dJ1_canEncode_9a6ad_15 (by decide) ?_
      exact hret 0 _ _ hw (by decide) dJ1_canEncode_9a6ad_16
    · replace hw := hw.2 c2
      refine lv_iconst (v := 1) hx hb dJ1_canEncode_9a6ad_11 (by decide) ?_
      refine lv_goto (tgt := 16) hx hb dJ1_canEncode_9a6ad_12 (by decide) ?_
      exact hret 1 _ _ hw (by decide) dJ1_canEncode_9a6ad_16
abbrev rm_J1_indexOfChar_4c : Room := { frames := 0, cells := 0, slots := 0, locals := 0 }
set_option maxHeartbeats 4000000 in
set_option maxRecDepth 100000 in
theorem t_J1_indexOfChar_4c_7 (C0 : hX p s m args c cJ1_indexOfChar_4cfef 6 RJ1 wsJ1_indexOfChar_4cfef D (gt u.2.1) A u.1 u.2.2) {S : hS}  (post : Int32 → Prop) (hret : ∀ (r : Int32) (S' : hS) (pc : Nat) (lv : List (Nat × Value)) (k n : Nat), k ≤ 0 → n ≤ 0 → (S' = S ∧ post r) → narrow .int (.int r) = .int r → decode cJ1_indexOfChar_4cfef pc = .ok (.ireturn, 1) → gG p l e (rm_J1_indexOfChar_4c) s m args below meth c Q D A 6 k n (hC X S') pc lv [.int r])  : ∀ (nf : Nat) (x0 : Option Nat) (x3 : Int32) (x4 : Int32) (x5 : Int32), w_J1_indexOfChar_4c_7 u post   nf x0 x3 x4 x5 S → gG p l e (rm_J1_indexOfChar_4c) s m args below meth c Q D A 6 0 0 (hC X S) 7 [(0, va_rf x0), (3, .int x3), (4, .int x4), (5, .int x5)] [] := by
  obtain ⟨⟨hx, hb, hml, ho, hts, hK, hA⟩, hR⟩ := id C0
  intro nf
  induction nf with
  | zero => intro x0 x3 x4 x5 hw; exact hw.elim
  | succ nf ih =>
    intro x0 x3 x4 x5 hw H locs ls hW hl
    rw [w_J1_indexOfChar_4c_7] at hw
    refine lv_iload hx hb dJ1_indexOfChar_4cfef_7 (lv_at hl 3 rfl) ?_
    refine lv_iload_n hx hb dJ1_indexOfChar_4cfef_9 rfl (lv_at hl 1 rfl) ?_
    refine lv_icmp_ge (tgt := 31) hx hb dJ1_indexOfChar_4cfef_10 (by decide) (fun c3 => ?_) (fun c3 => ?_)
    · replace hw := hw.1 c3
      refine lv_iconst (v := (-1)) hx hb dJ1_indexOfChar_4cfef_31 (by decide) ?_
      exact hret (-1) S _ _ 0 0 (Nat.le_refl _) (Nat.le_refl _) ⟨rfl, hw⟩ rfl dJ1_indexOfChar_4cfef_32 _ _ _ hW hl
    · replace hw := hw.2 c3
      refine lv_aloadV_n hx hb dJ1_indexOfChar_4cfef_13 rfl (lv_at hl 0 rfl) ?_
      refine lv_iload hx hb dJ1_indexOfChar_4cfef_14 (lv_at hl 3 rfl) ?_
      obtain ⟨a4, rfl, hw⟩ := hw
      obtain ⟨N5, g6, h7, h8, hw⟩ := hw
      refine h_bald C0 hW h7 rfl h8 dJ1_indexOfChar_4cfef_16 ?_
      refine lv_iload hx hb dJ1_indexOfChar_4cfef_17 (lv_at hl 2 rfl) ?_
      refine lv_icmp_ne (tgt := 25) hx hb dJ1_indexOfChar_4cfef_19 (by decide) (fun c9 => ?_) (fun c9 => ?_)
      · replace hw := hw.1 c9
        obtain ⟨v10, ev10⟩ : ∃ y : Int32, y = x5 + 1 := ⟨_, rfl⟩
        replace hw := hw v10 ev10
        refine lv_iinc (v := v10) (lv' := [(5, .int v10), (0, .ref a4), (3, .int x3), (4, .int x4)]) hx hb dJ1_indexOfChar_4cfef_25 hl (k := 3) rfl (by rw [ev10]; rfl) (by decide) rfl (fun ls hl9 => ?_)
        replace hl := hl9
        refine lv_goto (tgt := 7) hx hb dJ1_indexOfChar_4cfef_28 (by decide) ?_
        exact ih (some a4) x3 x4 v10   hw _ _ _ hW (lv_sub hl [1, 2, 3, 0] rfl)
      · replace hw := hw.2 c9
        refine lv_iload hx hb dJ1_indexOfChar_4cfef_22 (lv_at hl 3 rfl) ?_
        exact hret x5 S _ _ 0 0 (Nat.le_refl _) (Nat.le_refl _) ⟨rfl, hw⟩ rfl dJ1_indexOfChar_4cfef_24 _ _ _ hW hl
set_option maxHeartbeats 4000000 in
set_option maxRecDepth 100000 in
theorem t_J1_indexOfChar_4c_0 (C0 : hX p s m args c cJ1_indexOfChar_4cfef 6 RJ1 wsJ1_indexOfChar_4cfef D (gt u.2.1) A u.1 u.2.2) {S : hS}  (post : Int32 → Prop) (hret : ∀ (r : Int32) (S' : hS) (pc : Nat) (lv : List (Nat × Value)) (k n : Nat), k ≤ 0 → n ≤ 0 → (S' = S ∧ post r) → narrow .int (.int r) = .int r → decode cJ1_indexOfChar_4cfef pc = .ok (.ireturn, 1) → gG p l e (rm_J1_indexOfChar_4c) s m args below meth c Q D A 6 k n (hC X S') pc lv [.int r])  : ∀ (p1 : Option Nat) (z2 : Int32) (z3 : Int32) (z4 : Int32), w_J1_indexOfChar_4c u post   p1 z2 z3 z4 S → gG p l e (rm_J1_indexOfChar_4c) s m args below meth c Q D A 6 0 0 (hC X S) 0 [(0, va_rf p1), (1, .int z2), (2, .int z3), (3, .int z4)] [] := by
  obtain ⟨⟨hx, hb, hml, ho, hts, hK, hA⟩, hR⟩ := id C0
  intro p1 z2 z3 z4 hw H locs ls hW hl
  rw [w_J1_indexOfChar_4c] at hw
  refine lv_iload_n hx hb dJ1_indexOfChar_4cfef_0 rfl (lv_at hl 1 rfl) ?_
  refine lv_i2b hx hb dJ1_indexOfChar_4cfef_1 rfl ?_
  refine lv_topi (fun v1 ev1 => ?_)
  replace hw := hw v1 ev1
  refine lv_istore (lv' := [(4, .int v1), (0, va_rf p1), (1, .int z2), (2, .int z3), (3, .int z4)]) hx hb dJ1_indexOfChar_4cfef_2 hl (by decide) rfl (fun ls hl9 => ?_)
  replace hl := hl9
  refine lv_iload_n hx hb dJ1_indexOfChar_4cfef_4 rfl (lv_at hl 3 rfl) ?_
  refine lv_istore (lv' := [(5, .int z3), (4, .int v1), (0, va_rf p1), (1, .int z2), (2, .int z3), (3, .int z4)]) hx hb dJ1_indexOfChar_4cfef_5 hl (by decide) rfl (fun ls hl9 => ?_)
  replace hl := hl9
  obtain ⟨n2, hw⟩ := hw
  exact t_J1_indexOfChar_4c_7 C0  post hret  n2 p1 z4 v1 z3   hw _ _ _ hW (lv_sub hl [2, 5, 1, 0] rfl)
set_option maxHeartbeats 4000000 in
set_option maxRecDepth 100000 in
theorem k_J1_indexOfChar_4c {l : Launch} {D : va_G} {u : hU} {X : va_W} {sz : Nat} (post : Int32 → Prop) (p1 : Option Nat) (z2 : Int32) (z3 : Int32) (z4 : Int32) (S : hS) (hw : w_J1_indexOfChar_4c u post  p1 z2 z3 z4 S) : hMi l yJ1_indexOfChar_4cfef wsJ1_indexOfChar_4cfef rm_J1_indexOfChar_4c D (gt u.2.1) u.1 u.2.2 sz X S [va_rf p1, .int z2, .int z3, .int z4] (fun r S' => S' = S ∧ post r) 0 0 := by
  refine hMi_of (cc := cJ1_indexOfChar_4cfef) (nL := 6) (ty := .int) (own := RJ1) (by decide) rfl rfl (by cases p1 <;> exact Nat.le_of_ble_eq_true rfl) ?_
  intro p e s m args below meth c A Q C0 hin hret
  have hfin := t_J1_indexOfChar_4c_0 C0  post hret p1 z2 z3 z4 hw
  intro H locs ls hW hl
  refine hfin H locs ls hW ?_
  cases p1 <;> exact hl
abbrev rm_J1_indexOf_4c : Room := { frames := 1, cells := 0, slots := 0, locals := 25 }
set_option maxHeartbeats 4000000 in
set_option maxRecDepth 100000 in
theorem t_J1_indexOf_4c_0 (C0 : hX p s m args c cJ1_indexOf_4cfef 4 RJ1 wsJ1_indexOf_4cfef D (gt u.2.1) A u.1 u.2.2) {S : hS}  (post : Int32 → Prop) (hret : ∀ (r : Int32) (S' : hS) (pc : Nat) (lv : List (Nat × Value)) (k n : Nat), k ≤ 0 → n ≤ 0 → (S' = S ∧ post r) → narrow .int (.int r) = .int r → decode cJ1_indexOf_4cfef pc = .ok (.ireturn, 1) → gG p l e (rm_J1_indexOf_4c) s m args below meth c Q D A 4 k n (hC X S') pc lv [.int r])  : ∀ (p1 : Option Nat) (z2 : Int32) (z3 : Int32) (z4 : Int32), w_J1_indexOf_4c u post   p1 z2 z3 z4 S → gG p l e (rm_J1_indexOf_4c) s m args below meth c Q D A 4 0 0 (hC X S) 0 [(0, va_rf p1), (1, .int z2), (2, .int z3), (3, .int z4)] [] := by
  obtain ⟨⟨hx, hb, hml, ho, hts, hK, hA⟩, hR⟩ := id C0
  intro p1 z2 z3 z4 hw H locs ls hW hl
  rw [w_J1_indexOf_4c] at hw
  refine lv_iload_n hx hb dJ1_indexOf_4cfef_0 rfl (lv_at hl 1 rfl) ?_
  refine g_calls (As := [.int z2]) (rest := []) ⟨hx, hb, hml, ho, hts⟩ hl.1 (k_J1_canEncode_9a (l := l) _ z2 hw) (va_cwS 1 hts gJ1_indexOf_4cfef_J1_canEncode_9a6ad rfl rfl rfl (by decide +kernel) ⟨Nat.le_of_ble_eq_true rfl, Nat.le_of_ble_eq_true rfl⟩) (Nat.le_of_ble_eq_true rfl) dJ1_indexOf_4cfef_1 rfl ⟨Nat.le_refl _, Nat.le_refl _⟩ (fun r1 hp => ?_)
  replace hw := hp
  refine lv_if_ne (tgt := 9) hx hb dJ1_indexOf_4cfef_4 (by decide) (fun c2 => ?_) (fun c2 => ?_)
  · replace hw := hw.1 c2
    refine lv_iload_n hx hb dJ1_indexOf_4cfef_9 rfl (lv_at hl 2 rfl) ?_
    refine lv_iconst (v := 0) hx hb dJ1_indexOf_4cfef_10 (by decide) ?_
    refine va_mmax hx hb (hml.trans hl.1.symm) ho (hts (.methodLink RJ1 92 Lib.Math.max.name) (List.mem_of_getElem? (i := 1) rfl)) (hts _ (List.mem_of_getElem? (i := 2) rfl)) (hts _ (List.mem_of_getElem? (i := 3) rfl)) (hts _ (List.mem_of_getElem? (i := 4) rfl)) (Nat.le_of_ble_eq_true rfl) (Nat.le_of_ble_eq_true rfl) (Nat.zero_le _) (Nat.zero_le _) dJ1_indexOf_4cfef_11 ?_
    refine lv_topi (fun v3 ev3 => ?_)
    replace hw := hw v3 ev3
    refine lv_istore_n (lv' := [(2, .int v3), (0, va_rf p1), (1, .int z2), (3, .int z4)]) hx hb dJ1_indexOf_4cfef_14 rfl hl (by decide) rfl (fun ls hl9 => ?_)
    replace hl := hl9
    refine lv_iload_n hx hb dJ1_indexOf_4cfef_15 rfl (lv_at hl 3 rfl) ?_
    refine lv_aloadV_n hx hb dJ1_indexOf_4cfef_16 rfl (lv_at hl 1 rfl) ?_
    obtain ⟨a4, rfl, hw⟩ := hw
    obtain ⟨N5, g6, h7, hw⟩ := hw
    refine h_blen C0 hW h7 rfl dJ1_indexOf_4cfef_17 ?_
    refine va_mmin hx hb (hml.trans hl.1.symm) ho (hts (.methodLink RJ1 38 Lib.Math.min.name) (List.mem_of_getElem? (i := 5) rfl)) (hts _ (List.mem_of_getElem? (i := 6) rfl)) (hts _ (List.mem_of_getElem? (i := 3) rfl)) (hts _ (List.mem_of_getElem? (i := 7) rfl)) (Nat.le_of_ble_eq_true rfl) (Nat.le_of_ble_eq_true rfl) (Nat.zero_le _) (Nat.zero_le _) dJ1_indexOf_4cfef_18 ?_
    refine lv_topi (fun v8 ev8 => ?_)
    replace hw := hw v8 ev8
    refine lv_istore_n (lv' := [(3, .int v8), (2, .int v3), (0, .ref a4), (1, .int z2)]) hx hb dJ1_indexOf_4cfef_21 rfl hl (by decide) rfl (fun ls hl9 => ?_)
    replace hl := hl9
    refine lv_iload_n hx hb dJ1_indexOf_4cfef_22 rfl (lv_at hl 1 rfl) ?_
    refine lv_iload_n hx hb dJ1_indexOf_4cfef_23 rfl (lv_at hl 0 rfl) ?_
    refine lv_icmp_lt (tgt := 29) hx hb dJ1_indexOf_4cfef_24 (by decide) (fun c9 => ?_) (fun c9 => ?_)
    · replace hw := hw.1 c9
      refine lv_aload_n hx hb dJ1_indexOf_4cfef_29 rfl (lv_at hl 2 rfl) ?_
      refine lv_iload_n hx hb dJ1_indexOf_4cfef_30 rfl (lv_at hl 3 rfl) ?_
      refine lv_iload_n hx hb dJ1_indexOf_4cfef_31 rfl (lv_at hl 1 rfl) ?_
      refine lv_iload_n hx hb dJ1_indexOf_4cfef_32 rfl (lv_at hl 0 rfl) ?_
      refine h_goi C0 hW (va_runS (As := [.ref a4, .int z2, .int v3, .int v8]) (rest := []) ⟨hx, hb, hml, ho, hts⟩ (k_J1_indexOfChar_4c (l := l) (u := u) (X := X) (sz := H.size) _ (some a4) z2 v3 v8 S  hw) (va_cwS 4 hts gJ1_indexOf_4cfef_J1_indexOfChar_4cfef rfl rfl rfl (by decide +kernel) ⟨Nat.le_of_ble_eq_true rfl, Nat.le_of_ble_eq_true rfl⟩) ⟨h_blind, (h_pre C0 hW [.ref a4, .int z2, .int v3, .int v8])⟩ rfl rfl hl.1 rfl (lv_room (Nat.le_of_ble_eq_true rfl)) dJ1_indexOf_4cfef_33 ⟨Nat.le_refl _, Nat.le_refl _⟩) (fun r10 S11 H locs h12 hW => ?_)
      obtain ⟨h13, hp⟩ := h12
      rw [h13] at hW
      replace hw := hp
      exact hret r10 S _ _ 0 0 (Nat.le_refl _) (Nat.le_refl _) ⟨rfl, hw⟩ rfl dJ1_indexOf_4cfef_36 _ _ _ hW hl
    · replace hw := hw.2 c9
      refine lv_iconst (v := (-1)) hx hb dJ1_indexOf_4cfef_27 (by decide) ?_
      exact hret (-1) S _ _ 0 0 (Nat.le_refl _) (Nat.le_refl _) ⟨rfl, hw⟩ rfl dJ1_indexOf_4cfef_28 _ _ _ hW hl
  · replace hw := hw.2 c2
    refine lv_iconst (v := (-1)) hx hb dJ1_indexOf_4cfef_7 (by decide) ?_
    exact hret (-1) S _ _ 0 0 (Nat.le_refl _) (Nat.le_refl _) ⟨rfl, hw⟩ rfl dJ1_indexOf_4cfef_8 _ _ _ hW hl
set_option maxHeartbeats 4000000 in
set_option maxRecDepth 100000 in
theorem k_J1_indexOf_4c {l : Launch} {D : va_G} {u : hU} {X : va_W} {sz : Nat} (post : Int32 → Prop) (p1 : Option Nat) (z2 : Int32) (z3 : Int32) (z4 : Int32) (S : hS) (hw : w_J1_indexOf_4c u post  p1 z2 z3 z4 S) : hMi l yJ1_indexOf_4cfef wsJ1_indexOf_4cfef rm_J1_indexOf_4c D (gt u.2.1) u.1 u.2.2 sz X S [va_rf p1, .int z2, .int z3, .int z4] (fun r S' => S' = S ∧ post r) 0 0 := by
  refine hMi_of (cc := cJ1_indexOf_4cfef) (nL := 4) (ty := .int) (own := RJ1) (by decide) rfl rfl (by cases p1 <;> exact Nat.le_of_ble_eq_true rfl) ?_
  intro p e s m args below meth c A Q C0 hin hret
  have hfin := t_J1_indexOf_4c_0 C0  post hret p1 z2 z3 z4 hw
  intro H locs ls hW hl
  refine hfin H locs ls hW ?_
  cases p1 <;> exact hl
abbrev rm_J0_indexOf_7c : Room := { frames := 2, cells := 0, slots := 0, locals := 48 }
theorem in_J0_indexOf_7c_RJ0 : ∀ w ∈ wsJ00, w ∈ wsJ0_indexOf_7cf53 := fun w hw9 => List.mem_cons_of_mem _ (List.mem_append_right _ hw9)
set_option maxHeartbeats 4000000 in
set_option maxRecDepth 100000 in
theorem t_J0_indexOf_7c_0 (C0 : hX p s m args c cJ0_indexOf_7cf53 3 RJ0 wsJ0_indexOf_7cf53 D (gt u.2.1) A u.1 u.2.2) {S : hS} (t0 : Nat) (post : Int32 → Prop) (hret : ∀ (r : Int32) (S' : hS) (pc : Nat) (lv : List (Nat × Value)) (k n : Nat), k ≤ 0 → n ≤ 0 → (S' = S ∧ post r) → narrow .int (.int r) = .int r → decode cJ0_indexOf_7cf53 pc = .ok (.ireturn, 1) → gG p l e (rm_J0_indexOf_7c) s m args below meth c Q D A 3 k n (hC X S') pc lv [.int r])  : ∀ (z1 : Int32) (z2 : Int32), w_J0_indexOf_7c u post t0  z1 z2 S → gG p l e (rm_J0_indexOf_7c) s m args below meth c Q D A 3 0 0 (hC X S) 0 [(0, .ref t0), (1, .int z1), (2, .int z2)] [] := by
  obtain ⟨⟨hx, hb, hml, ho, hts, hK, hA⟩, hR⟩ := id C0
  intro z1 z2 hw H locs ls hW hl
  rw [w_J0_indexOf_7c] at hw
  refine lv_aload_n hx hb dJ0_indexOf_7cf53_0 rfl (lv_at hl 0 rfl) ?_
  obtain ⟨h2, hw⟩ := hw
  refine h_goi C0 hW (va_runV (As := []) (rest := []) ⟨hx, hb, hml, ho, hts⟩ (k_J0_isLatin1_aa (l := l) (u := u) (X := X) (sz := H.size) _ t0  S  hw) (cwV 0 hts gJ0_indexOf_7cf53_J0_isLatin1_aae02 rfl rfl rfl (by decide +kernel) ⟨Nat.le_of_ble_eq_true rfl, Nat.le_of_ble_eq_true rfl⟩) ⟨h_blind, (h_recvS C0 hW h2), (h_pre C0 hW [.ref t0])⟩ rfl rfl hl.1 rfl (lv_room (Nat.le_of_ble_eq_true rfl)) dJ0_indexOf_7cf53_1 ⟨Nat.le_refl _, Nat.le_refl _⟩) (fun r1 S3 H locs h4 hW => ?_)
  obtain ⟨h5, hp⟩ := h4
  rw [h5] at hW
  replace hw := hp
  refine lv_if_eq (tgt := 23) hx hb dJ0_indexOf_7cf53_4 (by decide) (fun c6 => ?_) (fun c6 => ?_)
  · replace hw := hw.1 c6
    refine lv_aload_n hx hb dJ0_indexOf_7cf53_23 rfl (lv_at hl 0 rfl) ?_
    obtain ⟨b7, h8, hw⟩ := hw
    refine h_getSV C0 hW in_J0_indexOf_7c_RJ0 h8 (List.mem_of_getElem? (i := 1) rfl) dJ0_indexOf_7cf53_24 ?_
    refine lv_iload_n hx hb dJ0_indexOf_7cf53_27 rfl (lv_at hl 1 rfl) ?_
    refine lv_iload_n hx hb dJ0_indexOf_7cf53_28 rfl (lv_at hl 2 rfl) ?_
    refine lv_aload_n hx hb dJ0_indexOf_7cf53_29 rfl (lv_at hl 0 rfl) ?_
    obtain ⟨h10, hw⟩ := hw
    refine h_goi C0 hW (va_runV (As := []) (rest := [.int z2, .int z1, .ref b7]) ⟨hx, hb, hml, ho, hts⟩ (k_J0_length_8a (l := l) (u := u) (X := X) (sz := H.size) _ t0  S  hw) (cwV 0 hts gJ0_indexOf_7cf53_J0_length_8abf5 rfl rfl rfl (by decide +kernel) ⟨Nat.le_of_ble_eq_true rfl, Nat.le_of_ble_eq_true rfl⟩) ⟨h_blind, (h_recvS C0 hW h10), (h_pre C0 hW [.ref t0])⟩ rfl rfl hl.1 rfl (lv_room (Nat.le_of_ble_eq_true rfl)) dJ0_indexOf_7cf53_30 ⟨Nat.le_refl _, Nat.le_refl _⟩) (fun r9 S11 H locs h12 hW => ?_)
    obtain ⟨h13, hp⟩ := h12
    rw [h13] at hW
    replace hw := hp
    exact hw.elim
  · replace hw := hw.2 c6
    refine lv_aload_n hx hb dJ0_indexOf_7cf53_7 rfl (lv_at hl 0 rfl) ?_
    obtain ⟨b14, h15, hw⟩ := hw
    refine h_getSV C0 hW in_J0_indexOf_7c_RJ0 h15 (List.mem_of_getElem? (i := 1) rfl) dJ0_indexOf_7cf53_8 ?_
    refine lv_iload_n hx hb dJ0_indexOf_7cf53_11 rfl (lv_at hl 1 rfl) ?_
    refine lv_iload_n hx hb dJ0_indexOf_7cf53_12 rfl (lv_at hl 2 rfl) ?_
    refine lv_aload_n hx hb dJ0_indexOf_7cf53_13 rfl (lv_at hl 0 rfl) ?_
    obtain ⟨h17, hw⟩ := hw
    refine h_goi C0 hW (va_runV (As := []) (rest := [.int z2, .int z1, .ref b14]) ⟨hx, hb, hml, ho, hts⟩ (k_J0_length_8a (l := l) (u := u) (X := X) (sz := H.size) _ t0  S  hw) (cwV 0 hts gJ0_indexOf_7cf53_J0_length_8abf5 rfl rfl rfl (by decide +kernel) ⟨Nat.le_of_ble_eq_true rfl, Nat.le_of_ble_eq_true rfl⟩) ⟨h_blind, (h_recvS C0 hW h17), (h_pre C0 hW [.ref t0])⟩ rfl rfl hl.1 rfl (lv_room (Nat.le_of_ble_eq_true rfl)) dJ0_indexOf_7cf53_14 ⟨Nat.le_refl _, Nat.le_refl _⟩) (fun r16 S18 H locs h19 hW => ?_)
    obtain ⟨h20, hp⟩ := h19
    rw [h20] at hW
    replace hw := hp
    refine h_goi C0 hW (va_runS (As := [.ref b14, .int z1, .int z2, .int r16]) (rest := []) ⟨hx, hb, hml, ho, hts⟩ (k_J1_indexOf_4c (l := l) (u := u) (X := X) (sz := H.size) _ (some b14) z1 z2 r16 S  hw) (va_cwS 4 hts gJ0_indexOf_7cf53_J1_indexOf_4cfef rfl rfl rfl (by decide +kernel) ⟨Nat.le_of_ble_eq_true rfl, Nat.le_of_ble_eq_true rfl⟩) ⟨h_blind, (h_pre C0 hW [.ref b14, .int z1, .int z2, .int r16])⟩ rfl rfl hl.1 rfl (lv_room (Nat.le_of_ble_eq_true rfl)) dJ0_indexOf_7cf53_17 ⟨Nat.le_refl _, Nat.le_refl _⟩) (fun r21 S22 H locs h23 hW => ?_)
    obtain ⟨h24, hp⟩ := h23
    rw [h24] at hW
    replace hw := hp
    refine lv_goto (tgt := 36) hx hb dJ0_indexOf_7cf53_20 (by decide) ?_
    exact hret r21 S _ _ 0 0 (Nat.le_refl _) (Nat.le_refl _) ⟨rfl, hw⟩ rfl dJ0_indexOf_7cf53_36 _ _ _ hW hl
set_option maxHeartbeats 4000000 in
set_option maxRecDepth 100000 in
theorem k_J0_indexOf_7c {l : Launch} {D : va_G} {u : hU} {X : va_W} {sz : Nat} (post : Int32 → Prop) (t0 : Nat) (z1 : Int32) (z2 : Int32) (S : hS) (hw : w_J0_indexOf_7c u post t0 z1 z2 S) : hMi l yJ0_indexOf_7cf53 wsJ0_indexOf_7cf53 rm_J0_indexOf_7c D (gt u.2.1) u.1 u.2.2 sz X S [.ref t0, .int z1, .int z2] (fun r S' => S' = S ∧ post r) 0 0 := by
  refine hMi_of (cc := cJ0_indexOf_7cf53) (nL := 3) (ty := .int) (own := RJ0) (by decide) rfl rfl (Nat.le_of_ble_eq_true rfl) ?_
  intro p e s m args below meth c A Q C0 hin hret
  exact t_J0_indexOf_7c_0 C0 t0 post hret z1 z2 hw
abbrev rm_J0_indexOf_0f : Room := { frames := 3, cells := 0, slots := 0, locals := 70 }
set_option maxHeartbeats 4000000 in
set_option maxRecDepth 100000 in
theorem t_J0_indexOf_0f_0 (C0 : hX p s m args c cJ0_indexOf_0f7a4 2 RJ0 wsJ0_indexOf_0f7a4 D (gt u.2.1) A u.1 u.2.2) {S : hS} (t0 : Nat) (post : Int32 → Prop) (hret : ∀ (r : Int32) (S' : hS) (pc : Nat) (lv : List (Nat × Value)) (k n : Nat), k ≤ 0 → n ≤ 0 → (S' = S ∧ post r) → narrow .int (.int r) = .int r → decode cJ0_indexOf_0f7a4 pc = .ok (.ireturn, 1) → gG p l e (rm_J0_indexOf_0f) s m args below meth c Q D A 2 k n (hC X S') pc lv [.int r])  : ∀ (z1 : Int32), w_J0_indexOf_0f u post t0  z1 S → gG p l e (rm_J0_indexOf_0f) s m args below meth c Q D A 2 0 0 (hC X S) 0 [(0, .ref t0), (1, .int z1)] [] := by
  obtain ⟨⟨hx, hb, hml, ho, hts, hK, hA⟩, hR⟩ := id C0
  intro z1 hw H locs ls hW hl
  rw [w_J0_indexOf_0f] at hw
  refine lv_aload_n hx hb dJ0_indexOf_0f7a4_0 rfl (lv_at hl 0 rfl) ?_
  refine lv_iload_n hx hb dJ0_indexOf_0f7a4_1 rfl (lv_at hl 1 rfl) ?_
  refine lv_iconst (v := 0) hx hb dJ0_indexOf_0f7a4_2 (by decide) ?_
  obtain ⟨h2, hw⟩ := hw
  refine h_goi C0 hW (va_runV (As := [.int z1, .int 0]) (rest := []) ⟨hx, hb, hml, ho, hts⟩ (k_J0_indexOf_7c (l := l) (u := u) (X := X) (sz := H.size) _ t0 z1 0 S  hw) (cwV 2 hts gJ0_indexOf_0f7a4_J0_indexOf_7cf53 rfl rfl rfl (by decide +kernel) ⟨Nat.le_of_ble_eq_true rfl, Nat.le_of_ble_eq_true rfl⟩) ⟨h_blind, (h_recvS C0 hW h2), (h_pre C0 hW [.ref t0, .int z1, .int 0])⟩ rfl rfl hl.1 rfl (lv_room (Nat.le_of_ble_eq_true rfl)) dJ0_indexOf_0f7a4_3 ⟨Nat.le_refl _, Nat.le_refl _⟩) (fun r1 S3 H locs h4 hW => ?_)
  obtain ⟨h5, hp⟩ := h4
  rw [h5] at hW
  replace hw := hp
  exact hret r1 S _ _ 0 0 (Nat.le_refl _) (Nat.le_refl _) ⟨rfl, hw⟩ rfl dJ0_indexOf_0f7a4_6 _ _ _ hW hl
set_option maxHeartbeats 4000000 in
set_option maxRecDepth 100000 in
theorem k_J0_indexOf_0f {l : Launch} {D : va_G} {u : hU} {X : va_W} {sz : Nat} (post : Int32 → Prop) (t0 : Nat) (z1 : Int32) (S : hS) (hw : w_J0_indexOf_0f u post t0 z1 S) : hMi l yJ0_indexOf_0f7a4 wsJ0_indexOf_0f7a4 rm_J0_indexOf_0f D (gt u.2.1) u.1 u.2.2 sz X S [.ref t0, .int z1] (fun r S' => S' = S ∧ post r) 0 0 := by
  refine hMi_of (cc := cJ0_indexOf_0f7a4) (nL := 2) (ty := .int) (own := RJ0) (by decide) rfl rfl (Nat.le_of_ble_eq_true rfl) ?_
  intro p e s m args below meth c A Q C0 hin hret
  exact t_J0_indexOf_0f_0 C0 t0 post hret z1 hw
abbrev rm_J3_checkFromToIndex_8c : Room := { frames := 0, cells := 0, slots := 0, locals := 0 }
set_option maxHeartbeats 4000000 in
set_option maxRecDepth 100000 in
theorem t_J3_checkFromToIndex_8c_14 (C0 : hX p s m args c cJ3_checkFromToIndex_8c36e 4 RJ3 wsJ3_checkFromToIndex_8c36e D (gt u.2.1) A u.1 u.2.2) {S : hS}  (post : Int32 → Prop) (hret : ∀ (r : Int32) (S' : hS) (pc : Nat) (lv : List (Nat × Value)) (k n : Nat), k ≤ 0 → n ≤ 0 → (S' = S ∧ post r) → narrow .int (.int r) = .int r → decode cJ3_checkFromToIndex_8c36e pc = .ok (.ireturn, 1) → gG p l e (rm_J3_checkFromToIndex_8c) s m args below meth c Q D A 4 k n (hC X S') pc lv [.int r])  : ∀ (x0 : Int32) (x1 : Int32) (x2 : Int32) (x3 : Option Nat), w_J3_checkFromToIndex_8c_14 u post   x0 x1 x2 x3 S → gG p l e (rm_J3_checkFromToIndex_8c) s m args below meth c Q D A 4 0 0 (hC X S) 14 [(0, .int x0), (1, .int x1), (2, .int x2), (3, va_rf x3)] [] := by
  obtain ⟨⟨hx, hb, hml, ho, hts, hK, hA⟩, hR⟩ := id C0
  intro x0 x1 x2 x3 hw H locs ls hW hl
  rw [w_J3_checkFromToIndex_8c_14] at hw
  refine lv_aloadV_n hx hb dJ3_checkFromToIndex_8c36e_14 rfl (lv_at hl 3 rfl) ?_
  refine lv_iload_n hx hb dJ3_checkFromToIndex_8c36e_15 rfl (lv_at hl 0 rfl) ?_
  refine lv_iload_n hx hb dJ3_checkFromToIndex_8c36e_16 rfl (lv_at hl 1 rfl) ?_
  refine lv_iload_n hx hb dJ3_checkFromToIndex_8c36e_17 rfl (lv_at hl 2 rfl) ?_
  exact hw.elim
set_option maxHeartbeats 4000000 in
set_option maxRecDepth 100000 in
theorem t_J3_checkFromToIndex_8c_0 (C0 : hX p s m args c cJ3_checkFromToIndex_8c36e 4 RJ3 wsJ3_checkFromToIndex_8c36e D (gt u.2.1) A u.1 u.2.2) {S : hS}  (post : Int32 → Prop) (hret : ∀ (r : Int32) (S' : hS) (pc : Nat) (lv : List (Nat × Value)) (k n : Nat), k ≤ 0 → n ≤ 0 → (S' = S ∧ post r) → narrow .int (.int r) = .int r → decode cJ3_checkFromToIndex_8c36e pc = .ok (.ireturn, 1) → gG p l e (rm_J3_checkFromToIndex_8c) s m args below meth c Q D A 4 k n (hC X S') pc lv [.int r])  : ∀ (z1 : Int32) (z2 : Int32) (z3 : Int32) (p4 : Option Nat), w_J3_checkFromToIndex_8c u post   z1 z2 z3 p4 S → gG p l e (rm_J3_checkFromToIndex_8c) s m args below meth c Q D A 4 0 0 (hC X S) 0 [(0, .int z1), (1, .int z2), (2, .int z3), (3, va_rf p4)] [] := by
  obtain ⟨⟨hx, hb, hml, ho, hts, hK, hA⟩, hR⟩ := id C0
  intro z1 z2 z3 p4 hw H locs ls hW hl
  rw [w_J3_checkFromToIndex_8c] at hw
  refine lv_iload_n hx hb dJ3_checkFromToIndex_8c36e_0 rfl (lv_at hl 0 rfl) ?_
  refine lv_if_lt (tgt := 14) hx hb dJ3_checkFromToIndex_8c36e_1 (by decide) (fun c1 => ?_) (fun c1 => ?_)
  · replace hw := hw.1 c1
    exact t_J3_checkFromToIndex_8c_14 C0  post hret  z1 z2 z3 p4   hw _ _ _ hW (lv_sub hl [0, 1, 2, 3] rfl)
  · replace hw := hw.2 c1
    refine lv_iload_n hx hb dJ3_checkFromToIndex_8c36e_4 rfl (lv_at hl 0 rfl) ?_
    refine lv_iload_n hx hb dJ3_checkFromToIndex_8c36e_5 rfl (lv_at hl 1 rfl) ?_
    refine lv_icmp_gt (tgt := 14) hx hb dJ3_checkFromToIndex_8c36e_6 (by decide) (fun c2 => ?_) (fun c2 => ?_)
    · replace hw := hw.1 c2
      exact t_J3_checkFromToIndex_8c_14 C0  post hret  z1 z2 z3 p4   hw _ _ _ hW (lv_sub hl [0, 1, 2, 3] rfl)
    · replace hw := hw.2 c2
      refine lv_iload_n hx hb dJ3_checkFromToIndex_8c36e_9 rfl (lv_at hl 1 rfl) ?_
      refine lv_iload_n hx hb dJ3_checkFromToIndex_8c36e_10 rfl (lv_at hl 2 rfl) ?_
      refine lv_icmp_le (tgt := 22) hx hb dJ3_checkFromToIndex_8c36e_11 (by decide) (fun c3 => ?_) (fun c3 => ?_)
      · replace hw := hw.1 c3
        refine lv_iload_n hx hb dJ3_checkFromToIndex_8c36e_22 rfl (lv_at hl 0 rfl) ?_
        exact hret z1 S _ _ 0 0 (Nat.le_refl _) (Nat.le_refl _) ⟨rfl, hw⟩ rfl dJ3_checkFromToIndex_8c36e_23 _ _ _ hW hl
      · replace hw := hw.2 c3
        exact t_J3_checkFromToIndex_8c_14 C0  post hret  z1 z2 z3 p4   hw _ _ _ hW (lv_sub hl [0, 1, 2, 3] rfl)
set_option maxHeartbeats 4000000 in
set_option maxRecDepth 100000 in
theorem k_J3_checkFromToIndex_8c {l : Launch} {D : va_G} {u : hU} {X : va_W} {sz : Nat} (post : Int32 → Prop) (z1 : Int32) (z2 : Int32) (z3 : Int32) (p4 : Option Nat) (S : hS) (hw : w_J3_checkFromToIndex_8c u post  z1 z2 z3 p4 S) : hMi l yJ3_checkFromToIndex_8c36e wsJ3_checkFromToIndex_8c36e rm_J3_checkFromToIndex_8c D (gt u.2.1) u.1 u.2.2 sz X S [.int z1, .int z2, .int z3, va_rf p4] (fun r S' => S' = S ∧ post r) 0 0 := by
  refine hMi_of (cc := cJ3_checkFromToIndex_8c36e) (nL := 4) (ty := .int) (own := RJ3) (by decide) rfl rfl (by cases p4 <;> exact Nat.le_of_ble_eq_true rfl) ?_
  intro p e s m args below meth c A Q C0 hin hret
  have hfin := t_J3_checkFromToIndex_8c_0 C0  post hret z1 z2 z3 p4 hw
  intro H locs ls hW hl
  refine hfin H locs ls hW ?_
  cases p4 <;> exact hl
abbrev rm_J0_checkBoundsBeginEnd_23 : Room := { frames := 1, cells := 0, slots := 0, locals := 23 }
set_option maxHeartbeats 4000000 in
set_option maxRecDepth 100000 in
theorem t_J0_checkBoundsBeginEnd_23_0 (C0 : hX p s m args c cJ0_checkBoundsBeginEnd_23922 3 RJ0 wsJ0_checkBoundsBeginEnd_23922 D (gt u.2.1) A u.1 u.2.2) {S : hS}  (post : Prop) (hret : ∀ (S' : hS) (pc : Nat) (lv : List (Nat × Value)) (k n : Nat), k ≤ 0 → n ≤ 0 → (S' = S ∧ post) → decode cJ0_checkBoundsBeginEnd_23922 pc = .ok (.return_, 1) → gG p l e (rm_J0_checkBoundsBeginEnd_23) s m args below meth c Q D A 3 k n (hC X S') pc lv [])  : ∀ (z1 : Int32) (z2 : Int32) (z3 : Int32), w_J0_checkBoundsBeginEnd_23 u post   z1 z2 z3 S → gG p l e (rm_J0_checkBoundsBeginEnd_23) s m args below meth c Q D A 3 0 0 (hC X S) 0 [(0, .int z1), (1, .int z2), (2, .int z3)] [] := by
  obtain ⟨⟨hx, hb, hml, ho, hts, hK, hA⟩, hR⟩ := id C0
  intro z1 z2 z3 hw H locs ls hW hl
  rw [w_J0_checkBoundsBeginEnd_23] at hw
  refine lv_iload_n hx hb dJ0_checkBoundsBeginEnd_23922_0 rfl (lv_at hl 0 rfl) ?_
  refine lv_iload_n hx hb dJ0_checkBoundsBeginEnd_23922_1 rfl (lv_at hl 1 rfl) ?_
  refine lv_iload_n hx hb dJ0_checkBoundsBeginEnd_23922_2 rfl (lv_at hl 2 rfl) ?_
  refine h_getF C0 hW (List.mem_of_getElem? (i := 1) rfl) dJ0_checkBoundsBeginEnd_23922_3 ?_
  refine h_goi C0 hW (va_runS (As := [.int z1, .int z2, .int z3, va_rf u.2.2]) (rest := []) ⟨hx, hb, hml, ho, hts⟩ (k_J3_checkFromToIndex_8c (l := l) (u := u) (X := X) (sz := H.size) _ z1 z2 z3 u.2.2 S  hw) (va_cwS 4 hts gJ0_checkBoundsBeginEnd_23922_J3_checkFromToIndex_8c36e rfl rfl rfl (by decide +kernel) ⟨Nat.le_of_ble_eq_true rfl, Nat.le_of_ble_eq_true rfl⟩) ⟨h_blind, (h_pre C0 hW [.int z1, .int z2, .int z3, va_rf u.2.2])⟩ rfl rfl hl.1 rfl (lv_room (Nat.le_of_ble_eq_true rfl)) dJ0_checkBoundsBeginEnd_23922_6 ⟨Nat.le_refl _, Nat.le_refl _⟩) (fun r1 S2 H locs h3 hW => ?_)
  obtain ⟨h4, hp⟩ := h3
  rw [h4] at hW
  replace hw := hp
  refine lv_pop hx hb dJ0_checkBoundsBeginEnd_23922_9 rfl ?_
  exact hret S _ _ 0 0 (Nat.le_refl _) (Nat.le_refl _) ⟨rfl, hw⟩ dJ0_checkBoundsBeginEnd_23922_10 _ _ _ hW hl
set_option maxHeartbeats 4000000 in
set_option maxRecDepth 100000 in
theorem k_J0_checkBoundsBeginEnd_23 {l : Launch} {D : va_G} {u : hU} {X : va_W} {sz : Nat} (post : Prop) (z1 : Int32) (z2 : Int32) (z3 : Int32) (S : hS) (hw : w_J0_checkBoundsBeginEnd_23 u post  z1 z2 z3 S) : hMv l yJ0_checkBoundsBeginEnd_23922 wsJ0_checkBoundsBeginEnd_23922 rm_J0_checkBoundsBeginEnd_23 D (gt u.2.1) u.1 u.2.2 sz X S [.int z1, .int z2, .int z3] (fun S' => S' = S ∧ post) 0 0 := by
  refine hMv_of (cc := cJ0_checkBoundsBeginEnd_23922) (nL := 3) (own := RJ0) (by decide) rfl rfl (Nat.le_of_ble_eq_true rfl) ?_
  intro p e s m args below meth c A Q C0 hin hret
  exact t_J0_checkBoundsBeginEnd_23_0 C0  post hret z1 z2 z3 hw
abbrev rm_J0_init_03 : Room := { frames := 1, cells := 0, slots := 0, locals := 12 }
theorem in_J0_init_03_RJ0 : ∀ w ∈ wsJ00, w ∈ wsJ0_init_031fb := fun w hw9 => List.mem_cons_of_mem _ (List.mem_append_right _ hw9)
set_option maxHeartbeats 4000000 in
set_option maxRecDepth 100000 in
theorem t_J0_init_03_0 (C0 : hX p s m args c cJ0_init_031fb 3 RJ0 wsJ0_init_031fb D (gt u.2.1) A u.1 u.2.2) (hin : yJ0_init_031fb.name = "<init>" → meth.name = "<init>") (t0 : Nat) (post : hS → Prop) (hret : ∀ (S' : hS) (pc : Nat) (lv : List (Nat × Value)) (k n : Nat), k ≤ 0 → n ≤ 0 → post S' → decode cJ0_init_031fb pc = .ok (.return_, 1) → gG p l e (rm_J0_init_03) s m args below meth c Q D A 3 k n (hC X S') pc lv [])  : ∀ (p1 : Option Nat) (z2 : Int32) (S : hS), w_J0_init_03 u post t0  p1 z2 S → gG p l e (rm_J0_init_03) s m args below meth c Q D A 3 0 0 (hC X S) 0 [(0, .ref t0), (1, va_rf p1), (2, .int z2)] [] := by
  obtain ⟨⟨hx, hb, hml, ho, hts, hK, hA⟩, hR⟩ := id C0
  intro p1 z2 S hw H locs ls hW hl
  rw [w_J0_init_03] at hw
  refine lv_aload_n hx hb dJ0_init_031fb_0 rfl (lv_at hl 0 rfl) ?_
  refine W.objInit hx hb ho (hts (.methodLink RJ0 1 objectInit) (List.mem_of_getElem? (i := 1) rfl)) (hts (.instanceMethod objectInit) (List.mem_of_getElem? (i := 2) rfl)) (hts (.code objectInit ⟨#[0xb1]⟩ 1 none) (List.mem_of_getElem? (i := 3) rfl)) rfl (by rw [hml]; exact hl.1) rfl dJ0_init_031fb_1 (Nat.le_of_ble_eq_true rfl) (Nat.le_of_ble_eq_true rfl) ?_
  refine W.eq (g2 := F0 m 4 ls []) rfl ?_
  refine lv_aload_n hx hb dJ0_init_031fb_4 rfl (lv_at hl 0 rfl) ?_
  refine lv_aloadV_n hx hb dJ0_init_031fb_5 rfl (lv_at hl 1 rfl) ?_
  obtain ⟨fs1, h2, h3, hw⟩ := hw
  refine h_put C0 hW (T := TJ0) (kf := 0) (ty := .array (.byte)) in_J0_init_03_RJ0 h2 rfl (by decide) h3 tyJ0 tyJ0_ok nmJ0 (List.mem_of_getElem? (i := 4) rfl) rfl (Or.inr ⟨rfl, hin rfl, rfl⟩) (by decide +kernel) (by cases p1 <;> rfl) (by cases p1 <;> rfl) dJ0_init_031fb_6 (va_rf_cat _) (fun H locs hW => ?_)
  obtain ⟨S4, eS4⟩ : ∃ z : hS, z = upS S t0 (.inr (0, fs1.set 0 (va_rf p1))) := ⟨_, rfl⟩
  rw [← eS4] at hW
  replace hw := hw S4 eS4
  refine lv_aload_n hx hb dJ0_init_031fb_9 rfl (lv_at hl 0 rfl) ?_
  refine lv_iload_n hx hb dJ0_init_031fb_10 rfl (lv_at hl 2 rfl) ?_
  obtain ⟨fs5, h6, h7, h9, hw⟩ := hw
  refine h_put C0 hW (T := TJ0) (kf := 1) (ty := .byte) in_J0_init_03_RJ0 h6 rfl (by decide) h7 tyJ0 tyJ0_ok nmJ0 (List.mem_of_getElem? (i := 5) rfl) rfl (Or.inr ⟨rfl, hin rfl, rfl⟩) (by decide +kernel) h9.1 h9.2 dJ0_init_031fb_11 rfl (fun H locs hW => ?_)
  obtain ⟨S8, eS8⟩ : ∃ z : hS, z = upS S4 t0 (.inr (0, fs5.set 1 (.int z2))) := ⟨_, rfl⟩
  rw [← eS8] at hW
  replace hw := hw S8 eS8
  exact hret S8 _ _ 0 0 (Nat.le_refl _) (Nat.le_refl _) hw dJ0_init_031fb_14 _ _ _ hW hl
set_option maxHeartbeats 4000000 in
set_option maxRecDepth 100000 in
theorem k_J0_init_03 {l : Launch} {D : va_G} {u : hU} {X : va_W} {sz : Nat} (post : hS → Prop) (t0 : Nat) (p1 : Option Nat) (z2 : Int32) (S : hS) (hw : w_J0_init_03 u post t0 p1 z2 S) : hMv l yJ0_init_031fb wsJ0_init_031fb rm_J0_init_03 D (gt u.2.1) u.1 u.2.2 sz X S [.ref t0, va_rf p1, .int z2] post 0 0 := by
  refine hMv_of (cc := cJ0_init_031fb) (nL := 3) (own := RJ0) (by decide) rfl rfl (by cases p1 <;> exact Nat.le_of_ble_eq_true rfl) ?_
  intro p e s m args below meth c A Q C0 hin hret
  have hfin := t_J0_init_03_0 C0 hin t0 post hret p1 z2 S hw
  intro H locs ls hW hl
  refine hfin H locs ls hW ?_
  cases p1 <;> exact hl
abbrev rm_J1_newString_b4 (MC MS : Nat) : Room := { frames := 3, cells := MC, slots := MS, locals := 67 }
theorem in_J1_newString_b4_RJ0 : ∀ w ∈ wsJ00, w ∈ wsJ1_newString_b4f7a := fun w hw9 => List.mem_cons_of_mem _ (List.mem_append_right _ hw9)
set_option maxHeartbeats 4000000 in
set_option maxRecDepth 100000 in
theorem t_J1_newString_b4_0 (C0 : hX p s m args c cJ1_newString_b4f7a 3 RJ1 wsJ1_newString_b4f7a D (gt u.2.1) A u.1 u.2.2)  (post : Option Nat → hS → Prop) (hret : ∀ (r : Option Nat) (S' : hS) (pc : Nat) (lv : List (Nat × Value)) (k n : Nat), k ≤ MC → n ≤ MS → post r S' → decode cJ1_newString_b4f7a pc = .ok (.areturn, 1) → gG p l e (rm_J1_newString_b4 MC MS) s m args below meth c Q D A 3 k n (hC X S') pc lv [va_rf r])  : ∀ (p1 : Option Nat) (z2 : Int32) (z3 : Int32) (S : hS) (mc ms k n : Nat), k + mc ≤ MC ∧ n + ms ≤ MS → w_J1_newString_b4 u post   p1 z2 z3 S mc ms → gG p l e (rm_J1_newString_b4 MC MS) s m args below meth c Q D A 3 k n (hC X S) 0 [(0, va_rf p1), (1, .int z2), (2, .int z3)] [] := by
  obtain ⟨⟨hx, hb, hml, ho, hts, hK, hA⟩, hR⟩ := id C0
  intro p1 z2 z3 S mc ms k n hkn hw H locs ls hW hl
  rw [w_J1_newString_b4] at hw
  refine lv_iload_n hx hb dJ1_newString_b4f7a_0 rfl (lv_at hl 2 rfl) ?_
  refine lv_if_ne (tgt := 7) hx hb dJ1_newString_b4f7a_1 (by decide) (fun c1 => ?_) (fun c1 => ?_)
  · replace hw := hw.1 c1
    obtain ⟨h5, h6, hw⟩ := hw
    refine h_new C0 hW (ci := 0) (fs := [.null, .int 0, .int 0, .int 0]) in_J1_newString_b4_RJ0 rfl tyJ0 tyJ0_ok (List.mem_of_getElem? (i := 1) rfl) (List.mem_of_getElem? (i := 2) rfl) (List.mem_of_getElem? (i := 3) rfl) (fun j hj => by rcases (show j = 0 ∨ j = 1 ∨ j = 2 ∨ j = 3 by omega) with rfl | rfl | rfl | rfl <;> rfl) (by show _ ≤ MC; omega) (by show _ ≤ MS; omega) dJ1_newString_b4f7a_7 (fun q2 H h3 hW => ?_)
    obtain ⟨S4, eS4⟩ : ∃ z : hS, z = adS S q2 (.inr (0, [.null, .int 0, .int 0, .int 0])) := ⟨_, rfl⟩
    rw [← eS4] at hW
    replace hw := hw q2 S4 h3 eS4
    have hkn : (k + 1) + (mc - 1) ≤ MC ∧ (n + 4) + (ms - 4) ≤ MS := by omega
    refine lv_dup hx hb dJ1_newString_b4f7a_10 rfl ?_
    refine lv_aloadV_n hx hb dJ1_newString_b4f7a_11 rfl (lv_at hl 0 rfl) ?_
    refine lv_iload_n hx hb dJ1_newString_b4f7a_12 rfl (lv_at hl 1 rfl) ?_
    refine lv_iload_n hx hb dJ1_newString_b4f7a_13 rfl (lv_at hl 1 rfl) ?_
    refine lv_iload_n hx hb dJ1_newString_b4f7a_14 rfl (lv_at hl 2 rfl) ?_
    refine lv_iadd hx hb dJ1_newString_b4f7a_15 ?_
    obtain ⟨k8, n9, h10, h11, hw⟩ := hw
    refine h_goq C0 hW (va_runS (As := [va_rf p1, .int z2, .int (z2 + z3)]) (rest := [.ref q2, .ref q2]) ⟨hx, hb, hml, ho, hts⟩ (k_J7_copyOfRange_39 (l := l) (u := u) (X := X) (sz := H.size) _ p1 z2 (z2 + z3) S4 k8 n9 hw) (va_cwS 3 hts gJ1_newString_b4f7a_J7_copyOfRange_39247 rfl rfl rfl (by decide +kernel) ⟨Nat.le_of_ble_eq_true rfl, Nat.le_of_ble_eq_true rfl⟩) ⟨h_blind, (h_pre C0 hW [va_rf p1, .int z2, .int (z2 + z3)])⟩ rfl rfl hl.1 rfl (lv_room (Nat.le_of_ble_eq_true rfl)) dJ1_newString_b4f7a_16 ⟨by show _ ≤ MC; omega, by show _ ≤ MS; omega⟩) (fun r7 S12 H locs h13 hW => ?_)
    replace hw := h13
    have hkn : ((k + 1) + k8) + ((mc - 1) - k8) ≤ MC ∧ ((n + 4) + n9) + ((ms - 4) - n9) ≤ MS := by omega
    refine lv_iconst (v := 0) hx hb dJ1_newString_b4f7a_19 (by decide) ?_
    refine h_gov C0 hW (va_runI (As := [va_rf r7, .int 0]) (rest := [.ref q2]) ⟨hx, hb, hml, ho, hts⟩ (k_J0_init_03 (l := l) (u := u) (X := X) (sz := H.size) _ q2 r7 0 S12  hw) (cwI 2 hts gJ1_newString_b4f7a_J0_init_031fb rfl rfl rfl (hts _ (List.mem_of_getElem? (i := 3) rfl)) (hts _ (List.mem_of_getElem? (i := 29) rfl)) (hts _ (List.mem_of_getElem? (i := 30) rfl)) rfl (by decide +kernel) ⟨Nat.le_of_ble_eq_true rfl, Nat.le_of_ble_eq_true rfl⟩) ⟨h_blind, (h_pre C0 hW [.ref q2, va_rf r7, .int 0])⟩ rfl rfl hl.1 rfl (lv_room (Nat.le_of_ble_eq_true rfl)) dJ1_newString_b4f7a_20 ⟨by show _ ≤ MC; omega, by show _ ≤ MS; omega⟩) (fun S15 H locs h16 hW => ?_)
    replace hw := h16
    exact hret (some q2) S15 _ _ _ _ (by omega) (by omega) hw dJ1_newString_b4f7a_23 _ _ _ hW hl
  · replace hw := hw.2 c1
    exact hw.elim
set_option maxHeartbeats 4000000 in
set_option maxRecDepth 100000 in
theorem k_J1_newString_b4 {l : Launch} {D : va_G} {u : hU} {X : va_W} {sz : Nat} (post : Option Nat → hS → Prop) (p1 : Option Nat) (z2 : Int32) (z3 : Int32) (S : hS) (mc ms : Nat) (hw : w_J1_newString_b4 u post  p1 z2 z3 S mc ms) : hMq l yJ1_newString_b4f7a wsJ1_newString_b4f7a (rm_J1_newString_b4 mc ms) D (gt u.2.1) u.1 u.2.2 sz X S [va_rf p1, .int z2, .int z3] post mc ms := by
  refine hMq_of (cc := cJ1_newString_b4f7a) (nL := 3) (ty := (.object "java/lang/String")) (own := RJ1) (by decide) rfl rfl (by cases p1 <;> exact Nat.le_of_ble_eq_true rfl) (Or.inl ⟨_, rfl⟩) ?_
  intro p e s m args below meth c A Q C0 hin hret
  have hfin := t_J1_newString_b4_0 C0  post hret p1 z2 z3 S mc ms 0 0 ⟨by omega, by omega⟩ hw
  intro H locs ls hW hl
  refine hfin H locs ls hW ?_
  cases p1 <;> exact hl
abbrev rm_J0_substring_37 (MC MS : Nat) : Room := { frames := 4, cells := MC, slots := MS, locals := 89 }
theorem in_J0_substring_37_RJ0 : ∀ w ∈ wsJ00, w ∈ wsJ0_substring_37a41 := fun w hw9 => List.mem_cons_of_mem _ (List.mem_append_right _ hw9)
set_option maxHeartbeats 4000000 in
set_option maxRecDepth 100000 in
theorem t_J0_substring_37_22 (C0 : hX p s m args c cJ0_substring_37a41 5 RJ0 wsJ0_substring_37a41 D (gt u.2.1) A u.1 u.2.2) (t0 : Nat) (post : Option Nat → hS → Prop) (hret : ∀ (r : Option Nat) (S' : hS) (pc : Nat) (lv : List (Nat × Value)) (k n : Nat), k ≤ MC → n ≤ MS → post r S' → decode cJ0_substring_37a41 pc = .ok (.areturn, 1) → gG p l e (rm_J0_substring_37 MC MS) s m args below meth c Q D A 5 k n (hC X S') pc lv [va_rf r])  : ∀ (x1 : Int32) (x2 : Int32) (S : hS) (mc ms k n : Nat), k + mc ≤ MC ∧ n + ms ≤ MS → w_J0_substring_37_22 u post t0  x1 x2 S mc ms → gG p l e (rm_J0_substring_37 MC MS) s m args below meth c Q D A 5 k n (hC X S) 22 [(0, .ref t0), (1, .int x1), (2, .int x2)] [] := by
  obtain ⟨⟨hx, hb, hml, ho, hts, hK, hA⟩, hR⟩ := id C0
  intro x1 x2 S mc ms k n hkn hw H locs ls hW hl
  rw [w_J0_substring_37_22] at hw
  refine lv_iload_n hx hb dJ0_substring_37a41_22 rfl (lv_at hl 2 rfl) ?_
  refine lv_iload_n hx hb dJ0_substring_37a41_23 rfl (lv_at hl 1 rfl) ?_
  refine lv_isub hx hb dJ0_substring_37a41_24 ?_
  refine lv_topi (fun v12 ev12 => ?_)
  replace hw := hw v12 ev12
  refine lv_istore (lv' := [(4, .int v12), (0, .ref t0), (1, .int x1), (2, .int x2)]) hx hb dJ0_substring_37a41_25 hl (by decide) rfl (fun ls hl9 => ?_)
  replace hl := hl9
  refine lv_aload_n hx hb dJ0_substring_37a41_27 rfl (lv_at hl 1 rfl) ?_
  obtain ⟨h14, hw⟩ := hw
  refine h_goi C0 hW (va_runV (As := []) (rest := []) ⟨hx, hb, hml, ho, hts⟩ (k_J0_isLatin1_aa (l := l) (u := u) (X := X) (sz := H.size) _ t0  S  hw) (cwV 0 hts gJ0_substring_37a41_J0_isLatin1_aae02 rfl rfl rfl (by decide +kernel) ⟨Nat.le_of_ble_eq_true rfl, Nat.le_of_ble_eq_true rfl⟩) ⟨h_blind, (h_recvS C0 hW h14), (h_pre C0 hW [.ref t0])⟩ rfl rfl hl.1 rfl (lv_room (Nat.le_of_ble_eq_true rfl)) dJ0_substring_37a41_28 ⟨by show _ ≤ MC; omega, by show _ ≤ MS; omega⟩) (fun r13 S15 H locs h16 hW => ?_)
  obtain ⟨h17, hp⟩ := h16
  rw [h17] at hW
  replace hw := hp
  refine lv_if_eq (tgt := 47) hx hb dJ0_substring_37a41_31 (by decide) (fun c18 => ?_) (fun c18 => ?_)
  · replace hw := hw.1 c18
    refine lv_aload_n hx hb dJ0_substring_37a41_47 rfl (lv_at hl 1 rfl) ?_
    obtain ⟨b19, h20, hw⟩ := hw
    refine h_getSV C0 hW in_J0_substring_37_RJ0 h20 (List.mem_of_getElem? (i := 1) rfl) dJ0_substring_37a41_48 ?_
    refine lv_iload_n hx hb dJ0_substring_37a41_51 rfl (lv_at hl 2 rfl) ?_
    refine lv_iload hx hb dJ0_substring_37a41_52 (lv_at hl 0 rfl) ?_
    exact hw.elim
  · replace hw := hw.2 c18
    refine lv_aload_n hx hb dJ0_substring_37a41_34 rfl (lv_at hl 1 rfl) ?_
    obtain ⟨b21, h22, hw⟩ := hw
    refine h_getSV C0 hW in_J0_substring_37_RJ0 h22 (List.mem_of_getElem? (i := 1) rfl) dJ0_substring_37a41_35 ?_
    refine lv_iload_n hx hb dJ0_substring_37a41_38 rfl (lv_at hl 2 rfl) ?_
    refine lv_iload hx hb dJ0_substring_37a41_39 (lv_at hl 0 rfl) ?_
    obtain ⟨k24, n25, h26, h27, hw⟩ := hw
    refine h_goq C0 hW (va_runS (As := [.ref b21, .int x1, .int v12]) (rest := []) ⟨hx, hb, hml, ho, hts⟩ (k_J1_newString_b4 (l := l) (u := u) (X := X) (sz := H.size) _ (some b21) x1 v12 S k24 n25 hw) (va_cwS 3 hts gJ0_substring_37a41_J1_newString_b4f7a rfl rfl rfl (by decide +kernel) ⟨Nat.le_of_ble_eq_true rfl, Nat.le_of_ble_eq_true rfl⟩) ⟨h_blind, (h_pre C0 hW [.ref b21, .int x1, .int v12])⟩ rfl rfl hl.1 rfl (lv_room (Nat.le_of_ble_eq_true rfl)) dJ0_substring_37a41_41 ⟨by show _ ≤ MC; omega, by show _ ≤ MS; omega⟩) (fun r23 S28 H locs h29 hW => ?_)
    replace hw := h29
    have hkn : (k + k24) + (mc - k24) ≤ MC ∧ (n + n25) + (ms - n25) ≤ MS := by omega
    refine lv_goto (tgt := 57) hx hb dJ0_substring_37a41_44 (by decide) ?_
    exact hret r23 S28 _ _ _ _ (by omega) (by omega) hw dJ0_substring_37a41_57 _ _ _ hW hl
set_option maxHeartbeats 4000000 in
set_option maxRecDepth 100000 in
theorem t_J0_substring_37_0 (C0 : hX p s m args c cJ0_substring_37a41 5 RJ0 wsJ0_substring_37a41 D (gt u.2.1) A u.1 u.2.2) (t0 : Nat) (post : Option Nat → hS → Prop) (hret : ∀ (r : Option Nat) (S' : hS) (pc : Nat) (lv : List (Nat × Value)) (k n : Nat), k ≤ MC → n ≤ MS → post r S' → decode cJ0_substring_37a41 pc = .ok (.areturn, 1) → gG p l e (rm_J0_substring_37 MC MS) s m args below meth c Q D A 5 k n (hC X S') pc lv [va_rf r])  : ∀ (z1 : Int32) (z2 : Int32) (S : hS) (mc ms k n : Nat), k + mc ≤ MC ∧ n + ms ≤ MS → w_J0_substring_37 u post t0  z1 z2 S mc ms → gG p l e (rm_J0_substring_37 MC MS) s m args below meth c Q D A 5 k n (hC X S) 0 [(0, .ref t0), (1, .int z1), (2, .int z2)] [] := by
  obtain ⟨⟨hx, hb, hml, ho, hts, hK, hA⟩, hR⟩ := id C0
  intro z1 z2 S mc ms k n hkn hw H locs ls hW hl
  rw [w_J0_substring_37] at hw
  refine lv_aload_n hx hb dJ0_substring_37a41_0 rfl (lv_at hl 0 rfl) ?_
  obtain ⟨h2, hw⟩ := hw
  refine h_goi C0 hW (va_runV (As := []) (rest := []) ⟨hx, hb, hml, ho, hts⟩ (k_J0_length_8a (l := l) (u := u) (X := X) (sz := H.size) _ t0  S  hw) (cwV 0 hts gJ0_substring_37a41_J0_length_8abf5 rfl rfl rfl (by decide +kernel) ⟨Nat.le_of_ble_eq_true rfl, Nat.le_of_ble_eq_true rfl⟩) ⟨h_blind, (h_recvS C0 hW h2), (h_pre C0 hW [.ref t0])⟩ rfl rfl hl.1 rfl (lv_room (Nat.le_of_ble_eq_true rfl)) dJ0_substring_37a41_1 ⟨by show _ ≤ MC; omega, by show _ ≤ MS; omega⟩) (fun r1 S3 H locs h4 hW => ?_)
  obtain ⟨h5, hp⟩ := h4
  rw [h5] at hW
  replace hw := hp
  refine lv_istore_n (lv' := [(3, .int r1), (0, .ref t0), (1, .int z1), (2, .int z2)]) hx hb dJ0_substring_37a41_4 rfl hl (by decide) rfl (fun ls hl9 => ?_)
  replace hl := hl9
  refine lv_iload_n hx hb dJ0_substring_37a41_5 rfl (lv_at hl 2 rfl) ?_
  refine lv_iload_n hx hb dJ0_substring_37a41_6 rfl (lv_at hl 3 rfl) ?_
  refine lv_iload_n hx hb dJ0_substring_37a41_7 rfl (lv_at hl 0 rfl) ?_
  refine h_gov C0 hW (va_runS (As := [.int z1, .int z2, .int r1]) (rest := []) ⟨hx, hb, hml, ho, hts⟩ (k_J0_checkBoundsBeginEnd_23 (l := l) (u := u) (X := X) (sz := H.size) _ z1 z2 r1 S  hw) (va_cwS 3 hts gJ0_substring_37a41_J0_checkBoundsBeginEnd_23922 rfl rfl rfl (by decide +kernel) ⟨Nat.le_of_ble_eq_true rfl, Nat.le_of_ble_eq_true rfl⟩) ⟨h_blind, (h_pre C0 hW [.int z1, .int z2, .int r1])⟩ rfl rfl hl.1 rfl (lv_room (Nat.le_of_ble_eq_true rfl)) dJ0_substring_37a41_8 ⟨by show _ ≤ MC; omega, by show _ ≤ MS; omega⟩) (fun S7 H locs h8 hW => ?_)
  obtain ⟨h9, hp⟩ := h8
  rw [h9] at hW
  replace hw := hp
  refine lv_iload_n hx hb dJ0_substring_37a41_11 rfl (lv_at hl 2 rfl) ?_
  refine lv_if_ne (tgt := 22) hx hb dJ0_substring_37a41_12 (by decide) (fun c10 => ?_) (fun c10 => ?_)
  · replace hw := hw.1 c10
    exact t_J0_substring_37_22 C0 t0 post hret  z1 z2 S mc ms _ _ hkn hw _ _ _ hW (lv_sub hl [1, 2, 3] rfl)
  · replace hw := hw.2 c10
    refine lv_iload_n hx hb dJ0_substring_37a41_15 rfl (lv_at hl 3 rfl) ?_
    refine lv_iload_n hx hb dJ0_substring_37a41_16 rfl (lv_at hl 0 rfl) ?_
    refine lv_icmp_ne (tgt := 22) hx hb dJ0_substring_37a41_17 (by decide) (fun c11 => ?_) (fun c11 => ?_)
    · replace hw := hw.1 c11
      exact t_J0_substring_37_22 C0 t0 post hret  z1 z2 S mc ms _ _ hkn hw _ _ _ hW (lv_sub hl [1, 2, 3] rfl)
    · replace hw := hw.2 c11
      refine lv_aload_n hx hb dJ0_substring_37a41_20 rfl (lv_at hl 1 rfl) ?_
      exact hret (some t0) S _ _ _ _ (by omega) (by omega) hw dJ0_substring_37a41_21 _ _ _ hW hl
set_option maxHeartbeats 4000000 in
set_option maxRecDepth 100000 in
theorem k_J0_substring_37 {l : Launch} {D : va_G} {u : hU} {X : va_W} {sz : Nat} (post : Option Nat → hS → Prop) (t0 : Nat) (z1 : Int32) (z2 : Int32) (S : hS) (mc ms : Nat) (hw : w_J0_substring_37 u post t0 z1 z2 S mc ms) : hMq l yJ0_substring_37a41 wsJ0_substring_37a41 (rm_J0_substring_37 mc ms) D (gt u.2.1) u.1 u.2.2 sz X S [.ref t0, .int z1, .int z2] post mc ms := by
  refine hMq_of (cc := cJ0_substring_37a41) (nL := 5) (ty := (.object "java/lang/String")) (own := RJ0) (by decide) rfl rfl (Nat.le_of_ble_eq_true rfl) (Or.inl ⟨_, rfl⟩) ?_
  intro p e s m args below meth c A Q C0 hin hret
  exact t_J0_substring_37_0 C0 t0 post hret z1 z2 S mc ms 0 0 ⟨by omega, by omega⟩ hw
end RAWM
