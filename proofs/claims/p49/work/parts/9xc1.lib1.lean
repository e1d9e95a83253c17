section RAWM
variable {p : Program} {l : Launch} {e : Env} {s : State} {m : MethodId} {args : Array Value} {below : List Frame} {meth : Method} {c : Code} {Q : State → Prop}
variable {D : va_G} {A : Nat → Prop} {u : hU} {X : va_W} {MC MS : Nat}
abbrev rm_J0_isLatin1_aa : Room := { frames := 0, cells := 0, slots := 0, locals := 0 }
theorem in_J0_isLatin1_aa_RJ0 : ∀ w ∈ wsJ00, w ∈ wsJ0_isLatin1_aae02 := fun w hw9 => List.mem_cons_of_mem _ (List.mem_append_right _ hw9)
set_option maxHeartbeats 4000000 in
set_option maxRecDepth 100000 in
theorem t_J0_isLatin1_aa_0 (C0 : hX p s m args c cJ0_isLatin1_aae02 1 RJ0 wsJ0_isLatin1_aae02 D (gt u.2.1) A u.1 u.2.2) {S : hS} (t0 : Nat) (post : Int32 → Prop) (hret : ∀ (r : Int32) (S' : hS) (pc : Nat) (lv : List (Nat × Value)) (k n : Nat), k ≤ 0 → n ≤ 0 → (S' = S ∧ post r) → narrow .boolean (.int r) = .int r → decode cJ0_isLatin1_aae02 pc = .ok (.ireturn, 1) → gG p l e (rm_J0_isLatin1_aa) s m args below meth c Q D A 1 k n (hC X S') pc lv [.int r])  : w_J0_isLatin1_aa u post t0   S → gG p l e (rm_J0_isLatin1_aa) s m args below meth c Q D A 1 0 0 (hC X S) 0 [(0, .ref t0)] [] := by
  obtain ⟨⟨hx, hb, hml, ho, hts, hK, hA⟩, hR⟩ := id C0
  intro  hw H locs ls hW hl
  rw [w_J0_isLatin1_aa] at hw
  refine h_gets C0 hW (List.mem_of_getElem? (i := 1) rfl) dJ0_isLatin1_aae02_0 ?_
  refine lv_if_eq (tgt := 17) hx hb dJ0_isLatin1_aae02_3 (by decide) (fun c1 => ?_) (fun c1 => ?_)
  · replace hw := hw.1 c1
    refine lv_iconst (v := 0) hx hb dJ0_isLatin1_aae02_17 (by decide) ?_
    exact hret 0 S _ _ 0 0 (Nat.le_refl _) (Nat.le_refl _) ⟨rfl, hw⟩ (by decide) dJ0_isLatin1_aae02_18 _ _ _ hW hl
  · replace hw := hw.2 c1
    refine lv_aload_n hx hb dJ0_isLatin1_aae02_6 rfl (lv_at hl 0 rfl) ?_
    obtain ⟨v2, h3, hw⟩ := hw
    refine h_getSC C0 hW in_J0_isLatin1_aa_RJ0 h3 (List.mem_of_getElem? (i := 2) rfl) dJ0_isLatin1_aae02_7 ?_
    refine lv_if_ne (tgt := 17) hx hb dJ0_isLatin1_aae02_10 (by decide) (fun c4 => ?_) (fun c4 => ?_)
    · replace hw := hw.1 c4
      refine lv_iconst (v := 0) hx hb dJ0_isLatin1_aae02_17 (by decide) ?_
      exact hret 0 S _ _ 0 0 (Nat.le_refl _) (Nat.le_refl _) ⟨rfl, hw⟩ (by decide) dJ0_isLatin1_aae02_18 _ _ _ hW hl
    · replace hw := hw.2 c4
      refine lv_iconst (v := 1) hx hb dJ0_isLatin1_aae02_13 (by decide) ?_
      refine lv_goto (tgt := 18) hx hb dJ0_isLatin1_aae02_14 (by decide) ?_
      exact hret 1 S _ _ 0 0 (Nat.le_refl _) (Nat.le_refl _) ⟨rfl, hw⟩ (by decide) dJ0_isLatin1_aae02_18 _ _ _ hW hl
set_option maxHeartbeats 4000000 in
set_option maxRecDepth 100000 in
theorem k_J0_isLatin1_aa {l : Launch} {D : va_G} {u : hU} {X : va_W} {sz : Nat} (post : Int32 → Prop) (t0 : Nat) (S : hS) (hw : w_J0_isLatin1_aa u post t0  S) : hMi l yJ0_isLatin1_aae02 wsJ0_isLatin1_aae02 rm_J0_isLatin1_aa D (gt u.2.1) u.1 u.2.2 sz X S [.ref t0] (fun r S' => S' = S ∧ post r) 0 0 := by
  refine hMi_of (cc := cJ0_isLatin1_aae02) (nL := 1) (ty := .boolean) (own := RJ0) (by decide) rfl rfl (Nat.le_of_ble_eq_true rfl) ?_
  intro p e s m args below meth c A Q C0 hin hret
  exact t_J0_isLatin1_aa_0 C0 t0 post hret  hw
abbrev rm_J3_checkIndex_8e : Room := { frames := 0, cells := 0, slots := 0, locals := 0 }
set_option maxHeartbeats 4000000 in
set_option maxRecDepth 100000 in
theorem t_J3_checkIndex_8e_9 (C0 : hX p s m args c cJ3_checkIndex_8e157 3 RJ3 wsJ3_checkIndex_8e157 D (gt u.2.1) A u.1 u.2.2) {S : hS}  (post : Int32 → Prop) (hret : ∀ (r : Int32) (S' : hS) (pc : Nat) (lv : List (Nat × Value)) (k n : Nat), k ≤ 0 → n ≤ 0 → (S' = S ∧ post r) → narrow .int (.int r) = .int r → decode cJ3_checkIndex_8e157 pc = .ok (.ireturn, 1) → gG p l e (rm_J3_checkIndex_8e) s m args below meth c Q D A 3 k n (hC X S') pc lv [.int r])  : ∀ (x0 : Int32) (x1 : Int32) (x2 : Option Nat), w_J3_checkIndex_8e_9 u post   x0 x1 x2 S → gG p l e (rm_J3_checkIndex_8e) s m args below meth c Q D A 3 0 0 (hC X S) 9 [(0, .int x0), (1, .int x1), (2, va_rf x2)] [] := by
  obtain ⟨⟨hx, hb, hml, ho, hts, hK, hA⟩, hR⟩ := id C0
  intro x0 x1 x2 hw H locs ls hW hl
  rw [w_J3_checkIndex_8e_9] at hw
  refine lv_aloadV_n hx hb dJ3_checkIndex_8e157_9 rfl (lv_at hl 2 rfl) ?_
  refine lv_iload_n hx hb dJ3_checkIndex_8e157_10 rfl (lv_at hl 0 rfl) ?_
  refine lv_iload_n hx hb dJ3_checkIndex_8e157_11 rfl (lv_at hl 1 rfl) ?_
  exact hw.elim
set_option maxHeartbeats 4000000 in
set_option maxRecDepth 100000 in
theorem t_J3_checkIndex_8e_0 (C0 : hX p s m args c cJ3_checkIndex_8e157 3 RJ3 wsJ3_checkIndex_8e157 D (gt u.2.1) A u.1 u.2.2) {S : hS}  (post : Int32 → Prop) (hret : ∀ (r : Int32) (S' : hS) (pc : Nat) (lv : List (Nat × Value)) (k n : Nat), k ≤ 0 → n ≤ 0 → (S' = S ∧ post r) → narrow .int (.int r) = .int r → decode cJ3_checkIndex_8e157 pc = .ok (.ireturn, 1) → gG p l e (rm_J3_checkIndex_8e) s m args below meth c Q D A 3 k n (hC X S') pc lv [.int r])  : ∀ (z1 : Int32) (z2 : Int32) (p3 : Option Nat), w_J3_checkIndex_8e u post   z1 z2 p3 S → gG p l e (rm_J3_checkIndex_8e) s m args below meth c Q D A 3 0 0 (hC X S) 0 [(0, .int z1), (1, .int z2), (2, va_rf p3)] [] := by
  obtain ⟨⟨hx, hb, hml, ho, hts, hK, hA⟩, hR⟩ := id C0
  intro z1 z2 p3 hw H locs ls hW hl
  rw [w_J3_checkIndex_8e] at hw
  refine lv_iload_n hx hb dJ3_checkIndex_8e157_0 rfl (lv_at hl 0 rfl) ?_
  refine lv_if_lt (tgt := 9) hx hb dJ3_checkIndex_8e157_1 (by decide) (fun c1 => ?_) (fun c1 => ?_)
  · replace hw := hw.1 c1
    exact t_J3_checkIndex_8e_9 C0  post hret  z1 z2 p3   hw _ _ _ hW (lv_sub hl [0, 1, 2] rfl)
  · replace hw := hw.2 c1
    refine lv_iload_n hx hb dJ3_checkIndex_8e157_4 rfl (lv_at hl 0 rfl) ?_
    refine lv_iload_n hx hb dJ3_checkIndex_8e157_5 rfl (lv_at hl 1 rfl) ?_
    refine lv_icmp_lt (tgt := 16) hx hb dJ3_checkIndex_8e157_6 (by decide) (fun c2 => ?_) (fun c2 => ?_)
    · replace hw := hw.1 c2
      refine lv_iload_n hx hb dJ3_checkIndex_8e157_16 rfl (lv_at hl 0 rfl) ?_
      exact hret z1 S _ _ 0 0 (Nat.le_refl _) (Nat.le_refl _) ⟨rfl, hw⟩ rfl dJ3_checkIndex_8e157_17 _ _ _ hW hl
    · replace hw := hw.2 c2
      exact t_J3_checkIndex_8e_9 C0  post hret  z1 z2 p3   hw _ _ _ hW (lv_sub hl [0, 1, 2] rfl)
set_option maxHeartbeats 4000000 in
set_option maxRecDepth 100000 in
theorem k_J3_checkIndex_8e {l : Launch} {D : va_G} {u : hU} {X : va_W} {sz : Nat} (post : Int32 → Prop) (z1 : Int32) (z2 : Int32) (p3 : Option Nat) (S : hS) (hw : w_J3_checkIndex_8e u post  z1 z2 p3 S) : hMi l yJ3_checkIndex_8e157 wsJ3_checkIndex_8e157 rm_J3_checkIndex_8e D (gt u.2.1) u.1 u.2.2 sz X S [.int z1, .int z2, va_rf p3] (fun r S' => S' = S ∧ post r) 0 0 := by
  refine hMi_of (cc := cJ3_checkIndex_8e157) (nL := 3) (ty := .int) (own := RJ3) (by decide) rfl rfl (by cases p3 <;> exact Nat.le_of_ble_eq_true rfl) ?_
  intro p e s m args below meth c A Q C0 hin hret
  have hfin := t_J3_checkIndex_8e_0 C0  post hret z1 z2 p3 hw
  intro H locs ls hW hl
  refine hfin H locs ls hW ?_
  cases p3 <;> exact hl
abbrev rm_J0_checkIndex_df : Room := { frames := 1, cells := 0, slots := 0, locals := 22 }
set_option maxHeartbeats 4000000 in
set_option maxRecDepth 100000 in
theorem t_J0_checkIndex_df_0 (C0 : hX p s m args c cJ0_checkIndex_df160 2 RJ0 wsJ0_checkIndex_df160 D (gt u.2.1) A u.1 u.2.2) {S : hS}  (post : Prop) (hret : ∀ (S' : hS) (pc : Nat) (lv : List (Nat × Value)) (k n : Nat), k ≤ 0 → n ≤ 0 → (S' = S ∧ post) → decode cJ0_checkIndex_df160 pc = .ok (.return_, 1) → gG p l e (rm_J0_checkIndex_df) s m args below meth c Q D A 2 k n (hC X S') pc lv [])  : ∀ (z1 : Int32) (z2 : Int32), w_J0_checkIndex_df u post   z1 z2 S → gG p l e (rm_J0_checkIndex_df) s m args below meth c Q D A 2 0 0 (hC X S) 0 [(0, .int z1), (1, .int z2)] [] := by
  obtain ⟨⟨hx, hb, hml, ho, hts, hK, hA⟩, hR⟩ := id C0
  intro z1 z2 hw H locs ls hW hl
  rw [w_J0_checkIndex_df] at hw
  refine lv_iload_n hx hb dJ0_checkIndex_df160_0 rfl (lv_at hl 0 rfl) ?_
  refine lv_iload_n hx hb dJ0_checkIndex_df160_1 rfl (lv_at hl 1 rfl) ?_
  refine h_getF C0 hW (List.mem_of_getElem? (i := 1) rfl) dJ0_checkIndex_df160_2 ?_
  refine h_goi C0 hW (va_runS (As := [.int z1, .int z2, va_rf u.2.2.1]) (rest := []) ⟨hx, hb, hml, ho, hts⟩ (k_J3_checkIndex_8e (l := l) (u := u) (X := X) (sz := H.size) _ z1 z2 u.2.2.1 S  hw) (va_cwS 3 hts gJ0_checkIndex_df160_J3_checkIndex_8e157 rfl rfl rfl (by decide +kernel) ⟨Nat.le_of_ble_eq_true rfl, Nat.le_of_ble_eq_true rfl⟩) ⟨h_blind, (h_pre C0 hW [.int z1, .int z2, va_rf u.2.2.1])⟩ rfl rfl hl.1 rfl (lv_room (Nat.le_of_ble_eq_true rfl)) dJ0_checkIndex_df160_5 ⟨Nat.le_refl _, Nat.le_refl _⟩) (fun r1 S2 H locs h3 hW => ?_)
  obtain ⟨h4, hp⟩ := h3
  rw [h4] at hW
  replace hw := hp
  refine lv_pop hx hb dJ0_checkIndex_df160_8 rfl ?_
  exact hret S _ _ 0 0 (Nat.le_refl _) (Nat.le_refl _) ⟨rfl, hw⟩ dJ0_checkIndex_df160_9 _ _ _ hW hl
set_option maxHeartbeats 4000000 in
set_option maxRecDepth 100000 in
theorem k_J0_checkIndex_df {l : Launch} {D : va_G} {u : hU} {X : va_W} {sz : Nat} (post : Prop) (z1 : Int32) (z2 : Int32) (S : hS) (hw : w_J0_checkIndex_df u post  z1 z2 S) : hMv l yJ0_checkIndex_df160 wsJ0_checkIndex_df160 rm_J0_checkIndex_df D (gt u.2.1) u.1 u.2.2 sz X S [.int z1, .int z2] (fun S' => S' = S ∧ post) 0 0 := by
  refine hMv_of (cc := cJ0_checkIndex_df160) (nL := 2) (own := RJ0) (by decide) rfl rfl (Nat.le_of_ble_eq_true rfl) ?_
  intro p e s m args below meth c A Q C0 hin hret
  exact t_J0_checkIndex_df_0 C0  post hret z1 z2 hw
abbrev rm_J1_charAt_3b : Room := { frames := 2, cells := 0, slots := 0, locals := 43 }
set_option maxHeartbeats 4000000 in
set_option maxRecDepth 100000 in
theorem t_J1_charAt_3b_0 (C0 : hX p s m args c cJ1_charAt_3b067 2 RJ1 wsJ1_charAt_3b067 D (gt u.2.1) A u.1 u.2.2) {S : hS}  (post : Int32 → Prop) (hret : ∀ (r : Int32) (S' : hS) (pc : Nat) (lv : List (Nat × Value)) (k n : Nat), k ≤ 0 → n ≤ 0 → (S' = S ∧ post r) → narrow .char (.int r) = .int r → decode cJ1_charAt_3b067 pc = .ok (.ireturn, 1) → gG p l e (rm_J1_charAt_3b) s m args below meth c Q D A 2 k n (hC X S') pc lv [.int r])  : ∀ (p1 : Option Nat) (z2 : Int32), w_J1_charAt_3b u post   p1 z2 S → gG p l e (rm_J1_charAt_3b) s m args below meth c Q D A 2 0 0 (hC X S) 0 [(0, va_rf p1), (1, .int z2)] [] := by
  obtain ⟨⟨hx, hb, hml, ho, hts, hK, hA⟩, hR⟩ := id C0
  intro p1 z2 hw H locs ls hW hl
  rw [w_J1_charAt_3b] at hw
  refine lv_iload_n hx hb dJ1_charAt_3b067_0 rfl (lv_at hl 1 rfl) ?_
  refine lv_aloadV_n hx hb dJ1_charAt_3b067_1 rfl (lv_at hl 0 rfl) ?_
  obtain ⟨a1, rfl, hw⟩ := hw
  obtain ⟨N2, g3, h4, hw⟩ := hw
  refine h_blen C0 hW h4 rfl dJ1_charAt_3b067_2 ?_
  refine h_gov C0 hW (va_runS (As := [.int z2, .int (nI N2)]) (rest := []) ⟨hx, hb, hml, ho, hts⟩ (k_J0_checkIndex_df (l := l) (u := u) (X := X) (sz := H.size) _ z2 (nI N2) S  hw) (va_cwS 2 hts gJ1_charAt_3b067_J0_checkIndex_df160 rfl rfl rfl (by decide +kernel) ⟨Nat.le_of_ble_eq_true rfl, Nat.le_of_ble_eq_true rfl⟩) ⟨h_blind, (h_pre C0 hW [.int z2, .int (nI N2)])⟩ rfl rfl hl.1 rfl (lv_room (Nat.le_of_ble_eq_true rfl)) dJ1_charAt_3b067_3 ⟨Nat.le_refl _, Nat.le_refl _⟩) (fun S6 H locs h7 hW => ?_)
  obtain ⟨h8, hp⟩ := h7
  rw [h8] at hW
  replace hw := hp
  refine lv_aload_n hx hb dJ1_charAt_3b067_6 rfl (lv_at hl 0 rfl) ?_
  refine lv_iload_n hx hb dJ1_charAt_3b067_7 rfl (lv_at hl 1 rfl) ?_
  obtain ⟨N9, g10, h11, h12, hw⟩ := hw
  refine h_bald C0 hW h11 rfl h12 dJ1_charAt_3b067_8 ?_
  refine lv_sipush (v := 255) hx hb dJ1_charAt_3b067_9 (by decide) ?_
  refine lv_iand hx hb dJ1_charAt_3b067_12 ?_
  refine lv_i2c hx hb dJ1_charAt_3b067_13 rfl ?_
  exact hret ((((g10 (z2 : Int32).toNatClampNeg) &&& 255) : Int32).toUInt32 % 65536).toInt32 S _ _ 0 0 (Nat.le_refl _) (Nat.le_refl _) ⟨rfl, hw.2⟩ hw.1 dJ1_charAt_3b067_14 _ _ _ hW hl
set_option maxHeartbeats 4000000 in
set_option maxRecDepth 100000 in
theorem k_J1_charAt_3b {l : Launch} {D : va_G} {u : hU} {X : va_W} {sz : Nat} (post : Int32 → Prop) (p1 : Option Nat) (z2 : Int32) (S : hS) (hw : w_J1_charAt_3b u post  p1 z2 S) : hMi l yJ1_charAt_3b067 wsJ1_charAt_3b067 rm_J1_charAt_3b D (gt u.2.1) u.1 u.2.2 sz X S [va_rf p1, .int z2] (fun r S' => S' = S ∧ post r) 0 0 := by
  refine hMi_of (cc := cJ1_charAt_3b067) (nL := 2) (ty := .char) (own := RJ1) (by decide) rfl rfl (by cases p1 <;> exact Nat.le_of_ble_eq_true rfl) ?_
  intro p e s m args below meth c A Q C0 hin hret
  have hfin := t_J1_charAt_3b_0 C0  post hret p1 z2 hw
  intro H locs ls hW hl
  refine hfin H locs ls hW ?_
  cases p1 <;> exact hl
abbrev rm_J0_charAt_50 : Room := { frames := 3, cells := 0, slots := 0, locals := 64 }
theorem in_J0_charAt_50_RJ0 : ∀ w ∈ wsJ00, w ∈ wsJ0_charAt_5068e := fun w hw9 => List.mem_cons_of_mem _ (List.mem_append_right _ hw9)
set_option maxHeartbeats 4000000 in
set_option maxRecDepth 100000 in
theorem t_J0_charAt_50_0 (C0 : hX p s m args c cJ0_charAt_5068e 2 RJ0 wsJ0_charAt_5068e D (gt u.2.1) A u.1 u.2.2) {S : hS} (t0 : Nat) (post : Int32 → Prop) (hret : ∀ (r : Int32) (S' : hS) (pc : Nat) (lv : List (Nat × Value)) (k n : Nat), k ≤ 0 → n ≤ 0 → (S' = S ∧ post r) → narrow .char (.int r) = .int r → decode cJ0_charAt_5068e pc = .ok (.ireturn, 1) → gG p l e (rm_J0_charAt_50) s m args below meth c Q D A 2 k n (hC X S') pc lv [.int r])  : ∀ (z1 : Int32), w_J0_charAt_50 u post t0  z1 S → gG p l e (rm_J0_charAt_50) s m args below meth c Q D A 2 0 0 (hC X S) 0 [(0, .ref t0), (1, .int z1)] [] := by
  obtain ⟨⟨hx, hb, hml, ho, hts, hK, hA⟩, hR⟩ := id C0
  intro z1 hw H locs ls hW hl
  rw [w_J0_charAt_50] at hw
  refine lv_aload_n hx hb dJ0_charAt_5068e_0 rfl (lv_at hl 0 rfl) ?_
  obtain ⟨h2, hw⟩ := hw
  refine h_goi C0 hW (va_runV (As := []) (rest := []) ⟨hx, hb, hml, ho, hts⟩ (k_J0_isLatin1_aa (l := l) (u := u) (X := X) (sz := H.size) _ t0  S  hw) (cwV 0 hts gJ0_charAt_5068e_J0_isLatin1_aae02 rfl rfl rfl (by decide +kernel) ⟨Nat.le_of_ble_eq_true rfl, Nat.le_of_ble_eq_true rfl⟩) ⟨h_blind, (h_recvS C0 hW h2), (h_pre C0 hW [.ref t0])⟩ rfl rfl hl.1 rfl (lv_room (Nat.le_of_ble_eq_true rfl)) dJ0_charAt_5068e_1 ⟨Nat.le_refl _, Nat.le_refl _⟩) (fun r1 S3 H locs h4 hW => ?_)
  obtain ⟨h5, hp⟩ := h4
  rw [h5] at hW
  replace hw := hp
  refine lv_if_eq (tgt := 16) hx hb dJ0_charAt_5068e_4 (by decide) (fun c6 => ?_) (fun c6 => ?_)
  · replace hw := hw.1 c6
    refine lv_aload_n hx hb dJ0_charAt_5068e_16 rfl (lv_at hl 0 rfl) ?_
    obtain ⟨b7, h8, hw⟩ := hw
    refine h_getSV C0 hW in_J0_charAt_50_RJ0 h8 (List.mem_of_getElem? (i := 1) rfl) dJ0_charAt_5068e_17 ?_
    refine lv_iload_n hx hb dJ0_charAt_5068e_20 rfl (lv_at hl 1 rfl) ?_
    exact hw.elim
  · replace hw := hw.2 c6
    refine lv_aload_n hx hb dJ0_charAt_5068e_7 rfl (lv_at hl 0 rfl) ?_
    obtain ⟨b9, h10, hw⟩ := hw
    refine h_getSV C0 hW in_J0_charAt_50_RJ0 h10 (List.mem_of_getElem? (i := 1) rfl) dJ0_charAt_5068e_8 ?_
    refine lv_iload_n hx hb dJ0_charAt_5068e_11 rfl (lv_at hl 1 rfl) ?_
    refine h_goi C0 hW (va_runS (As := [.ref b9, .int z1]) (rest := []) ⟨hx, hb, hml, ho, hts⟩ (k_J1_charAt_3b (l := l) (u := u) (X := X) (sz := H.size) _ (some b9) z1 S  hw) (va_cwS 2 hts gJ0_charAt_5068e_J1_charAt_3b067 rfl rfl rfl (by decide +kernel) ⟨Nat.le_of_ble_eq_true rfl, Nat.le_of_ble_eq_true rfl⟩) ⟨h_blind, (h_pre C0 hW [.ref b9, .int z1])⟩ rfl rfl hl.1 rfl (lv_room (Nat.le_of_ble_eq_true rfl)) dJ0_charAt_5068e_12 ⟨Nat.le_refl _, Nat.le_refl _⟩) (fun r11 S12 H locs h13 hW => ?_)
    obtain ⟨h14, hp⟩ := h13
    rw [h14] at hW
    replace hw := hp
    exact hret r11 S _ _ 0 0 (Nat.le_refl _) (Nat.le_refl _) ⟨rfl, hw.2⟩ hw.1 dJ0_charAt_5068e_15 _ _ _ hW hl
set_option maxHeartbeats 4000000 in
set_option maxRecDepth 100000 in
theorem k_J0_charAt_50 {l : Launch} {D : va_G} {u : hU} {X : va_W} {sz : Nat} (post : Int32 → Prop) (t0 : Nat) (z1 : Int32) (S : hS) (hw : w_J0_charAt_50 u post t0 z1 S) : hMi l yJ0_charAt_5068e wsJ0_charAt_5068e rm_J0_charAt_50 D (gt u.2.1) u.1 u.2.2 sz X S [.ref t0, .int z1] (fun r S' => S' = S ∧ post r) 0 0 := by
  refine hMi_of (cc := cJ0_charAt_5068e) (nL := 2) (ty := .char) (own := RJ0) (by decide) rfl rfl (Nat.le_of_ble_eq_true rfl) ?_
  intro p e s m args below meth c A Q C0 hin hret
  exact t_J0_charAt_50_0 C0 t0 post hret z1 hw
abbrev rm_J0_coder_7d : Room := { frames := 0, cells := 0, slots := 0, locals := 0 }
theorem in_J0_coder_7d_RJ0 : ∀ w ∈ wsJ00, w ∈ wsJ0_coder_7d493 := fun w hw9 => List.mem_cons_of_mem _ (List.mem_append_right _ hw9)
set_option maxHeartbeats 4000000 in
set_option maxRecDepth 100000 in
theorem t_J0_coder_7d_0 (C0 : hX p s m args c cJ0_coder_7d493 1 RJ0 wsJ0_coder_7d493 D (gt u.2.1) A u.1 u.2.2) {S : hS} (t0 : Nat) (post : Int32 → Prop) (hret : ∀ (r : Int32) (S' : hS) (pc : Nat) (lv : List (Nat × Value)) (k n : Nat), k ≤ 0 → n ≤ 0 → (S' = S ∧ post r) → narrow .byte (.int r) = .int r → decode cJ0_coder_7d493 pc = .ok (.ireturn, 1) → gG p l e (rm_J0_coder_7d) s m args below meth c Q D A 1 k n (hC X S') pc lv [.int r])  : w_J0_coder_7d u post t0   S → gG p l e (rm_J0_coder_7d) s m args below meth c Q D A 1 0 0 (hC X S) 0 [(0, .ref t0)] [] := by
  obtain ⟨⟨hx, hb, hml, ho, hts, hK, hA⟩, hR⟩ := id C0
  intro  hw H locs ls hW hl
  rw [w_J0_coder_7d] at hw
  refine h_gets C0 hW (List.mem_of_getElem? (i := 1) rfl) dJ0_coder_7d493_0 ?_
  refine lv_if_eq (tgt := 13) hx hb dJ0_coder_7d493_3 (by decide) (fun c1 => ?_) (fun c1 => ?_)
  · replace hw := hw.1 c1
    refine lv_iconst (v := 1) hx hb dJ0_coder_7d493_13 (by decide) ?_
    exact hret 1 S _ _ 0 0 (Nat.le_refl _) (Nat.le_refl _) ⟨rfl, hw⟩ (by decide) dJ0_coder_7d493_14 _ _ _ hW hl
  · replace hw := hw.2 c1
    refine lv_aload_n hx hb dJ0_coder_7d493_6 rfl (lv_at hl 0 rfl) ?_
    obtain ⟨v2, h3, hw⟩ := hw
    refine h_getSC C0 hW in_J0_coder_7d_RJ0 h3 (List.mem_of_getElem? (i := 2) rfl) dJ0_coder_7d493_7 ?_
    refine lv_goto (tgt := 14) hx hb dJ0_coder_7d493_10 (by decide) ?_
    exact hret v2 S _ _ 0 0 (Nat.le_refl _) (Nat.le_refl _) ⟨rfl, hw.2⟩ hw.1 dJ0_coder_7d493_14 _ _ _ hW hl
set_option maxHeartbeats 4000000 in
set_option maxRecDepth 100000 in
theorem k_J0_coder_7d {l : Launch} {D : va_G} {u : hU} {X : va_W} {sz : Nat} (post : Int32 → Prop) (t0 : Nat) (S : hS) (hw : w_J0_coder_7d u post t0  S) : hMi l yJ0_coder_7d493 wsJ0_coder_7d493 rm_J0_coder_7d D (gt u.2.1) u.1 u.2.2 sz X S [.ref t0] (fun r S' => S' = S ∧ post r) 0 0 := by
  refine hMi_of (cc := cJ0_coder_7d493) (nL := 1) (ty := .byte) (own := RJ0) (by decide) rfl rfl (Nat.le_of_ble_eq_true rfl) ?_
  intro p e s m args below meth c A Q C0 hin hret
  exact t_J0_coder_7d_0 C0 t0 post hret  hw
abbrev rm_J0_length_8a : Room := { frames := 1, cells := 0, slots := 0, locals := 20 }
theorem in_J0_length_8a_RJ0 : ∀ w ∈ wsJ00, w ∈ wsJ0_length_8abf5 := fun w hw9 => List.mem_cons_of_mem _ (List.mem_append_right _ hw9)
set_option maxHeartbeats 4000000 in
set_option maxRecDepth 100000 in
theorem t_J0_length_8a_0 (C0 : hX p s m args c cJ0_length_8abf5 1 RJ0 wsJ0_length_8abf5 D (gt u.2.1) A u.1 u.2.2) {S : hS} (t0 : Nat) (post : Int32 → Prop) (hret : ∀ (r : Int32) (S' : hS) (pc : Nat) (lv : List (Nat × Value)) (k n : Nat), k ≤ 0 → n ≤ 0 → (S' = S ∧ post r) → narrow .int (.int r) = .int r → decode cJ0_length_8abf5 pc = .ok (.ireturn, 1) → gG p l e (rm_J0_length_8a) s m args below meth c Q D A 1 k n (hC X S') pc lv [.int r])  : w_J0_length_8a u post t0   S → gG p l e (rm_J0_length_8a) s m args below meth c Q D A 1 0 0 (hC X S) 0 [(0, .ref t0)] [] := by
  obtain ⟨⟨hx, hb, hml, ho, hts, hK, hA⟩, hR⟩ := id C0
  intro  hw H locs ls hW hl
  rw [w_J0_length_8a] at hw
  refine lv_aload_n hx hb dJ0_length_8abf5_0 rfl (lv_at hl 0 rfl) ?_
  obtain ⟨b1, h2, hw⟩ := hw
  refine h_getSV C0 hW in_J0_length_8a_RJ0 h2 (List.mem_of_getElem? (i := 1) rfl) dJ0_length_8abf5_1 ?_
  obtain ⟨N3, g4, h5, hw⟩ := hw
  refine h_blen C0 hW h5 rfl dJ0_length_8abf5_4 ?_
  refine lv_aload_n hx hb dJ0_length_8abf5_5 rfl (lv_at hl 0 rfl) ?_
  obtain ⟨h7, hw⟩ := hw
  refine h_goi C0 hW (va_runV (As := []) (rest := [.int (nI N3)]) ⟨hx, hb, hml, ho, hts⟩ (k_J0_coder_7d (l := l) (u := u) (X := X) (sz := H.size) _ t0  S  hw) (cwV 0 hts gJ0_length_8abf5_J0_coder_7d493 rfl rfl rfl (by decide +kernel) ⟨Nat.le_of_ble_eq_true rfl, Nat.le_of_ble_eq_true rfl⟩) ⟨h_blind, (h_recvS C0 hW h7), (h_pre C0 hW [.ref t0])⟩ rfl rfl hl.1 rfl (lv_room (Nat.le_of_ble_eq_true rfl)) dJ0_length_8abf5_6 ⟨Nat.le_refl _, Nat.le_refl _⟩) (fun r6 S8 H locs h9 hW => ?_)
  obtain ⟨h10, hp⟩ := h9
  rw [h10] at hW
  replace hw := hp
  refine lv_ishr hx hb dJ0_length_8abf5_9 ?_
  exact hret ((nI N3) >>> (r6 &&& 31)) S _ _ 0 0 (Nat.le_refl _) (Nat.le_refl _) ⟨rfl, hw⟩ rfl dJ0_length_8abf5_10 _ _ _ hW hl
set_option maxHeartbeats 4000000 in
set_option maxRecDepth 100000 in
theorem k_J0_length_8a {l : Launch} {D : va_G} {u : hU} {X : va_W} {sz : Nat} (post : Int32 → Prop) (t0 : Nat) (S : hS) (hw : w_J0_length_8a u post t0  S) : hMi l yJ0_length_8abf5 wsJ0_length_8abf5 rm_J0_length_8a D (gt u.2.1) u.1 u.2.2 sz X S [.ref t0] (fun r S' => S' = S ∧ post r) 0 0 := by
  refine hMi_of (cc := cJ0_length_8abf5) (nL := 1) (ty := .int) (own := RJ0) (by decide) rfl rfl (Nat.le_of_ble_eq_true rfl) ?_
  intro p e s m args below meth c A Q C0 hin hret
  exact t_J0_length_8a_0 C0 t0 post hret  hw
abbrev rm_J1_canEncode_fc : Room := { frames := 0, cells := 0, slots := 0, locals := 0 }
set_option maxHeartbeats 4000000 in
set_option maxRecDepth 100000 in
theorem k_J1_canEncode_fc {l : Launch} (post : Int32 → Prop) (z1 : Int32) (hw : q_J1_canEncode_fc post z1) : gMs l yJ1_canEncode_fc78d wsJ1_canEncode_fc78d rm_J1_canEncode_fc [.int z1] post := by
  refine gMs_of (cc := cJ1_canEncode_fc78d) (nL := 1) (ty := .boolean) (own := RJ1) (by decide) rfl rfl (Nat.le_of_ble_eq_true rfl) ?_
  intro p e s m args below meth c Q hx hb hml ho hts hret ls hl
  rw [q_J1_canEncode_fc] at hw
  refine lv_iload_n hx hb dJ1_canEncode_fc78d_0 rfl (lv_at hl 0 rfl) ?_
  refine lv_sipush (v := 255) hx hb dJ1_canEncode_fc78d_1 (by decide) ?_
  refine lv_icmp_gt (tgt := 11) hx hb dJ1_canEncode_fc78d_4 (by decide) (fun c1 => ?_) (fun c1 => ?_)
  · replace hw := hw.1 c1
    refine lv_iconst (v := 0) hx hb dJ1_canEncode_fc78d_11 (by decide) ?_
    exact hret 0 _ _ hw (by decide) dJ1_canEncode_fc78d_12
  · replace hw := hw.2 c1
    refine lv_iconst (v := 1) hx hb dJ1_canEncode_fc78d_7 (by decide) ?_
    refine lv_goto (tgt := 12) hx hb dJ1_canEncode_fc78d_8 (by decide) ?_
    exact hret 1 _ _ hw (by decide) dJ1_canEncode_fc78d_12
abbrev rm_J8_newLength_ca : Room := { frames := 1, cells := 0, slots := 0, locals := 14 }
set_option maxHeartbeats 4000000 in
set_option maxRecDepth 100000 in
theorem k_J8_newLength_ca {l : Launch} (post : Int32 → Prop) (z1 : Int32) (z2 : Int32) (z3 : Int32) (hw : q_J8_newLength_ca post z1 z2 z3) : gMs l yJ8_newLength_cabcc wsJ8_newLength_cabcc rm_J8_newLength_ca [.int z1, .int z2, .int z3] post := by
  refine gMs_of (cc := cJ8_newLength_cabcc) (nL := 4) (ty := .int) (own := RJ8) (by decide) rfl rfl (Nat.le_of_ble_eq_true rfl) ?_
  intro p e s m args below meth c Q hx hb hml ho hts hret ls hl
  rw [q_J8_newLength_ca] at hw
  refine lv_iload_n hx hb dJ8_newLength_cabcc_0 rfl (lv_at hl 0 rfl) ?_
  refine lv_iload_n hx hb dJ8_newLength_cabcc_1 rfl (lv_at hl 1 rfl) ?_
  refine lv_iload_n hx hb dJ8_newLength_cabcc_2 rfl (lv_at hl 2 rfl) ?_
  refine va_mmax hx hb (hml.trans hl.1.symm) ho (hts (.methodLink RJ8 194 Lib.Math.max.name) (List.mem_of_getElem? (i := 1) rfl)) (hts _ (List.mem_of_getElem? (i := 2) rfl)) (hts _ (List.mem_of_getElem? (i := 3) rfl)) (hts _ (List.mem_of_getElem? (i := 4) rfl)) (Nat.le_of_ble_eq_true rfl) (Nat.le_of_ble_eq_true rfl) (Nat.zero_le _) (Nat.zero_le _) dJ8_newLength_cabcc_3 ?_
  refine lv_iadd hx hb dJ8_newLength_cabcc_6 ?_
  refine lv_topi (fun v1 ev1 => ?_)
  replace hw := hw v1 ev1
  refine lv_istore_n (lv' := [(3, .int v1), (0, .int z1), (1, .int z2), (2, .int z3)]) hx hb dJ8_newLength_cabcc_7 rfl hl (by decide) rfl (fun ls hl9 => ?_)
  replace hl := hl9
  refine lv_iconst (v := 0) hx hb dJ8_newLength_cabcc_8 (by decide) ?_
  refine lv_iload_n hx hb dJ8_newLength_cabcc_9 rfl (lv_at hl 0 rfl) ?_
  refine lv_icmp_ge (tgt := 21) hx hb dJ8_newLength_cabcc_10 (by decide) (fun c2 => ?_) (fun c2 => ?_)
  · replace hw := hw.1 c2
    refine lv_iload_n hx hb dJ8_newLength_cabcc_21 rfl (lv_at hl 1 rfl) ?_
    refine lv_iload_n hx hb dJ8_newLength_cabcc_22 rfl (lv_at hl 2 rfl) ?_
    exact hw.elim
  · replace hw := hw.2 c2
    refine lv_iload_n hx hb dJ8_newLength_cabcc_13 rfl (lv_at hl 0 rfl) ?_
    refine lv_ldc (v := (2147483639)) hx hb ho (hts (.constant RJ8 200 (2147483639)) (List.mem_of_getElem? (i := 5) rfl)) dJ8_newLength_cabcc_14 ?_
    refine lv_icmp_gt (tgt := 21) hx hb dJ8_newLength_cabcc_16 (by decide) (fun c3 => ?_) (fun c3 => ?_)
    · replace hw := hw.1 c3
      refine lv_iload_n hx hb dJ8_newLength_cabcc_21 rfl (lv_at hl 1 rfl) ?_
      refine lv_iload_n hx hb dJ8_newLength_cabcc_22 rfl (lv_at hl 2 rfl) ?_
      exact hw.elim
    · replace hw := hw.2 c3
      refine lv_iload_n hx hb dJ8_newLength_cabcc_19 rfl (lv_at hl 0 rfl) ?_
      exact hret v1 _ _ hw rfl dJ8_newLength_cabcc_20
abbrev rm_J5_newCapacity_0f : Room := { frames := 2, cells := 0, slots := 0, locals := 37 }
theorem in_J5_newCapacity_0f_RJ4 : ∀ w ∈ wsJ40, w ∈ wsJ5_newCapacity_0f7a4 := fun w hw9 => List.mem_cons_of_mem _ (List.mem_append_right _ hw9)
set_option maxHeartbeats 4000000 in
set_option maxRecDepth 100000 in
theorem t_J5_newCapacity_0f_0 (C0 : hX p s m args c cJ5_newCapacity_0f7a4 6 RJ5 wsJ5_newCapacity_0f7a4 D (gt u.2.1) A u.1 u.2.2) {S : hS} (t0 : Nat) (post : Int32 → Prop) (hret : ∀ (r : Int32) (S' : hS) (pc : Nat) (lv : List (Nat × Value)) (k n : Nat), k ≤ 0 → n ≤ 0 → (S' = S ∧ post r) → narrow .int (.int r) = .int r → decode cJ5_newCapacity_0f7a4 pc = .ok (.ireturn, 1) → gG p l e (rm_J5_newCapacity_0f) s m args below meth c Q D A 6 k n (hC X S') pc lv [.int r])  : ∀ (z1 : Int32), w_J5_newCapacity_0f u post t0  z1 S → gG p l e (rm_J5_newCapacity_0f) s m args below meth c Q D A 6 0 0 (hC X S) 0 [(0, .ref t0), (1, .int z1)] [] := by
  obtain ⟨⟨hx, hb, hml, ho, hts, hK, hA⟩, hR⟩ := id C0
  intro z1 hw H locs ls hW hl
  rw [w_J5_newCapacity_0f] at hw
  refine lv_aload_n hx hb dJ5_newCapacity_0f7a4_0 rfl (lv_at hl 0 rfl) ?_
  obtain ⟨o1, h2, hw⟩ := hw
  refine h_getR C0 hW (T := TJ4) (kf := 0) in_J5_newCapacity_0f_RJ4 h2 rfl (by decide) (List.mem_of_getElem? (i := 1) rfl) rfl dJ5_newCapacity_0f7a4_1 ?_
  obtain ⟨a3, rfl, hw⟩ := hw
  obtain ⟨N4, g5, h6, hw⟩ := hw
  refine h_blen C0 hW h6 rfl dJ5_newCapacity_0f7a4_4 ?_
  refine lv_topi (fun v7 ev7 => ?_)
  replace hw := hw v7 ev7
  refine lv_istore_n (lv' := [(2, .int v7), (0, .ref t0), (1, .int z1)]) hx hb dJ5_newCapacity_0f7a4_5 rfl hl (by decide) rfl (fun ls hl9 => ?_)
  replace hl := hl9
  refine lv_iload_n hx hb dJ5_newCapacity_0f7a4_6 rfl (lv_at hl 2 rfl) ?_
  refine lv_aload_n hx hb dJ5_newCapacity_0f7a4_7 rfl (lv_at hl 1 rfl) ?_
  obtain ⟨v8, h9, hw⟩ := hw
  refine h_getI C0 hW (T := TJ4) (kf := 1) in_J5_newCapacity_0f_RJ4 h9 rfl (by decide) (List.mem_of_getElem? (i := 2) rfl) rfl dJ5_newCapacity_0f7a4_8 ?_
  refine lv_ishl hx hb dJ5_newCapacity_0f7a4_11 ?_
  refine lv_topi (fun v10 ev10 => ?_)
  replace hw := hw v10 ev10
  refine lv_istore_n (lv' := [(3, .int v10), (2, .int v7), (0, .ref t0), (1, .int z1)]) hx hb dJ5_newCapacity_0f7a4_12 rfl hl (by decide) rfl (fun ls hl9 => ?_)
  replace hl := hl9
  refine lv_iload_n hx hb dJ5_newCapacity_0f7a4_13 rfl (lv_at hl 0 rfl) ?_
  refine lv_iload_n hx hb dJ5_newCapacity_0f7a4_14 rfl (lv_at hl 1 rfl) ?_
  refine lv_isub hx hb dJ5_newCapacity_0f7a4_15 ?_
  refine lv_topi (fun v11 ev11 => ?_)
  replace hw := hw v11 ev11
  refine lv_istore (lv' := [(4, .int v11), (3, .int v10), (2, .int v7), (0, .ref t0), (1, .int z1)]) hx hb dJ5_newCapacity_0f7a4_16 hl (by decide) rfl (fun ls hl9 => ?_)
  replace hl := hl9
  refine lv_iload_n hx hb dJ5_newCapacity_0f7a4_18 rfl (lv_at hl 2 rfl) ?_
  refine lv_iload hx hb dJ5_newCapacity_0f7a4_19 (lv_at hl 0 rfl) ?_
  refine lv_iload_n hx hb dJ5_newCapacity_0f7a4_21 rfl (lv_at hl 2 rfl) ?_
  refine lv_iconst (v := 2) hx hb dJ5_newCapacity_0f7a4_22 (by decide) ?_
  refine lv_aload_n hx hb dJ5_newCapacity_0f7a4_23 rfl (lv_at hl 3 rfl) ?_
  obtain ⟨v12, h13, hw⟩ := hw
  refine h_getI C0 hW (T := TJ4) (kf := 1) in_J5_newCapacity_0f_RJ4 h13 rfl (by decide) (List.mem_of_getElem? (i := 2) rfl) rfl dJ5_newCapacity_0f7a4_24 ?_
  refine lv_ishl hx hb dJ5_newCapacity_0f7a4_27 ?_
  refine lv_iadd hx hb dJ5_newCapacity_0f7a4_28 ?_
  refine g_calls (As := [.int v7, .int v11, .int (v7 + (2 <<< (v12 &&& 31)))]) (rest := []) ⟨hx, hb, hml, ho, hts⟩ hl.1 (k_J8_newLength_ca (l := l) _ v7 v11 (v7 + (2 <<< (v12 &&& 31))) hw) (va_cwS 3 hts gJ5_newCapacity_0f7a4_J8_newLength_cabcc rfl rfl rfl (by decide +kernel) ⟨Nat.le_of_ble_eq_true rfl, Nat.le_of_ble_eq_true rfl⟩) (Nat.le_of_ble_eq_true rfl) dJ5_newCapacity_0f7a4_29 rfl ⟨Nat.le_refl _, Nat.le_refl _⟩ (fun r14 hp => ?_)
  replace hw := hp
  refine lv_istore (lv' := [(5, .int r14), (4, .int v11), (3, .int v10), (2, .int v7), (0, .ref t0), (1, .int z1)]) hx hb dJ5_newCapacity_0f7a4_32 hl (by decide) rfl (fun ls hl9 => ?_)
  replace hl := hl9
  refine lv_iload hx hb dJ5_newCapacity_0f7a4_34 (lv_at hl 0 rfl) ?_
  refine lv_ldc (v := (2147483647)) hx hb ho (hts (.constant RJ5 39 (2147483647)) (List.mem_of_getElem? (i := 3) rfl)) dJ5_newCapacity_0f7a4_36 ?_
  refine lv_icmp_ne (tgt := 51) hx hb dJ5_newCapacity_0f7a4_38 (by decide) (fun c15 => ?_) (fun c15 => ?_)
  · replace hw := hw.1 c15
    refine lv_iload hx hb dJ5_newCapacity_0f7a4_51 (lv_at hl 0 rfl) ?_
    refine lv_aload_n hx hb dJ5_newCapacity_0f7a4_53 rfl (lv_at hl 4 rfl) ?_
    obtain ⟨v16, h17, hw⟩ := hw
    refine h_getI C0 hW (T := TJ4) (kf := 1) in_J5_newCapacity_0f_RJ4 h17 rfl (by decide) (List.mem_of_getElem? (i := 2) rfl) rfl dJ5_newCapacity_0f7a4_54 ?_
    refine lv_ishr hx hb dJ5_newCapacity_0f7a4_57 ?_
    exact hret (r14 >>> (v16 &&& 31)) S _ _ 0 0 (Nat.le_refl _) (Nat.le_refl _) ⟨rfl, hw⟩ rfl dJ5_newCapacity_0f7a4_58 _ _ _ hW hl
  · replace hw := hw.2 c15
    exact hw.elim
set_option maxHeartbeats 4000000 in
set_option maxRecDepth 100000 in
theorem k_J5_newCapacity_0f {l : Launch} {D : va_G} {u : hU} {X : va_W} {sz : Nat} (post : Int32 → Prop) (t0 : Nat) (z1 : Int32) (S : hS) (hw : w_J5_newCapacity_0f u post t0 z1 S) : hMi l yJ5_newCapacity_0f7a4 wsJ5_newCapacity_0f7a4 rm_J5_newCapacity_0f D (gt u.2.1) u.1 u.2.2 sz X S [.ref t0, .int z1] (fun r S' => S' = S ∧ post r) 0 0 := by
  refine hMi_of (cc := cJ5_newCapacity_0f7a4) (nL := 6) (ty := .int) (own := RJ5) (by decide) rfl rfl (Nat.le_of_ble_eq_true rfl) ?_
  intro p e s m args below meth c A Q C0 hin hret
  exact t_J5_newCapacity_0f_0 C0 t0 post hret z1 hw
abbrev rm_J7_copyOf_90 (MC MS : Nat) : Room := { frames := 1, cells := MC, slots := MS, locals := 18 }
set_option maxHeartbeats 4000000 in
set_option maxRecDepth 100000 in
theorem t_J7_copyOf_90_0 (C0 : hX p s m args c cJ7_copyOf_9075b 3 RJ7 wsJ7_copyOf_9075b D (gt u.2.1) A u.1 u.2.2)  (post : Option Nat → hS → Prop) (hret : ∀ (r : Option Nat) (S' : hS) (pc : Nat) (lv : List (Nat × Value)) (k n : Nat), k ≤ MC → n ≤ MS → post r S' → decode cJ7_copyOf_9075b pc = .ok (.areturn, 1) → gG p l e (rm_J7_copyOf_90 MC MS) s m args below meth c Q D A 3 k n (hC X S') pc lv [va_rf r])  : ∀ (p1 : Option Nat) (z2 : Int32) (S : hS) (mc ms k n : Nat), k + mc ≤ MC ∧ n + ms ≤ MS → w_J7_copyOf_90 u post   p1 z2 S mc ms → gG p l e (rm_J7_copyOf_90 MC MS) s m args below meth c Q D A 3 k n (hC X S) 0 [(0, va_rf p1), (1, .int z2)] [] := by
  obtain ⟨⟨hx, hb, hml, ho, hts, hK, hA⟩, hR⟩ := id C0
  intro p1 z2 S mc ms k n hkn hw H locs ls hW hl
  rw [w_J7_copyOf_90] at hw
  refine lv_iload_n hx hb dJ7_copyOf_9075b_0 rfl (lv_at hl 1 rfl) ?_
  refine lv_aloadV_n hx hb dJ7_copyOf_9075b_1 rfl (lv_at hl 0 rfl) ?_
  obtain ⟨a1, rfl, hw⟩ := hw
  obtain ⟨N2, g3, h4, hw⟩ := hw
  refine h_blen C0 hW h4 rfl dJ7_copyOf_9075b_2 ?_
  refine lv_icmp_ne (tgt := 14) hx hb dJ7_copyOf_9075b_3 (by decide) (fun c5 => ?_) (fun c5 => ?_)
  · replace hw := hw.1 c5
    refine lv_iload_n hx hb dJ7_copyOf_9075b_14 rfl (lv_at hl 1 rfl) ?_
    obtain ⟨N13, h14, h12, h9, h10, hw⟩ := hw
    refine h_newB C0 hW rfl (List.mem_of_getElem? (i := 7) rfl) (N := N13) (by rw [h14]; exact nI_pos (by omega)) (by rw [h14]; exact nI_clamp (by omega)) h12 (by show _ ≤ MC; omega) (by show _ ≤ MS; omega) dJ7_copyOf_9075b_15 (fun q6 H h7 hW => ?_)
    obtain ⟨S8, eS8⟩ : ∃ z : hS, z = adS S q6 (.inl (u.2.1 2, N13, .inl (fun _ => 0))) := ⟨_, rfl⟩
    rw [← eS8] at hW
    replace hw := hw q6 S8 h7 eS8
    have hkn : (k + 1) + (mc - 1) ≤ MC ∧ (n + N13) + (ms - N13) ≤ MS := by omega
    refine lv_astore_n (i := 2) (lv' := [(2, .ref q6), (0, .ref a1), (1, .int z2)]) hx hb dJ7_copyOf_9075b_17 rfl hl (by decide) rfl (fun ls hl9 => ?_)
    replace hl := hl9
    refine lv_aload_n hx hb dJ7_copyOf_9075b_18 rfl (lv_at hl 1 rfl) ?_
    refine lv_iconst (v := 0) hx hb dJ7_copyOf_9075b_19 (by decide) ?_
    refine lv_aload_n hx hb dJ7_copyOf_9075b_20 rfl (lv_at hl 0 rfl) ?_
    refine lv_iconst (v := 0) hx hb dJ7_copyOf_9075b_21 (by decide) ?_
    refine lv_aload_n hx hb dJ7_copyOf_9075b_22 rfl (lv_at hl 1 rfl) ?_
    obtain ⟨N15, g16, h17, hw⟩ := hw
    refine h_blen C0 hW h17 rfl dJ7_copyOf_9075b_23 ?_
    refine lv_iload_n hx hb dJ7_copyOf_9075b_24 rfl (lv_at hl 2 rfl) ?_
    refine va_mmin hx hb (hml.trans hl.1.symm) ho (hts (.methodLink RJ7 304 Lib.Math.min.name) (List.mem_of_getElem? (i := 8) rfl)) (hts _ (List.mem_of_getElem? (i := 9) rfl)) (hts _ (List.mem_of_getElem? (i := 10) rfl)) (hts _ (List.mem_of_getElem? (i := 11) rfl)) (Nat.le_of_ble_eq_true rfl) (Nat.le_of_ble_eq_true rfl) (by show _ ≤ MC; omega) (by show _ ≤ MS; omega) dJ7_copyOf_9075b_25 ?_
    obtain ⟨N18, g19, N21, g22, h20, h23, h24, hw⟩ := hw
    refine h_copy C0 hW hl.1 rfl h20 h23 (List.mem_of_getElem? (i := 12) rfl) (List.mem_of_getElem? (i := 13) rfl) (List.mem_of_getElem? (i := 14) rfl) (List.mem_of_getElem? (i := 15) rfl) h24.1 h24.2.1 h24.2.2.1 h24.2.2.2.1 h24.2.2.2.2.1 h24.2.2.2.2.2 (Nat.le_of_ble_eq_true rfl) (Nat.le_of_ble_eq_true rfl) dJ7_copyOf_9075b_28 (fun H locs hW => ?_)
    obtain ⟨S25, eS25⟩ : ∃ z : hS, z = upS S8 q6 (.inl (u.2.1 2, N21, .inl (va_cpy g19 g22 (0 : Int32).toNatClampNeg (0 : Int32).toNatClampNeg ((if z2 < (nI N15) then z2 else (nI N15)) : Int32).toNatClampNeg))) := ⟨_, rfl⟩
    rw [← eS25] at hW
    replace hw := hw S25 eS25
    refine lv_aload_n hx hb dJ7_copyOf_9075b_31 rfl (lv_at hl 0 rfl) ?_
    exact hret (some q6) S25 _ _ _ _ (by omega) (by omega) hw dJ7_copyOf_9075b_32 _ _ _ hW hl
  · replace hw := hw.2 c5
    refine lv_aload_n hx hb dJ7_copyOf_9075b_6 rfl (lv_at hl 0 rfl) ?_
    obtain ⟨N26, g27, h28, h29, h30, h31, hw⟩ := hw
    refine h_clone C0 hW hl.1 rfl h28 (List.mem_of_getElem? (i := 1) rfl) (List.mem_of_getElem? (i := 2) rfl) (List.mem_of_getElem? (i := 3) rfl) (List.mem_of_getElem? (i := 4) rfl) (List.mem_of_getElem? (i := 5) rfl) h29 (Nat.le_of_ble_eq_true rfl) (Nat.le_of_ble_eq_true rfl) (by show _ ≤ MC; omega) (by show _ ≤ MS; omega) dJ7_copyOf_9075b_7 (fun q32 H h34 hW => ?_)
    obtain ⟨S33, eS33⟩ : ∃ z : hS, z = adS S q32 (.inl (u.2.1 2, N26, .inl g27)) := ⟨_, rfl⟩
    rw [← eS33] at hW
    replace hw := hw q32 S33 h34 eS33
    have hkn : (k + 1) + (mc - 1) ≤ MC ∧ (n + N26) + (ms - N26) ≤ MS := by omega
    obtain ⟨N36, g37, h35, hw⟩ := hw
    refine h_castB C0 hW h35 rfl (List.mem_of_getElem? (i := 6) rfl) dJ7_copyOf_9075b_10 ?_
    exact hret (some q32) S33 _ _ _ _ (by omega) (by omega) hw dJ7_copyOf_9075b_13 _ _ _ hW hl
set_option maxHeartbeats 4000000 in
set_option maxRecDepth 100000 in
theorem k_J7_copyOf_90 {l : Launch} {D : va_G} {u : hU} {X : va_W} {sz : Nat} (post : Option Nat → hS → Prop) (p1 : Option Nat) (z2 : Int32) (S : hS) (mc ms : Nat) (hw : w_J7_copyOf_90 u post  p1 z2 S mc ms) : hMq l yJ7_copyOf_9075b wsJ7_copyOf_9075b (rm_J7_copyOf_90 mc ms) D (gt u.2.1) u.1 u.2.2 sz X S [va_rf p1, .int z2] post mc ms := by
  refine hMq_of (cc := cJ7_copyOf_9075b) (nL := 3) (ty := (.array .byte)) (own := RJ7) (by decide) rfl rfl (by cases p1 <;> exact Nat.le_of_ble_eq_true rfl) (Or.inr ⟨_, rfl⟩) ?_
  intro p e s m args below meth c A Q C0 hin hret
  have hfin := t_J7_copyOf_90_0 C0  post hret p1 z2 S mc ms 0 0 ⟨by omega, by omega⟩ hw
  intro H locs ls hW hl
  refine hfin H locs ls hW ?_
  cases p1 <;> exact hl
abbrev rm_J5_ensureCapacityInternal_d0 (MC MS : Nat) : Room := { frames := 3, cells := MC, slots := MS, locals := 62 }
theorem in_J5_ensureCapacityInternal_d0_RJ4 : ∀ w ∈ wsJ40, w ∈ wsJ5_ensureCapacityInternal_d00df := fun w hw9 => List.mem_cons_of_mem _ (List.mem_append_right _ hw9)
set_option maxHeartbeats 4000000 in
set_option maxRecDepth 100000 in
theorem t_J5_ensureCapacityInternal_d0_0 (C0 : hX p s m args c cJ5_ensureCapacityInternal_d00df 3 RJ5 wsJ5_ensureCapacityInternal_d00df D (gt u.2.1) A u.1 u.2.2) (t0 : Nat) (post : hS → Prop) (hret : ∀ (S' : hS) (pc : Nat) (lv : List (Nat × Value)) (k n : Nat), k ≤ MC → n ≤ MS → post S' → decode cJ5_ensureCapacityInternal_d00df pc = .ok (.return_, 1) → gG p l e (rm_J5_ensureCapacityInternal_d0 MC MS) s m args below meth c Q D A 3 k n (hC X S') pc lv [])  : ∀ (z1 : Int32) (S : hS) (mc ms k n : Nat), k + mc ≤ MC ∧ n + ms ≤ MS → w_J5_ensureCapacityInternal_d0 u post t0  z1 S mc ms → gG p l e (rm_J5_ensureCapacityInternal_d0 MC MS) s m args below meth c Q D A 3 k n (hC X S) 0 [(0, .ref t0), (1, .int z1)] [] := by
  obtain ⟨⟨hx, hb, hml, ho, hts, hK, hA⟩, hR⟩ := id C0
  intro z1 S mc ms k n hkn hw H locs ls hW hl
  rw [w_J5_ensureCapacityInternal_d0] at hw
  refine lv_aload_n hx hb dJ5_ensureCapacityInternal_d00df_0 rfl (lv_at hl 0 rfl) ?_
  obtain ⟨o1, h2, hw⟩ := hw
  refine h_getR C0 hW (T := TJ4) (kf := 0) in_J5_ensureCapacityInternal_d0_RJ4 h2 rfl (by decide) (List.mem_of_getElem? (i := 1) rfl) rfl dJ5_ensureCapacityInternal_d00df_1 ?_
  obtain ⟨a3, rfl, hw⟩ := hw
  obtain ⟨N4, g5, h6, hw⟩ := hw
  refine h_blen C0 hW h6 rfl dJ5_ensureCapacityInternal_d00df_4 ?_
  refine lv_aload_n hx hb dJ5_ensureCapacityInternal_d00df_5 rfl (lv_at hl 0 rfl) ?_
  obtain ⟨v7, h8, hw⟩ := hw
  refine h_getI C0 hW (T := TJ4) (kf := 1) in_J5_ensureCapacityInternal_d0_RJ4 h8 rfl (by decide) (List.mem_of_getElem? (i := 2) rfl) rfl dJ5_ensureCapacityInternal_d00df_6 ?_
  refine lv_ishr hx hb dJ5_ensureCapacityInternal_d00df_9 ?_
  refine lv_topi (fun v9 ev9 => ?_)
  replace hw := hw v9 ev9
  refine lv_istore_n (lv' := [(2, .int v9), (0, .ref t0), (1, .int z1)]) hx hb dJ5_ensureCapacityInternal_d00df_10 rfl hl (by decide) rfl (fun ls hl9 => ?_)
  replace hl := hl9
  refine lv_iload_n hx hb dJ5_ensureCapacityInternal_d00df_11 rfl (lv_at hl 2 rfl) ?_
  refine lv_iload_n hx hb dJ5_ensureCapacityInternal_d00df_12 rfl (lv_at hl 0 rfl) ?_
  refine lv_isub hx hb dJ5_ensureCapacityInternal_d00df_13 ?_
  refine lv_if_le (tgt := 38) hx hb dJ5_ensureCapacityInternal_d00df_14 (by decide) (fun c10 => ?_) (fun c10 => ?_)
  · replace hw := hw.1 c10
    exact hret S _ _ _ _ (by omega) (by omega) hw dJ5_ensureCapacityInternal_d00df_38 _ _ _ hW hl
  · replace hw := hw.2 c10
    refine lv_aload_n hx hb dJ5_ensureCapacityInternal_d00df_17 rfl (lv_at hl 1 rfl) ?_
    refine lv_aload_n hx hb dJ5_ensureCapacityInternal_d00df_18 rfl (lv_at hl 1 rfl) ?_
    obtain ⟨o11, h12, hw⟩ := hw
    refine h_getR C0 hW (T := TJ4) (kf := 0) in_J5_ensureCapacityInternal_d0_RJ4 h12 rfl (by decide) (List.mem_of_getElem? (i := 1) rfl) rfl dJ5_ensureCapacityInternal_d00df_19 ?_
    refine lv_aload_n hx hb dJ5_ensureCapacityInternal_d00df_22 rfl (lv_at hl 1 rfl) ?_
    refine lv_iload_n hx hb dJ5_ensureCapacityInternal_d00df_23 rfl (lv_at hl 2 rfl) ?_
    obtain ⟨h14, hw⟩ := hw
    refine h_goi C0 hW (va_runU (As := [.int z1]) (rest := [va_rf o11, .ref t0]) ⟨hx, hb, hml, ho, hts⟩ (k_J5_newCapacity_0f (l := l) (u := u) (X := X) (sz := H.size) _ t0 z1 S  hw) (va_cwU 1 hts gJ5_ensureCapacityInternal_d00df_J5_newCapacity_0f7a4_u104J4 rfl rfl rfl rfl (by decide +kernel) ⟨Nat.le_of_ble_eq_true rfl, Nat.le_of_ble_eq_true rfl⟩) ⟨h_blind, (h_recv C0 hW (ci := 1) rfl h14), (h_pre C0 hW [.ref t0, .int z1])⟩ rfl rfl hl.1 rfl (lv_room (by simp [va_rf_cat, va_c_ref, va_c_int, va_c_null])) dJ5_ensureCapacityInternal_d00df_24 ⟨by show _ ≤ MC; omega, by show _ ≤ MS; omega⟩) (fun r13 S15 H locs h16 hW => ?_)
    obtain ⟨h17, hp⟩ := h16
    rw [h17] at hW
    replace hw := hp
    refine lv_aload_n hx hb dJ5_ensureCapacityInternal_d00df_27 rfl (lv_at hl 1 rfl) ?_
    obtain ⟨v18, h19, hw⟩ := hw
    refine h_getI C0 hW (T := TJ4) (kf := 1) in_J5_ensureCapacityInternal_d0_RJ4 h19 rfl (by decide) (List.mem_of_getElem? (i := 2) rfl) rfl dJ5_ensureCapacityInternal_d00df_28 ?_
    refine lv_ishl hx hb dJ5_ensureCapacityInternal_d00df_31 ?_
    obtain ⟨k21, n22, h23, h24, hw⟩ := hw
    refine h_goq C0 hW (va_runS (As := [va_rf o11, .int (r13 <<< (v18 &&& 31))]) (rest := [.ref t0]) ⟨hx, hb, hml, ho, hts⟩ (k_J7_copyOf_90 (l := l) (u := u) (X := X) (sz := H.size) _ o11 (r13 <<< (v18 &&& 31)) S k21 n22 hw) (va_cwS 2 hts gJ5_ensureCapacityInternal_d00df_J7_copyOf_9075b rfl rfl rfl (by decide +kernel) ⟨Nat.le_of_ble_eq_true rfl, Nat.le_of_ble_eq_true rfl⟩) ⟨h_blind, (h_pre C0 hW [va_rf o11, .int (r13 <<< (v18 &&& 31))])⟩ rfl rfl hl.1 rfl (lv_room (Nat.le_of_ble_eq_true rfl)) dJ5_ensureCapacityInternal_d00df_32 ⟨by show _ ≤ MC; omega, by show _ ≤ MS; omega⟩) (fun r20 S25 H locs h26 hW => ?_)
    replace hw := h26
    have hkn : (k + k21) + (mc - k21) ≤ MC ∧ (n + n22) + (ms - n22) ≤ MS := by omega
    obtain ⟨fs27, h28, h29, hw⟩ := hw
    refine h_put C0 hW (T := TJ4) (kf := 0) (ty := .array (.byte)) in_J5_ensureCapacityInternal_d0_RJ4 h28 rfl (by decide) h29 tyJ4 tyJ4_ok nmJ4 (List.mem_of_getElem? (i := 1) rfl) rfl (Or.inl rfl) (by decide +kernel) (by cases r20 <;> rfl) (by cases r20 <;> rfl) dJ5_ensureCapacityInternal_d00df_35 (va_rf_cat _) (fun H locs hW => ?_)
    obtain ⟨S30, eS30⟩ : ∃ z : hS, z = upS S25 t0 (.inr (1, fs27.set 0 (va_rf r20))) := ⟨_, rfl⟩
    rw [← eS30] at hW
    replace hw := hw S30 eS30
    exact hret S30 _ _ _ _ (by omega) (by omega) hw dJ5_ensureCapacityInternal_d00df_38 _ _ _ hW hl
set_option maxHeartbeats 4000000 in
set_option maxRecDepth 100000 in
theorem k_J5_ensureCapacityInternal_d0 {l : Launch} {D : va_G} {u : hU} {X : va_W} {sz : Nat} (post : hS → Prop) (t0 : Nat) (z1 : Int32) (S : hS) (mc ms : Nat) (hw : w_J5_ensureCapacityInternal_d0 u post t0 z1 S mc ms) : hMv l yJ5_ensureCapacityInternal_d00df wsJ5_ensureCapacityInternal_d00df (rm_J5_ensureCapacityInternal_d0 mc ms) D (gt u.2.1) u.1 u.2.2 sz X S [.ref t0, .int z1] post mc ms := by
  refine hMv_of (cc := cJ5_ensureCapacityInternal_d00df) (nL := 3) (own := RJ5) (by decide) rfl rfl (Nat.le_of_ble_eq_true rfl) ?_
  intro p e s m args below meth c A Q C0 hin hret
  exact t_J5_ensureCapacityInternal_d0_0 C0 t0 post hret z1 S mc ms 0 0 ⟨by omega, by omega⟩ hw
abbrev rm_J5_isLatin1_aa : Room := { frames := 0, cells := 0, slots := 0, locals := 0 }
theorem in_J5_isLatin1_aa_RJ4 : ∀ w ∈ wsJ40, w ∈ wsJ5_isLatin1_aae02 := fun w hw9 => List.mem_cons_of_mem _ (List.mem_append_right _ hw9)
set_option maxHeartbeats 4000000 in
set_option maxRecDepth 100000 in
theorem t_J5_isLatin1_aa_0 (C0 : hX p s m args c cJ5_isLatin1_aae02 1 RJ5 wsJ5_isLatin1_aae02 D (gt u.2.1) A u.1 u.2.2) {S : hS} (t0 : Nat) (post : Int32 → Prop) (hret : ∀ (r : Int32) (S' : hS) (pc : Nat) (lv : List (Nat × Value)) (k n : Nat), k ≤ 0 → n ≤ 0 → (S' = S ∧ post r) → narrow .boolean (.int r) = .int r → decode cJ5_isLatin1_aae02 pc = .ok (.ireturn, 1) → gG p l e (rm_J5_isLatin1_aa) s m args below meth c Q D A 1 k n (hC X S') pc lv [.int r])  : w_J5_isLatin1_aa u post t0   S → gG p l e (rm_J5_isLatin1_aa) s m args below meth c Q D A 1 0 0 (hC X S) 0 [(0, .ref t0)] [] := by
  obtain ⟨⟨hx, hb, hml, ho, hts, hK, hA⟩, hR⟩ := id C0
  intro  hw H locs ls hW hl
  rw [w_J5_isLatin1_aa] at hw
  refine h_gets C0 hW (List.mem_of_getElem? (i := 1) rfl) dJ5_isLatin1_aae02_0 ?_
  refine lv_if_eq (tgt := 17) hx hb dJ5_isLatin1_aae02_3 (by decide) (fun c1 => ?_) (fun c1 => ?_)
  · replace hw := hw.1 c1
    refine lv_iconst (v := 0) hx hb dJ5_isLatin1_aae02_17 (by decide) ?_
    exact hret 0 S _ _ 0 0 (Nat.le_refl _) (Nat.le_refl _) ⟨rfl, hw⟩ (by decide) dJ5_isLatin1_aae02_18 _ _ _ hW hl
  · replace hw := hw.2 c1
    refine lv_aload_n hx hb dJ5_isLatin1_aae02_6 rfl (lv_at hl 0 rfl) ?_
    obtain ⟨v2, h3, hw⟩ := hw
    refine h_getI C0 hW (T := TJ4) (kf := 1) in_J5_isLatin1_aa_RJ4 h3 rfl (by decide) (List.mem_of_getElem? (i := 2) rfl) rfl dJ5_isLatin1_aae02_7 ?_
    refine lv_if_ne (tgt := 17) hx hb dJ5_isLatin1_aae02_10 (by decide) (fun c4 => ?_) (fun c4 => ?_)
    · replace hw := hw.1 c4
      refine lv_iconst (v := 0) hx hb dJ5_isLatin1_aae02_17 (by decide) ?_
      exact hret 0 S _ _ 0 0 (Nat.le_refl _) (Nat.le_refl _) ⟨rfl, hw⟩ (by decide) dJ5_isLatin1_aae02_18 _ _ _ hW hl
    · replace hw := hw.2 c4
      refine lv_iconst (v := 1) hx hb dJ5_isLatin1_aae02_13 (by decide) ?_
      refine lv_goto (tgt := 18) hx hb dJ5_isLatin1_aae02_14 (by decide) ?_
      exact hret 1 S _ _ 0 0 (Nat.le_refl _) (Nat.le_refl _) ⟨rfl, hw⟩ (by decide) dJ5_isLatin1_aae02_18 _ _ _ hW hl
set_option maxHeartbeats 4000000 in
set_option maxRecDepth 100000 in
theorem k_J5_isLatin1_aa {l : Launch} {D : va_G} {u : hU} {X : va_W} {sz : Nat} (post : Int32 → Prop) (t0 : Nat) (S : hS) (hw : w_J5_isLatin1_aa u post t0  S) : hMi l yJ5_isLatin1_aae02 wsJ5_isLatin1_aae02 rm_J5_isLatin1_aa D (gt u.2.1) u.1 u.2.2 sz X S [.ref t0] (fun r S' => S' = S ∧ post r) 0 0 := by
  refine hMi_of (cc := cJ5_isLatin1_aae02) (nL := 1) (ty := .boolean) (own := RJ5) (by decide) rfl rfl (Nat.le_of_ble_eq_true rfl) ?_
  intro p e s m args below meth c A Q C0 hin hret
  exact t_J5_isLatin1_aa_0 C0 t0 post hret  hw
abbrev rm_J5_append_3f (MC MS : Nat) : Room := { frames := 4, cells := MC, slots := MS, locals := 84 }
theorem in_J5_append_3f_RJ4 : ∀ w ∈ wsJ40, w ∈ wsJ5_append_3fe6f := fun w hw9 => List.mem_cons_of_mem _ (List.mem_append_right _ hw9)
set_option maxHeartbeats 4000000 in
set_option maxRecDepth 100000 in
theorem t_J5_append_3f_45 (C0 : hX p s m args c cJ5_append_3fe6f 2 RJ5 wsJ5_append_3fe6f D (gt u.2.1) A u.1 u.2.2) (t0 : Nat) (post : Option Nat → hS → Prop) (hret : ∀ (r : Option Nat) (S' : hS) (pc : Nat) (lv : List (Nat × Value)) (k n : Nat), k ≤ MC → n ≤ MS → post r S' → decode cJ5_append_3fe6f pc = .ok (.areturn, 1) → gG p l e (rm_J5_append_3f MC MS) s m args below meth c Q D A 2 k n (hC X S') pc lv [va_rf r])  : ∀ (x1 : Int32) (S : hS) (mc ms k n : Nat), k + mc ≤ MC ∧ n + ms ≤ MS → w_J5_append_3f_45 u post t0  x1 S mc ms → gG p l e (rm_J5_append_3f MC MS) s m args below meth c Q D A 2 k n (hC X S) 45 [(0, .ref t0), (1, .int x1)] [] := by
  obtain ⟨⟨hx, hb, hml, ho, hts, hK, hA⟩, hR⟩ := id C0
  intro x1 S mc ms k n hkn hw H locs ls hW hl
  rw [w_J5_append_3f_45] at hw
  refine lv_aload_n hx hb dJ5_append_3fe6f_45 rfl (lv_at hl 0 rfl) ?_
  obtain ⟨h34, hw⟩ := hw
  refine h_goi C0 hW (va_runU (As := []) (rest := []) ⟨hx, hb, hml, ho, hts⟩ (k_J5_isLatin1_aa (l := l) (u := u) (X := X) (sz := H.size) _ t0  S  hw) (va_cwU 0 hts gJ5_append_3fe6f_J5_isLatin1_aae02_u83J4 rfl rfl rfl rfl (by decide +kernel) ⟨Nat.le_of_ble_eq_true rfl, Nat.le_of_ble_eq_true rfl⟩) ⟨h_blind, (h_recv C0 hW (ci := 1) rfl h34), (h_pre C0 hW [.ref t0])⟩ rfl rfl hl.1 rfl (lv_room (Nat.le_of_ble_eq_true rfl)) dJ5_append_3fe6f_46 ⟨by show _ ≤ MC; omega, by show _ ≤ MS; omega⟩) (fun r33 S35 H locs h36 hW => ?_)
  obtain ⟨h37, hp⟩ := h36
  rw [h37] at hW
  replace hw := hp
  refine lv_if_eq (tgt := 56) hx hb dJ5_append_3fe6f_49 (by decide) (fun c38 => ?_) (fun c38 => ?_)
  · replace hw := hw.1 c38
    refine lv_aload_n hx hb dJ5_append_3fe6f_56 rfl (lv_at hl 0 rfl) ?_
    obtain ⟨o39, h40, hw⟩ := hw
    refine h_getR C0 hW (T := TJ4) (kf := 0) in_J5_append_3f_RJ4 h40 rfl (by decide) (List.mem_of_getElem? (i := 2) rfl) rfl dJ5_append_3fe6f_57 ?_
    refine lv_aload_n hx hb dJ5_append_3fe6f_60 rfl (lv_at hl 0 rfl) ?_
    refine lv_dup hx hb dJ5_append_3fe6f_61 rfl ?_
    obtain ⟨v41, h42, hw⟩ := hw
    refine h_getI C0 hW (T := TJ4) (kf := 3) in_J5_append_3f_RJ4 h42 rfl (by decide) (List.mem_of_getElem? (i := 1) rfl) rfl dJ5_append_3fe6f_62 ?_
    refine lv_dup_x1 hx hb dJ5_append_3fe6f_65 rfl rfl ?_
    refine lv_iconst (v := 1) hx hb dJ5_append_3fe6f_66 (by decide) ?_
    refine lv_iadd hx hb dJ5_append_3fe6f_67 ?_
    obtain ⟨fs43, h44, h45, hw⟩ := hw
    refine h_put C0 hW (T := TJ4) (kf := 3) (ty := .int) in_J5_append_3f_RJ4 h44 rfl (by decide) h45 tyJ4 tyJ4_ok nmJ4 (List.mem_of_getElem? (i := 1) rfl) rfl (Or.inl rfl) (by decide +kernel) rfl rfl dJ5_append_3fe6f_68 rfl (fun H locs hW => ?_)
    obtain ⟨S46, eS46⟩ : ∃ z : hS, z = upS S t0 (.inr (1, fs43.set 3 (.int (v41 + 1)))) := ⟨_, rfl⟩
    rw [← eS46] at hW
    replace hw := hw S46 eS46
    refine lv_iload_n hx hb dJ5_append_3fe6f_71 rfl (lv_at hl 1 rfl) ?_
    exact hw.elim
  · replace hw := hw.2 c38
    refine lv_aload_n hx hb dJ5_append_3fe6f_52 rfl (lv_at hl 0 rfl) ?_
    exact hw.elim
set_option maxHeartbeats 4000000 in
set_option maxRecDepth 100000 in
theorem t_J5_append_3f_0 (C0 : hX p s m args c cJ5_append_3fe6f 2 RJ5 wsJ5_append_3fe6f D (gt u.2.1) A u.1 u.2.2) (t0 : Nat) (post : Option Nat → hS → Prop) (hret : ∀ (r : Option Nat) (S' : hS) (pc : Nat) (lv : List (Nat × Value)) (k n : Nat), k ≤ MC → n ≤ MS → post r S' → decode cJ5_append_3fe6f pc = .ok (.areturn, 1) → gG p l e (rm_J5_append_3f MC MS) s m args below meth c Q D A 2 k n (hC X S') pc lv [va_rf r])  : ∀ (z1 : Int32) (S : hS) (mc ms k n : Nat), k + mc ≤ MC ∧ n + ms ≤ MS → w_J5_append_3f u post t0  z1 S mc ms → gG p l e (rm_J5_append_3f MC MS) s m args below meth c Q D A 2 k n (hC X S) 0 [(0, .ref t0), (1, .int z1)] [] := by
  obtain ⟨⟨hx, hb, hml, ho, hts, hK, hA⟩, hR⟩ := id C0
  intro z1 S mc ms k n hkn hw H locs ls hW hl
  rw [w_J5_append_3f] at hw
  refine lv_aload_n hx hb dJ5_append_3fe6f_0 rfl (lv_at hl 0 rfl) ?_
  refine lv_aload_n hx hb dJ5_append_3fe6f_1 rfl (lv_at hl 0 rfl) ?_
  obtain ⟨v1, h2, hw⟩ := hw
  refine h_getI C0 hW (T := TJ4) (kf := 3) in_J5_append_3f_RJ4 h2 rfl (by decide) (List.mem_of_getElem? (i := 1) rfl) rfl dJ5_append_3fe6f_2 ?_
  refine lv_iconst (v := 1) hx hb dJ5_append_3fe6f_5 (by decide) ?_
  refine lv_iadd hx hb dJ5_append_3fe6f_6 ?_
  obtain ⟨h8, k4, n5, h6, h7, hw⟩ := hw
  refine h_gov C0 hW (va_runU (As := [.int (v1 + 1)]) (rest := []) ⟨hx, hb, hml, ho, hts⟩ (k_J5_ensureCapacityInternal_d0 (l := l) (u := u) (X := X) (sz := H.size) _ t0 (v1 + 1) S k4 n5 hw) (va_cwU 1 hts gJ5_append_3fe6f_J5_ensureCapacityInternal_d00df_u100J4 rfl rfl rfl rfl (by decide +kernel) ⟨Nat.le_of_ble_eq_true rfl, Nat.le_of_ble_eq_true rfl⟩) ⟨h_blind, (h_recv C0 hW (ci := 1) rfl h8), (h_pre C0 hW [.ref t0, .int (v1 + 1)])⟩ rfl rfl hl.1 rfl (lv_room (Nat.le_of_ble_eq_true rfl)) dJ5_append_3fe6f_7 ⟨by show _ ≤ MC; omega, by show _ ≤ MS; omega⟩) (fun S9 H locs h10 hW => ?_)
  replace hw := h10
  have hkn : (k + k4) + (mc - k4) ≤ MC ∧ (n + n5) + (ms - n5) ≤ MS := by omega
  refine lv_aload_n hx hb dJ5_append_3fe6f_10 rfl (lv_at hl 0 rfl) ?_
  obtain ⟨h12, hw⟩ := hw
  refine h_goi C0 hW (va_runU (As := []) (rest := []) ⟨hx, hb, hml, ho, hts⟩ (k_J5_isLatin1_aa (l := l) (u := u) (X := X) (sz := H.size) _ t0  S9  hw) (va_cwU 0 hts gJ5_append_3fe6f_J5_isLatin1_aae02_u83J4 rfl rfl rfl rfl (by decide +kernel) ⟨Nat.le_of_ble_eq_true rfl, Nat.le_of_ble_eq_true rfl⟩) ⟨h_blind, (h_recv C0 hW (ci := 1) rfl h12), (h_pre C0 hW [.ref t0])⟩ rfl rfl hl.1 rfl (lv_room (Nat.le_of_ble_eq_true rfl)) dJ5_append_3fe6f_11 ⟨by show _ ≤ MC; omega, by show _ ≤ MS; omega⟩) (fun r11 S13 H locs h14 hW => ?_)
  obtain ⟨h15, hp⟩ := h14
  rw [h15] at hW
  replace hw := hp
  refine lv_if_eq (tgt := 45) hx hb dJ5_append_3fe6f_14 (by decide) (fun c16 => ?_) (fun c16 => ?_)
  · replace hw := hw.1 c16
    exact t_J5_append_3f_45 C0 t0 post hret  z1 S9 (mc - k4) (ms - n5) _ _ hkn hw _ _ _ hW (lv_sub hl [0, 1] rfl)
  · replace hw := hw.2 c16
    refine lv_iload_n hx hb dJ5_append_3fe6f_17 rfl (lv_at hl 1 rfl) ?_
    refine g_calls (As := [.int z1]) (rest := []) ⟨hx, hb, hml, ho, hts⟩ hl.1 (k_J1_canEncode_fc (l := l) _ z1 hw) (va_cwS 1 hts gJ5_append_3fe6f_J1_canEncode_fc78d rfl rfl rfl (by decide +kernel) ⟨Nat.le_of_ble_eq_true rfl, Nat.le_of_ble_eq_true rfl⟩) (Nat.le_of_ble_eq_true rfl) dJ5_append_3fe6f_18 rfl ⟨by show _ ≤ MC; omega, by show _ ≤ MS; omega⟩ (fun r17 hp => ?_)
    replace hw := hp
    refine lv_if_eq (tgt := 45) hx hb dJ5_append_3fe6f_21 (by decide) (fun c18 => ?_) (fun c18 => ?_)
    · replace hw := hw.1 c18
      exact t_J5_append_3f_45 C0 t0 post hret  z1 S9 (mc - k4) (ms - n5) _ _ hkn hw _ _ _ hW (lv_sub hl [0, 1] rfl)
    · replace hw := hw.2 c18
      refine lv_aload_n hx hb dJ5_append_3fe6f_24 rfl (lv_at hl 0 rfl) ?_
      obtain ⟨o19, h20, hw⟩ := hw
      refine h_getR C0 hW (T := TJ4) (kf := 0) in_J5_append_3f_RJ4 h20 rfl (by decide) (List.mem_of_getElem? (i := 2) rfl) rfl dJ5_append_3fe6f_25 ?_
      refine lv_aload_n hx hb dJ5_append_3fe6f_28 rfl (lv_at hl 0 rfl) ?_
      refine lv_dup hx hb dJ5_append_3fe6f_29 rfl ?_
      obtain ⟨v21, h22, hw⟩ := hw
      refine h_getI C0 hW (T := TJ4) (kf := 3) in_J5_append_3f_RJ4 h22 rfl (by decide) (List.mem_of_getElem? (i := 1) rfl) rfl dJ5_append_3fe6f_30 ?_
      refine lv_dup_x1 hx hb dJ5_append_3fe6f_33 rfl rfl ?_
      refine lv_iconst (v := 1) hx hb dJ5_append_3fe6f_34 (by decide) ?_
      refine lv_iadd hx hb dJ5_append_3fe6f_35 ?_
      obtain ⟨fs23, h24, h25, hw⟩ := hw
      refine h_put C0 hW (T := TJ4) (kf := 3) (ty := .int) in_J5_append_3f_RJ4 h24 rfl (by decide) h25 tyJ4 tyJ4_ok nmJ4 (List.mem_of_getElem? (i := 1) rfl) rfl (Or.inl rfl) (by decide +kernel) rfl rfl dJ5_append_3fe6f_36 rfl (fun H locs hW => ?_)
      obtain ⟨S26, eS26⟩ : ∃ z : hS, z = upS S9 t0 (.inr (1, fs23.set 3 (.int (v21 + 1)))) := ⟨_, rfl⟩
      rw [← eS26] at hW
      replace hw := hw S26 eS26
      refine lv_iload_n hx hb dJ5_append_3fe6f_39 rfl (lv_at hl 1 rfl) ?_
      refine lv_i2b hx hb dJ5_append_3fe6f_40 rfl ?_
      obtain ⟨a27, rfl, hw⟩ := hw
      obtain ⟨N28, g29, h30, h31, hw⟩ := hw
      refine h_bast C0 hW h30 rfl h31 dJ5_append_3fe6f_41 (fun H locs hW => ?_)
      obtain ⟨S32, eS32⟩ : ∃ z : hS, z = upS S26 a27 (.inl (u.2.1 2, N28, .inl (upd g29 (v21 : Int32).toNatClampNeg (vp_nar .byte (z1 : Int32).toInt8.toInt32)))) := ⟨_, rfl⟩
      rw [← eS32] at hW
      replace hw := hw S32 eS32
      refine lv_goto (tgt := 75) hx hb dJ5_append_3fe6f_42 (by decide) ?_
      refine lv_aload_n hx hb dJ5_append_3fe6f_75 rfl (lv_at hl 0 rfl) ?_
      exact hret (some t0) S32 _ _ _ _ (by omega) (by omega) hw dJ5_append_3fe6f_76 _ _ _ hW hl
set_option maxHeartbeats 4000000 in
set_option maxRecDepth 100000 in
theorem k_J5_append_3f {l : Launch} {D : va_G} {u : hU} {X : va_W} {sz : Nat} (post : Option Nat → hS → Prop) (t0 : Nat) (z1 : Int32) (S : hS) (mc ms : Nat) (hw : w_J5_append_3f u post t0 z1 S mc ms) : hMq l yJ5_append_3fe6f wsJ5_append_3fe6f (rm_J5_append_3f mc ms) D (gt u.2.1) u.1 u.2.2 sz X S [.ref t0, .int z1] post mc ms := by
  refine hMq_of (cc := cJ5_append_3fe6f) (nL := 2) (ty := (.object "java/lang/AbstractStringBuilder")) (own := RJ5) (by decide) rfl rfl (Nat.le_of_ble_eq_true rfl) (Or.inl ⟨_, rfl⟩) ?_
  intro p e s m args below meth c A Q C0 hin hret
  exact t_J5_append_3f_0 C0 t0 post hret z1 S mc ms 0 0 ⟨by omega, by omega⟩ hw
abbrev rm_J4_append_cf (MC MS : Nat) : Room := { frames := 5, cells := MC, slots := MS, locals := 105 }
set_option maxHeartbeats 4000000 in
set_option maxRecDepth 100000 in
theorem t_J4_append_cf_0 (C0 : hX p s m args c cJ4_append_cf468 2 RJ4 wsJ4_append_cf468 D (gt u.2.1) A u.1 u.2.2) (t0 : Nat) (post : Option Nat → hS → Prop) (hret : ∀ (r : Option Nat) (S' : hS) (pc : Nat) (lv : List (Nat × Value)) (k n : Nat), k ≤ MC → n ≤ MS → post r S' → decode cJ4_append_cf468 pc = .ok (.areturn, 1) → gG p l e (rm_J4_append_cf MC MS) s m args below meth c Q D A 2 k n (hC X S') pc lv [va_rf r])  : ∀ (z1 : Int32) (S : hS) (mc ms k n : Nat), k + mc ≤ MC ∧ n + ms ≤ MS → w_J4_append_cf u post t0  z1 S mc ms → gG p l e (rm_J4_append_cf MC MS) s m args below meth c Q D A 2 k n (hC X S) 0 [(0, .ref t0), (1, .int z1)] [] := by
  obtain ⟨⟨hx, hb, hml, ho, hts, hK, hA⟩, hR⟩ := id C0
  intro z1 S mc ms k n hkn hw H locs ls hW hl
  rw [w_J4_append_cf] at hw
  refine lv_aload_n hx hb dJ4_append_cf468_0 rfl (lv_at hl 0 rfl) ?_
  refine lv_iload_n hx hb dJ4_append_cf468_1 rfl (lv_at hl 1 rfl) ?_
  obtain ⟨h6, k2, n3, h4, h5, hw⟩ := hw
  refine h_goq C0 hW (va_runSU (As := [.int z1]) (rest := []) ((C0.1.2.2.2.2.2.1.1 1 (RJ4, TJ4, 4) rfl).2) ⟨hx, hb, hml, ho, hts⟩ (k_J5_append_3f (l := l) (u := u) (X := X) (sz := H.size) _ t0 z1 S k2 n3 hw) (va_cwSU 1 hts gJ4_append_cf468_J5_append_3fe6f_s50 rfl rfl rfl (by decide +kernel) ⟨Nat.le_of_ble_eq_true rfl, Nat.le_of_ble_eq_true rfl⟩) ⟨h_blind, (h_recv C0 hW (ci := 1) rfl h6), (h_pre C0 hW [.ref t0, .int z1])⟩ rfl rfl hl.1 rfl (lv_room (Nat.le_of_ble_eq_true rfl)) dJ4_append_cf468_2 ⟨by show _ ≤ MC; omega, by show _ ≤ MS; omega⟩) (fun r1 S7 H locs h8 hW => ?_)
  replace hw := h8
  have hkn : (k + k2) + (mc - k2) ≤ MC ∧ (n + n3) + (ms - n3) ≤ MS := by omega
  refine lv_pop hx hb dJ4_append_cf468_5 (va_rf_cat _) ?_
  refine lv_aload_n hx hb dJ4_append_cf468_6 rfl (lv_at hl 0 rfl) ?_
  exact hret (some t0) S7 _ _ _ _ (by omega) (by omega) hw dJ4_append_cf468_7 _ _ _ hW hl
set_option maxHeartbeats 4000000 in
set_option maxRecDepth 100000 in
theorem k_J4_append_cf {l : Launch} {D : va_G} {u : hU} {X : va_W} {sz : Nat} (post : Option Nat → hS → Prop) (t0 : Nat) (z1 : Int32) (S : hS) (mc ms : Nat) (hw : w_J4_append_cf u post t0 z1 S mc ms) : hMq l yJ4_append_cf468 wsJ4_append_cf468 (rm_J4_append_cf mc ms) D (gt u.2.1) u.1 u.2.2 sz X S [.ref t0, .int z1] post mc ms := by
  refine hMq_of (cc := cJ4_append_cf468) (nL := 2) (ty := (.object "java/lang/StringBuilder")) (own := RJ4) (by decide) rfl rfl (Nat.le_of_ble_eq_true rfl) (Or.inl ⟨_, rfl⟩) ?_
  intro p e s m args below meth c A Q C0 hin hret
  exact t_J4_append_cf_0 C0 t0 post hret z1 S mc ms 0 0 ⟨by omega, by omega⟩ hw
abbrev rm_J0_getBytes_84 : Room := { frames := 1, cells := 0, slots := 0, locals := 20 }
theorem in_J0_getBytes_84_RJ0 : ∀ w ∈ wsJ00, w ∈ wsJ0_getBytes_840e7 := fun w hw9 => List.mem_cons_of_mem _ (List.mem_append_right _ hw9)
set_option maxHeartbeats 4000000 in
set_option maxRecDepth 100000 in
theorem t_J0_getBytes_84_0 (C0 : hX p s m args c cJ0_getBytes_840e7 4 RJ0 wsJ0_getBytes_840e7 D (gt u.2.1) A u.1 u.2.2) (t0 : Nat) (post : hS → Prop) (hret : ∀ (S' : hS) (pc : Nat) (lv : List (Nat × Value)) (k n : Nat), k ≤ 0 → n ≤ 0 → post S' → decode cJ0_getBytes_840e7 pc = .ok (.return_, 1) → gG p l e (rm_J0_getBytes_84) s m args below meth c Q D A 4 k n (hC X S') pc lv [])  : ∀ (p1 : Option Nat) (z2 : Int32) (z3 : Int32) (S : hS), w_J0_getBytes_84 u post t0  p1 z2 z3 S → gG p l e (rm_J0_getBytes_84) s m args below meth c Q D A 4 0 0 (hC X S) 0 [(0, .ref t0), (1, va_rf p1), (2, .int z2), (3, .int z3)] [] := by
  obtain ⟨⟨hx, hb, hml, ho, hts, hK, hA⟩, hR⟩ := id C0
  intro p1 z2 z3 S hw H locs ls hW hl
  rw [w_J0_getBytes_84] at hw
  refine lv_aload_n hx hb dJ0_getBytes_840e7_0 rfl (lv_at hl 0 rfl) ?_
  obtain ⟨h2, hw⟩ := hw
  refine h_goi C0 hW (va_runV (As := []) (rest := []) ⟨hx, hb, hml, ho, hts⟩ (k_J0_coder_7d (l := l) (u := u) (X := X) (sz := H.size) _ t0  S  hw) (cwV 0 hts gJ0_getBytes_840e7_J0_coder_7d493 rfl rfl rfl (by decide +kernel) ⟨Nat.le_of_ble_eq_true rfl, Nat.le_of_ble_eq_true rfl⟩) ⟨h_blind, (h_recvS C0 hW h2), (h_pre C0 hW [.ref t0])⟩ rfl rfl hl.1 rfl (lv_room (Nat.le_of_ble_eq_true rfl)) dJ0_getBytes_840e7_1 ⟨Nat.le_refl _, Nat.le_refl _⟩) (fun r1 S3 H locs h4 hW => ?_)
  obtain ⟨h5, hp⟩ := h4
  rw [h5] at hW
  replace hw := hp
  refine lv_iload_n hx hb dJ0_getBytes_840e7_4 rfl (lv_at hl 3 rfl) ?_
  refine lv_icmp_ne (tgt := 28) hx hb dJ0_getBytes_840e7_5 (by decide) (fun c6 => ?_) (fun c6 => ?_)
  · replace hw := hw.1 c6
    refine lv_aload_n hx hb dJ0_getBytes_840e7_28 rfl (lv_at hl 0 rfl) ?_
    obtain ⟨b7, h8, hw⟩ := hw
    refine h_getSV C0 hW in_J0_getBytes_84_RJ0 h8 (List.mem_of_getElem? (i := 1) rfl) dJ0_getBytes_840e7_29 ?_
    refine lv_iconst (v := 0) hx hb dJ0_getBytes_840e7_32 (by decide) ?_
    refine lv_aloadV_n hx hb dJ0_getBytes_840e7_33 rfl (lv_at hl 1 rfl) ?_
    refine lv_iload_n hx hb dJ0_getBytes_840e7_34 rfl (lv_at hl 2 rfl) ?_
    refine lv_aload_n hx hb dJ0_getBytes_840e7_35 rfl (lv_at hl 0 rfl) ?_
    obtain ⟨b9, h10, hw⟩ := hw
    refine h_getSV C0 hW in_J0_getBytes_84_RJ0 h10 (List.mem_of_getElem? (i := 1) rfl) dJ0_getBytes_840e7_36 ?_
    obtain ⟨N11, g12, h13, hw⟩ := hw
    refine h_blen C0 hW h13 rfl dJ0_getBytes_840e7_39 ?_
    exact hw.elim
  · replace hw := hw.2 c6
    refine lv_aload_n hx hb dJ0_getBytes_840e7_8 rfl (lv_at hl 0 rfl) ?_
    obtain ⟨b14, h15, hw⟩ := hw
    refine h_getSV C0 hW in_J0_getBytes_84_RJ0 h15 (List.mem_of_getElem? (i := 1) rfl) dJ0_getBytes_840e7_9 ?_
    refine lv_iconst (v := 0) hx hb dJ0_getBytes_840e7_12 (by decide) ?_
    refine lv_aloadV_n hx hb dJ0_getBytes_840e7_13 rfl (lv_at hl 1 rfl) ?_
    refine lv_iload_n hx hb dJ0_getBytes_840e7_14 rfl (lv_at hl 2 rfl) ?_
    refine lv_iload_n hx hb dJ0_getBytes_840e7_15 rfl (lv_at hl 3 rfl) ?_
    refine lv_ishl hx hb dJ0_getBytes_840e7_16 ?_
    refine lv_aload_n hx hb dJ0_getBytes_840e7_17 rfl (lv_at hl 0 rfl) ?_
    obtain ⟨b16, h17, hw⟩ := hw
    refine h_getSV C0 hW in_J0_getBytes_84_RJ0 h17 (List.mem_of_getElem? (i := 1) rfl) dJ0_getBytes_840e7_18 ?_
    obtain ⟨N18, g19, h20, hw⟩ := hw
    refine h_blen C0 hW h20 rfl dJ0_getBytes_840e7_21 ?_
    obtain ⟨a21, rfl, hw⟩ := hw
    obtain ⟨N22, g23, N25, g26, h24, h27, h28, hw⟩ := hw
    refine h_copy C0 hW hl.1 rfl h24 h27 (List.mem_of_getElem? (i := 2) rfl) (List.mem_of_getElem? (i := 3) rfl) (List.mem_of_getElem? (i := 4) rfl) (List.mem_of_getElem? (i := 5) rfl) h28.1 h28.2.1 h28.2.2.1 h28.2.2.2.1 h28.2.2.2.2.1 h28.2.2.2.2.2 (Nat.le_of_ble_eq_true rfl) (Nat.le_of_ble_eq_true rfl) dJ0_getBytes_840e7_22 (fun H locs hW => ?_)
    obtain ⟨S29, eS29⟩ : ∃ z : hS, z = upS S a21 (.inl (u.2.1 2, N25, .inl (va_cpy g23 g26 (0 : Int32).toNatClampNeg ((z2 <<< (z3 &&& 31)) : Int32).toNatClampNeg ((nI N18) : Int32).toNatClampNeg))) := ⟨_, rfl⟩
    rw [← eS29] at hW
    replace hw := hw S29 eS29
    refine lv_goto (tgt := 43) hx hb dJ0_getBytes_840e7_25 (by decide) ?_
    exact hret S29 _ _ 0 0 (Nat.le_refl _) (Nat.le_refl _) hw dJ0_getBytes_840e7_43 _ _ _ hW hl
set_option maxHeartbeats 4000000 in
set_option maxRecDepth 100000 in
theorem k_J0_getBytes_84 {l : Launch} {D : va_G} {u : hU} {X : va_W} {sz : Nat} (post : hS → Prop) (t0 : Nat) (p1 : Option Nat) (z2 : Int32) (z3 : Int32) (S : hS) (hw : w_J0_getBytes_84 u post t0 p1 z2 z3 S) : hMv l yJ0_getBytes_840e7 wsJ0_getBytes_840e7 rm_J0_getBytes_84 D (gt u.2.1) u.1 u.2.2 sz X S [.ref t0, va_rf p1, .int z2, .int z3] post 0 0 := by
  refine hMv_of (cc := cJ0_getBytes_840e7) (nL := 4) (own := RJ0) (by decide) rfl rfl (by cases p1 <;> exact Nat.le_of_ble_eq_true rfl) ?_
  intro p e s m args below meth c A Q C0 hin hret
  have hfin := t_J0_getBytes_84_0 C0 t0 post hret p1 z2 z3 S hw
  intro H locs ls hW hl
  refine hfin H locs ls hW ?_
  cases p1 <;> exact hl
abbrev rm_J5_inflateIfNeededFor_a7 : Room := { frames := 1, cells := 0, slots := 0, locals := 20 }
theorem in_J5_inflateIfNeededFor_a7_RJ4 : ∀ w ∈ wsJ40, w ∈ wsJ5_inflateIfNeededFor_a7421 := fun w hw9 => List.mem_cons_of_mem _ (List.mem_append_left _ (List.mem_append_right _ hw9))
set_option maxHeartbeats 4000000 in
set_option maxRecDepth 100000 in
theorem t_J5_inflateIfNeededFor_a7_0 (C0 : hX p s m args c cJ5_inflateIfNeededFor_a7421 2 RJ5 wsJ5_inflateIfNeededFor_a7421 D (gt u.2.1) A u.1 u.2.2) {S : hS} (t0 : Nat) (post : Prop) (hret : ∀ (S' : hS) (pc : Nat) (lv : List (Nat × Value)) (k n : Nat), k ≤ 0 → n ≤ 0 → (S' = S ∧ post) → decode cJ5_inflateIfNeededFor_a7421 pc = .ok (.return_, 1) → gG p l e (rm_J5_inflateIfNeededFor_a7) s m args below meth c Q D A 2 k n (hC X S') pc lv [])  : ∀ (p1 : Option Nat), w_J5_inflateIfNeededFor_a7 u post t0  p1 S → gG p l e (rm_J5_inflateIfNeededFor_a7) s m args below meth c Q D A 2 0 0 (hC X S) 0 [(0, .ref t0), (1, va_rf p1)] [] := by
  obtain ⟨⟨hx, hb, hml, ho, hts, hK, hA⟩, hR⟩ := id C0
  intro p1 hw H locs ls hW hl
  rw [w_J5_inflateIfNeededFor_a7] at hw
  refine h_gets C0 hW (List.mem_of_getElem? (i := 1) rfl) dJ5_inflateIfNeededFor_a7421_0 ?_
  refine lv_if_eq (tgt := 21) hx hb dJ5_inflateIfNeededFor_a7421_3 (by decide) (fun c1 => ?_) (fun c1 => ?_)
  · replace hw := hw.1 c1
    exact hret S _ _ 0 0 (Nat.le_refl _) (Nat.le_refl _) ⟨rfl, hw⟩ dJ5_inflateIfNeededFor_a7421_21 _ _ _ hW hl
  · replace hw := hw.2 c1
    refine lv_aload_n hx hb dJ5_inflateIfNeededFor_a7421_6 rfl (lv_at hl 0 rfl) ?_
    obtain ⟨v2, h3, hw⟩ := hw
    refine h_getI C0 hW (T := TJ4) (kf := 1) in_J5_inflateIfNeededFor_a7_RJ4 h3 rfl (by decide) (List.mem_of_getElem? (i := 2) rfl) rfl dJ5_inflateIfNeededFor_a7421_7 ?_
    refine lv_aloadV_n hx hb dJ5_inflateIfNeededFor_a7421_10 rfl (lv_at hl 1 rfl) ?_
    obtain ⟨a4, rfl, hw⟩ := hw
    obtain ⟨h6, hw⟩ := hw
    refine h_goi C0 hW (va_runV (As := []) (rest := [.int v2]) ⟨hx, hb, hml, ho, hts⟩ (k_J0_coder_7d (l := l) (u := u) (X := X) (sz := H.size) _ a4  S  hw) (cwV 0 hts gJ5_inflateIfNeededFor_a7421_J0_coder_7d493 rfl rfl rfl (by decide +kernel) ⟨Nat.le_of_ble_eq_true rfl, Nat.le_of_ble_eq_true rfl⟩) ⟨h_blind, (h_recvS C0 hW h6), (h_pre C0 hW [.ref a4])⟩ rfl rfl hl.1 rfl (lv_room (Nat.le_of_ble_eq_true rfl)) dJ5_inflateIfNeededFor_a7421_11 ⟨Nat.le_refl _, Nat.le_refl _⟩) (fun r5 S7 H locs h8 hW => ?_)
    obtain ⟨h9, hp⟩ := h8
    rw [h9] at hW
    replace hw := hp
    refine lv_icmp_eq (tgt := 21) hx hb dJ5_inflateIfNeededFor_a7421_14 (by decide) (fun c10 => ?_) (fun c10 => ?_)
    · replace hw := hw.1 c10
      exact hret S _ _ 0 0 (Nat.le_refl _) (Nat.le_refl _) ⟨rfl, hw⟩ dJ5_inflateIfNeededFor_a7421_21 _ _ _ hW hl
    · replace hw := hw.2 c10
      refine lv_aload_n hx hb dJ5_inflateIfNeededFor_a7421_17 rfl (lv_at hl 0 rfl) ?_
      exact hw.elim
set_option maxHeartbeats 4000000 in
set_option maxRecDepth 100000 in
theorem k_J5_inflateIfNeededFor_a7 {l : Launch} {D : va_G} {u : hU} {X : va_W} {sz : Nat} (post : Prop) (t0 : Nat) (p1 : Option Nat) (S : hS) (hw : w_J5_inflateIfNeededFor_a7 u post t0 p1 S) : hMv l yJ5_inflateIfNeededFor_a7421 wsJ5_inflateIfNeededFor_a7421 rm_J5_inflateIfNeededFor_a7 D (gt u.2.1) u.1 u.2.2 sz X S [.ref t0, va_rf p1] (fun S' => S' = S ∧ post) 0 0 := by
  refine hMv_of (cc := cJ5_inflateIfNeededFor_a7421) (nL := 2) (own := RJ5) (by decide) rfl rfl (by cases p1 <;> exact Nat.le_of_ble_eq_true rfl) ?_
  intro p e s m args below meth c A Q C0 hin hret
  have hfin := t_J5_inflateIfNeededFor_a7_0 C0 t0 post hret p1 hw
  intro H locs ls hW hl
  refine hfin H locs ls hW ?_
  cases p1 <;> exact hl
abbrev rm_J5_putStringAt_47 : Room := { frames := 2, cells := 0, slots := 0, locals := 43 }
theorem in_J5_putStringAt_47_RJ4 : ∀ w ∈ wsJ40, w ∈ wsJ5_putStringAt_47b60 := fun w hw9 => List.mem_cons_of_mem _ (List.mem_append_left _ (List.mem_append_right _ hw9))
set_option maxHeartbeats 4000000 in
set_option maxRecDepth 100000 in
theorem t_J5_putStringAt_47_0 (C0 : hX p s m args c cJ5_putStringAt_47b60 3 RJ5 wsJ5_putStringAt_47b60 D (gt u.2.1) A u.1 u.2.2) (t0 : Nat) (post : hS → Prop) (hret : ∀ (S' : hS) (pc : Nat) (lv : List (Nat × Value)) (k n : Nat), k ≤ 0 → n ≤ 0 → post S' → decode cJ5_putStringAt_47b60 pc = .ok (.return_, 1) → gG p l e (rm_J5_putStringAt_47) s m args below meth c Q D A 3 k n (hC X S') pc lv [])  : ∀ (z1 : Int32) (p2 : Option Nat) (S : hS), w_J5_putStringAt_47 u post t0  z1 p2 S → gG p l e (rm_J5_putStringAt_47) s m args below meth c Q D A 3 0 0 (hC X S) 0 [(0, .ref t0), (1, .int z1), (2, va_rf p2)] [] := by
  obtain ⟨⟨hx, hb, hml, ho, hts, hK, hA⟩, hR⟩ := id C0
  intro z1 p2 S hw H locs ls hW hl
  rw [w_J5_putStringAt_47] at hw
  refine lv_aload_n hx hb dJ5_putStringAt_47b60_0 rfl (lv_at hl 0 rfl) ?_
  refine lv_aloadV_n hx hb dJ5_putStringAt_47b60_1 rfl (lv_at hl 2 rfl) ?_
  obtain ⟨h2, hw⟩ := hw
  refine h_gov C0 hW (va_runU (As := [va_rf p2]) (rest := []) ⟨hx, hb, hml, ho, hts⟩ (k_J5_inflateIfNeededFor_a7 (l := l) (u := u) (X := X) (sz := H.size) _ t0 p2 S  hw) (va_cwU 1 hts gJ5_putStringAt_47b60_J5_inflateIfNeededFor_a7421_u397J4 rfl rfl rfl rfl (by decide +kernel) ⟨Nat.le_of_ble_eq_true rfl, Nat.le_of_ble_eq_true rfl⟩) ⟨h_blind, (h_recv C0 hW (ci := 1) rfl h2), (h_pre C0 hW [.ref t0, va_rf p2])⟩ rfl rfl hl.1 rfl (lv_room (Nat.le_of_ble_eq_true rfl)) dJ5_putStringAt_47b60_2 ⟨Nat.le_refl _, Nat.le_refl _⟩) (fun S3 H locs h4 hW => ?_)
  obtain ⟨h5, hp⟩ := h4
  rw [h5] at hW
  replace hw := hp
  refine lv_aloadV_n hx hb dJ5_putStringAt_47b60_5 rfl (lv_at hl 2 rfl) ?_
  refine lv_aload_n hx hb dJ5_putStringAt_47b60_6 rfl (lv_at hl 0 rfl) ?_
  obtain ⟨o6, h7, hw⟩ := hw
  refine h_getR C0 hW (T := TJ4) (kf := 0) in_J5_putStringAt_47_RJ4 h7 rfl (by decide) (List.mem_of_getElem? (i := 1) rfl) rfl dJ5_putStringAt_47b60_7 ?_
  refine lv_iload_n hx hb dJ5_putStringAt_47b60_10 rfl (lv_at hl 1 rfl) ?_
  refine lv_aload_n hx hb dJ5_putStringAt_47b60_11 rfl (lv_at hl 0 rfl) ?_
  obtain ⟨v8, h9, hw⟩ := hw
  refine h_getI C0 hW (T := TJ4) (kf := 1) in_J5_putStringAt_47_RJ4 h9 rfl (by decide) (List.mem_of_getElem? (i := 2) rfl) rfl dJ5_putStringAt_47b60_12 ?_
  obtain ⟨a10, rfl, hw⟩ := hw
  obtain ⟨h12, hw⟩ := hw
  refine h_gov C0 hW (va_runV (As := [va_rf o6, .int z1, .int v8]) (rest := []) ⟨hx, hb, hml, ho, hts⟩ (k_J0_getBytes_84 (l := l) (u := u) (X := X) (sz := H.size) _ a10 o6 z1 v8 S  hw) (cwV 3 hts gJ5_putStringAt_47b60_J0_getBytes_840e7 rfl rfl rfl (by decide +kernel) ⟨Nat.le_of_ble_eq_true rfl, Nat.le_of_ble_eq_true rfl⟩) ⟨h_blind, (h_recvS C0 hW h12), (h_pre C0 hW [.ref a10, va_rf o6, .int z1, .int v8])⟩ rfl rfl hl.1 rfl (lv_room (Nat.le_of_ble_eq_true rfl)) dJ5_putStringAt_47b60_15 ⟨Nat.le_refl _, Nat.le_refl _⟩) (fun S13 H locs h14 hW => ?_)
  replace hw := h14
  exact hret S13 _ _ 0 0 (Nat.le_refl _) (Nat.le_refl _) hw dJ5_putStringAt_47b60_18 _ _ _ hW hl
set_option maxHeartbeats 4000000 in
set_option maxRecDepth 100000 in
theorem k_J5_putStringAt_47 {l : Launch} {D : va_G} {u : hU} {X : va_W} {sz : Nat} (post : hS → Prop) (t0 : Nat) (z1 : Int32) (p2 : Option Nat) (S : hS) (hw : w_J5_putStringAt_47 u post t0 z1 p2 S) : hMv l yJ5_putStringAt_47b60 wsJ5_putStringAt_47b60 rm_J5_putStringAt_47 D (gt u.2.1) u.1 u.2.2 sz X S [.ref t0, .int z1, va_rf p2] post 0 0 := by
  refine hMv_of (cc := cJ5_putStringAt_47b60) (nL := 3) (own := RJ5) (by decide) rfl rfl (by cases p2 <;> exact Nat.le_of_ble_eq_true rfl) ?_
  intro p e s m args below meth c A Q C0 hin hret
  have hfin := t_J5_putStringAt_47_0 C0 t0 post hret z1 p2 S hw
  intro H locs ls hW hl
  refine hfin H locs ls hW ?_
  cases p2 <;> exact hl
abbrev rm_J5_append_cf (MC MS : Nat) : Room := { frames := 4, cells := MC, slots := MS, locals := 84 }
theorem in_J5_append_cf_RJ4 : ∀ w ∈ wsJ40, w ∈ wsJ5_append_cf1ce := fun w hw9 => List.mem_cons_of_mem _ (List.mem_append_left _ (List.mem_append_right _ hw9))
set_option maxHeartbeats 4000000 in
set_option maxRecDepth 100000 in
theorem t_J5_append_cf_0 (C0 : hX p s m args c cJ5_append_cf1ce 3 RJ5 wsJ5_append_cf1ce D (gt u.2.1) A u.1 u.2.2) (t0 : Nat) (post : Option Nat → hS → Prop) (hret : ∀ (r : Option Nat) (S' : hS) (pc : Nat) (lv : List (Nat × Value)) (k n : Nat), k ≤ MC → n ≤ MS → post r S' → decode cJ5_append_cf1ce pc = .ok (.areturn, 1) → gG p l e (rm_J5_append_cf MC MS) s m args below meth c Q D A 3 k n (hC X S') pc lv [va_rf r])  : ∀ (p1 : Option Nat) (S : hS) (mc ms k n : Nat), k + mc ≤ MC ∧ n + ms ≤ MS → w_J5_append_cf u post t0  p1 S mc ms → gG p l e (rm_J5_append_cf MC MS) s m args below meth c Q D A 3 k n (hC X S) 0 [(0, .ref t0), (1, va_rf p1)] [] := by
  obtain ⟨⟨hx, hb, hml, ho, hts, hK, hA⟩, hR⟩ := id C0
  intro p1 S mc ms k n hkn hw H locs ls hW hl
  rw [w_J5_append_cf] at hw
  refine lv_aloadV_n hx hb dJ5_append_cf1ce_0 rfl (lv_at hl 1 rfl) ?_
  refine lv_ifnonnullV (tgt := 9) hx hb dJ5_append_cf1ce_1 (by decide) (fun a2 c1 => ?_) (fun c1 => ?_)
  · subst c1
    replace hw := hw.2 a2 rfl
    refine lv_aload_n hx hb dJ5_append_cf1ce_9 rfl (lv_at hl 1 rfl) ?_
    obtain ⟨h4, hw⟩ := hw
    refine h_goi C0 hW (va_runV (As := []) (rest := []) ⟨hx, hb, hml, ho, hts⟩ (k_J0_length_8a (l := l) (u := u) (X := X) (sz := H.size) _ a2  S  hw) (cwV 0 hts gJ5_append_cf1ce_J0_length_8abf5 rfl rfl rfl (by decide +kernel) ⟨Nat.le_of_ble_eq_true rfl, Nat.le_of_ble_eq_true rfl⟩) ⟨h_blind, (h_recvS C0 hW h4), (h_pre C0 hW [.ref a2])⟩ rfl rfl hl.1 rfl (lv_room (Nat.le_of_ble_eq_true rfl)) dJ5_append_cf1ce_10 ⟨by show _ ≤ MC; omega, by show _ ≤ MS; omega⟩) (fun r3 S5 H locs h6 hW => ?_)
    obtain ⟨h7, hp⟩ := h6
    rw [h7] at hW
    replace hw := hp
    refine lv_istore_n (lv' := [(2, .int r3), (0, .ref t0), (1, .ref a2)]) hx hb dJ5_append_cf1ce_13 rfl hl (by decide) rfl (fun ls hl9 => ?_)
    replace hl := hl9
    refine lv_aload_n hx hb dJ5_append_cf1ce_14 rfl (lv_at hl 1 rfl) ?_
    refine lv_aload_n hx hb dJ5_append_cf1ce_15 rfl (lv_at hl 1 rfl) ?_
    obtain ⟨v8, h9, hw⟩ := hw
    refine h_getI C0 hW (T := TJ4) (kf := 3) in_J5_append_cf_RJ4 h9 rfl (by decide) (List.mem_of_getElem? (i := 1) rfl) rfl dJ5_append_cf1ce_16 ?_
    refine lv_iload_n hx hb dJ5_append_cf1ce_19 rfl (lv_at hl 0 rfl) ?_
    refine lv_iadd hx hb dJ5_append_cf1ce_20 ?_
    obtain ⟨h15, k11, n12, h13, h14, hw⟩ := hw
    refine h_gov C0 hW (va_runU (As := [.int (v8 + r3)]) (rest := []) ⟨hx, hb, hml, ho, hts⟩ (k_J5_ensureCapacityInternal_d0 (l := l) (u := u) (X := X) (sz := H.size) _ t0 (v8 + r3) S k11 n12 hw) (va_cwU 1 hts gJ5_append_cf1ce_J5_ensureCapacityInternal_d00df_u100J4 rfl rfl rfl rfl (by decide +kernel) ⟨Nat.le_of_ble_eq_true rfl, Nat.le_of_ble_eq_true rfl⟩) ⟨h_blind, (h_recv C0 hW (ci := 1) rfl h15), (h_pre C0 hW [.ref t0, .int (v8 + r3)])⟩ rfl rfl hl.1 rfl (lv_room (Nat.le_of_ble_eq_true rfl)) dJ5_append_cf1ce_21 ⟨by show _ ≤ MC; omega, by show _ ≤ MS; omega⟩) (fun S16 H locs h17 hW => ?_)
    replace hw := h17
    have hkn : (k + k11) + (mc - k11) ≤ MC ∧ (n + n12) + (ms - n12) ≤ MS := by omega
    refine lv_aload_n hx hb dJ5_append_cf1ce_24 rfl (lv_at hl 1 rfl) ?_
    refine lv_aload_n hx hb dJ5_append_cf1ce_25 rfl (lv_at hl 1 rfl) ?_
    obtain ⟨v18, h19, hw⟩ := hw
    refine h_getI C0 hW (T := TJ4) (kf := 3) in_J5_append_cf_RJ4 h19 rfl (by decide) (List.mem_of_getElem? (i := 1) rfl) rfl dJ5_append_cf1ce_26 ?_
    refine lv_aload_n hx hb dJ5_append_cf1ce_29 rfl (lv_at hl 2 rfl) ?_
    obtain ⟨h21, hw⟩ := hw
    refine h_gov C0 hW (va_runU (As := [.int v18, .ref a2]) (rest := []) ⟨hx, hb, hml, ho, hts⟩ (k_J5_putStringAt_47 (l := l) (u := u) (X := X) (sz := H.size) _ t0 v18 (some a2) S16  hw) (va_cwU 2 hts gJ5_append_cf1ce_J5_putStringAt_47b60_u208J4 rfl rfl rfl rfl (by decide +kernel) ⟨Nat.le_of_ble_eq_true rfl, Nat.le_of_ble_eq_true rfl⟩) ⟨h_blind, (h_recv C0 hW (ci := 1) rfl h21), (h_pre C0 hW [.ref t0, .int v18, .ref a2])⟩ rfl rfl hl.1 rfl (lv_room (Nat.le_of_ble_eq_true rfl)) dJ5_append_cf1ce_30 ⟨by show _ ≤ MC; omega, by show _ ≤ MS; omega⟩) (fun S22 H locs h23 hW => ?_)
    replace hw := h23
    refine lv_aload_n hx hb dJ5_append_cf1ce_33 rfl (lv_at hl 1 rfl) ?_
    refine lv_dup hx hb dJ5_append_cf1ce_34 rfl ?_
    obtain ⟨v24, h25, hw⟩ := hw
    refine h_getI C0 hW (T := TJ4) (kf := 3) in_J5_append_cf_RJ4 h25 rfl (by decide) (List.mem_of_getElem? (i := 1) rfl) rfl dJ5_append_cf1ce_35 ?_
    refine lv_iload_n hx hb dJ5_append_cf1ce_38 rfl (lv_at hl 0 rfl) ?_
    refine lv_iadd hx hb dJ5_append_cf1ce_39 ?_
    obtain ⟨fs26, h27, h28, hw⟩ := hw
    refine h_put C0 hW (T := TJ4) (kf := 3) (ty := .int) in_J5_append_cf_RJ4 h27 rfl (by decide) h28 tyJ4 tyJ4_ok nmJ4 (List.mem_of_getElem? (i := 1) rfl) rfl (Or.inl rfl) (by decide +kernel) rfl rfl dJ5_append_cf1ce_40 rfl (fun H locs hW => ?_)
    obtain ⟨S29, eS29⟩ : ∃ z : hS, z = upS S22 t0 (.inr (1, fs26.set 3 (.int (v24 + r3)))) := ⟨_, rfl⟩
    rw [← eS29] at hW
    replace hw := hw S29 eS29
    refine lv_aload_n hx hb dJ5_append_cf1ce_43 rfl (lv_at hl 1 rfl) ?_
    exact hret (some t0) S29 _ _ _ _ (by omega) (by omega) hw dJ5_append_cf1ce_44 _ _ _ hW hl
  · subst c1
    replace hw := hw.1 rfl
    refine lv_aload_n hx hb dJ5_append_cf1ce_4 rfl (lv_at hl 0 rfl) ?_
    exact hw.elim
set_option maxHeartbeats 4000000 in
set_option maxRecDepth 100000 in
theorem k_J5_append_cf {l : Launch} {D : va_G} {u : hU} {X : va_W} {sz : Nat} (post : Option Nat → hS → Prop) (t0 : Nat) (p1 : Option Nat) (S : hS) (mc ms : Nat) (hw : w_J5_append_cf u post t0 p1 S mc ms) : hMq l yJ5_append_cf1ce wsJ5_append_cf1ce (rm_J5_append_cf mc ms) D (gt u.2.1) u.1 u.2.2 sz X S [.ref t0, va_rf p1] post mc ms := by
  refine hMq_of (cc := cJ5_append_cf1ce) (nL := 3) (ty := (.object "java/lang/AbstractStringBuilder")) (own := RJ5) (by decide) rfl rfl (by cases p1 <;> exact Nat.le_of_ble_eq_true rfl) (Or.inl ⟨_, rfl⟩) ?_
  intro p e s m args below meth c A Q C0 hin hret
  have hfin := t_J5_append_cf_0 C0 t0 post hret p1 S mc ms 0 0 ⟨by omega, by omega⟩ hw
  intro H locs ls hW hl
  refine hfin H locs ls hW ?_
  cases p1 <;> exact hl
abbrev rm_J4_append_15 (MC MS : Nat) : Room := { frames := 5, cells := MC, slots := MS, locals := 106 }
set_option maxHeartbeats 4000000 in
set_option maxRecDepth 100000 in
theorem t_J4_append_15_0 (C0 : hX p s m args c cJ4_append_15ec4 2 RJ4 wsJ4_append_15ec4 D (gt u.2.1) A u.1 u.2.2) (t0 : Nat) (post : Option Nat → hS → Prop) (hret : ∀ (r : Option Nat) (S' : hS) (pc : Nat) (lv : List (Nat × Value)) (k n : Nat), k ≤ MC → n ≤ MS → post r S' → decode cJ4_append_15ec4 pc = .ok (.areturn, 1) → gG p l e (rm_J4_append_15 MC MS) s m args below meth c Q D A 2 k n (hC X S') pc lv [va_rf r])  : ∀ (p1 : Option Nat) (S : hS) (mc ms k n : Nat), k + mc ≤ MC ∧ n + ms ≤ MS → w_J4_append_15 u post t0  p1 S mc ms → gG p l e (rm_J4_append_15 MC MS) s m args below meth c Q D A 2 k n (hC X S) 0 [(0, .ref t0), (1, va_rf p1)] [] := by
  obtain ⟨⟨hx, hb, hml, ho, hts, hK, hA⟩, hR⟩ := id C0
  intro p1 S mc ms k n hkn hw H locs ls hW hl
  rw [w_J4_append_15] at hw
  refine lv_aload_n hx hb dJ4_append_15ec4_0 rfl (lv_at hl 0 rfl) ?_
  refine lv_aloadV_n hx hb dJ4_append_15ec4_1 rfl (lv_at hl 1 rfl) ?_
  obtain ⟨h6, k2, n3, h4, h5, hw⟩ := hw
  refine h_goq C0 hW (va_runSU (As := [va_rf p1]) (rest := []) ((C0.1.2.2.2.2.2.1.1 1 (RJ4, TJ4, 4) rfl).2) ⟨hx, hb, hml, ho, hts⟩ (k_J5_append_cf (l := l) (u := u) (X := X) (sz := H.size) _ t0 p1 S k2 n3 hw) (va_cwSU 1 hts gJ4_append_15ec4_J5_append_cf1ce_s29 rfl rfl rfl (by decide +kernel) ⟨Nat.le_of_ble_eq_true rfl, Nat.le_of_ble_eq_true rfl⟩) ⟨h_blind, (h_recv C0 hW (ci := 1) rfl h6), (h_pre C0 hW [.ref t0, va_rf p1])⟩ rfl rfl hl.1 rfl (lv_room (Nat.le_of_ble_eq_true rfl)) dJ4_append_15ec4_2 ⟨by show _ ≤ MC; omega, by show _ ≤ MS; omega⟩) (fun r1 S7 H locs h8 hW => ?_)
  replace hw := h8
  have hkn : (k + k2) + (mc - k2) ≤ MC ∧ (n + n3) + (ms - n3) ≤ MS := by omega
  refine lv_pop hx hb dJ4_append_15ec4_5 (va_rf_cat _) ?_
  refine lv_aload_n hx hb dJ4_append_15ec4_6 rfl (lv_at hl 0 rfl) ?_
  exact hret (some t0) S7 _ _ _ _ (by omega) (by omega) hw dJ4_append_15ec4_7 _ _ _ hW hl
set_option maxHeartbeats 4000000 in
set_option maxRecDepth 100000 in
theorem k_J4_append_15 {l : Launch} {D : va_G} {u : hU} {X : va_W} {sz : Nat} (post : Option Nat → hS → Prop) (t0 : Nat) (p1 : Option Nat) (S : hS) (mc ms : Nat) (hw : w_J4_append_15 u post t0 p1 S mc ms) : hMq l yJ4_append_15ec4 wsJ4_append_15ec4 (rm_J4_append_15 mc ms) D (gt u.2.1) u.1 u.2.2 sz X S [.ref t0, va_rf p1] post mc ms := by
  refine hMq_of (cc := cJ4_append_15ec4) (nL := 2) (ty := (.object "java/lang/StringBuilder")) (own := RJ4) (by decide) rfl rfl (by cases p1 <;> exact Nat.le_of_ble_eq_true rfl) (Or.inl ⟨_, rfl⟩) ?_
  intro p e s m args below meth c A Q C0 hin hret
  have hfin := t_J4_append_15_0 C0 t0 post hret p1 S mc ms 0 0 ⟨by omega, by omega⟩ hw
  intro H locs ls hW hl
  refine hfin H locs ls hW ?_
  cases p1 <;> exact hl
abbrev rm_J5_init_d0 (MC MS : Nat) : Room := { frames := 1, cells := MC, slots := MS, locals := 12 }
theorem in_J5_init_d0_RJ4 : ∀ w ∈ wsJ40, w ∈ wsJ5_init_d00df := fun w hw9 => List.mem_cons_of_mem _ (List.mem_append_right _ hw9)
set_option maxHeartbeats 4000000 in
set_option maxRecDepth 100000 in
theorem t_J5_init_d0_0 (C0 : hX p s m args c cJ5_init_d00df 2 RJ5 wsJ5_init_d00df D (gt u.2.1) A u.1 u.2.2) (hin : yJ5_init_d00df.name = "<init>" → meth.name = "<init>") (t0 : Nat) (post : hS → Prop) (hret : ∀ (S' : hS) (pc : Nat) (lv : List (Nat × Value)) (k n : Nat), k ≤ MC → n ≤ MS → post S' → decode cJ5_init_d00df pc = .ok (.return_, 1) → gG p l e (rm_J5_init_d0 MC MS) s m args below meth c Q D A 2 k n (hC X S') pc lv [])  : ∀ (z1 : Int32) (S : hS) (mc ms k n : Nat), k + mc ≤ MC ∧ n + ms ≤ MS → w_J5_init_d0 u post t0  z1 S mc ms → gG p l e (rm_J5_init_d0 MC MS) s m args below meth c Q D A 2 k n (hC X S) 0 [(0, .ref t0), (1, .int z1)] [] := by
  obtain ⟨⟨hx, hb, hml, ho, hts, hK, hA⟩, hR⟩ := id C0
  intro z1 S mc ms k n hkn hw H locs ls hW hl
  rw [w_J5_init_d0] at hw
  refine lv_aload_n hx hb dJ5_init_d00df_0 rfl (lv_at hl 0 rfl) ?_
  refine W.objInit hx hb ho (hts (.methodLink RJ5 3 objectInit) (List.mem_of_getElem? (i := 1) rfl)) (hts (.instanceMethod objectInit) (List.mem_of_getElem? (i := 2) rfl)) (hts (.code objectInit ⟨#[0xb1]⟩ 1 none) (List.mem_of_getElem? (i := 3) rfl)) rfl (by rw [hml]; exact hl.1) rfl dJ5_init_d00df_1 (Nat.le_of_ble_eq_true rfl) (Nat.le_of_ble_eq_true rfl) ?_
  refine W.eq (g2 := F0 m 4 ls []) rfl ?_
  refine h_gets C0 hW (List.mem_of_getElem? (i := 4) rfl) dJ5_init_d00df_4 ?_
  refine lv_if_eq (tgt := 25) hx hb dJ5_init_d00df_7 (by decide) (fun c1 => ?_) (fun c1 => ?_)
  · replace hw := hw.1 c1
    refine lv_aload_n hx hb dJ5_init_d00df_25 rfl (lv_at hl 0 rfl) ?_
    refine lv_iload_n hx hb dJ5_init_d00df_26 rfl (lv_at hl 1 rfl) ?_
    exact hw.elim
  · replace hw := hw.2 c1
    refine lv_aload_n hx hb dJ5_init_d00df_10 rfl (lv_at hl 0 rfl) ?_
    refine lv_iload_n hx hb dJ5_init_d00df_11 rfl (lv_at hl 1 rfl) ?_
    obtain ⟨N9, h10, h8, h5, h6, hw⟩ := hw
    refine h_newB C0 hW rfl (List.mem_of_getElem? (i := 5) rfl) (N := N9) (by rw [h10]; exact nI_pos (by omega)) (by rw [h10]; exact nI_clamp (by omega)) h8 (by show _ ≤ MC; omega) (by show _ ≤ MS; omega) dJ5_init_d00df_12 (fun q2 H h3 hW => ?_)
    obtain ⟨S4, eS4⟩ : ∃ z : hS, z = adS S q2 (.inl (u.2.1 2, N9, .inl (fun _ => 0))) := ⟨_, rfl⟩
    rw [← eS4] at hW
    replace hw := hw q2 S4 h3 eS4
    have hkn : (k + 1) + (mc - 1) ≤ MC ∧ (n + N9) + (ms - N9) ≤ MS := by omega
    obtain ⟨fs11, h12, h13, hw⟩ := hw
    refine h_put C0 hW (T := TJ4) (kf := 0) (ty := .array (.byte)) in_J5_init_d0_RJ4 h12 rfl (by decide) h13 tyJ4 tyJ4_ok nmJ4 (List.mem_of_getElem? (i := 6) rfl) rfl (Or.inl rfl) (by decide +kernel) rfl rfl dJ5_init_d00df_14 rfl (fun H locs hW => ?_)
    obtain ⟨S14, eS14⟩ : ∃ z : hS, z = upS S4 t0 (.inr (1, fs11.set 0 (.ref q2))) := ⟨_, rfl⟩
    rw [← eS14] at hW
    replace hw := hw S14 eS14
    refine lv_aload_n hx hb dJ5_init_d00df_17 rfl (lv_at hl 0 rfl) ?_
    refine lv_iconst (v := 0) hx hb dJ5_init_d00df_18 (by decide) ?_
    obtain ⟨fs15, h16, h17, hw⟩ := hw
    refine h_put C0 hW (T := TJ4) (kf := 1) (ty := .byte) in_J5_init_d0_RJ4 h16 rfl (by decide) h17 tyJ4 tyJ4_ok nmJ4 (List.mem_of_getElem? (i := 7) rfl) rfl (Or.inl rfl) (by decide +kernel) (by decide) (by decide) dJ5_init_d00df_19 rfl (fun H locs hW => ?_)
    obtain ⟨S18, eS18⟩ : ∃ z : hS, z = upS S14 t0 (.inr (1, fs15.set 1 (.int 0))) := ⟨_, rfl⟩
    rw [← eS18] at hW
    replace hw := hw S18 eS18
    refine lv_goto (tgt := 38) hx hb dJ5_init_d00df_22 (by decide) ?_
    exact hret S18 _ _ _ _ (by omega) (by omega) hw dJ5_init_d00df_38 _ _ _ hW hl
set_option maxHeartbeats 4000000 in
set_option maxRecDepth 100000 in
theorem k_J5_init_d0 {l : Launch} {D : va_G} {u : hU} {X : va_W} {sz : Nat} (post : hS → Prop) (t0 : Nat) (z1 : Int32) (S : hS) (mc ms : Nat) (hw : w_J5_init_d0 u post t0 z1 S mc ms) : hMv l yJ5_init_d00df wsJ5_init_d00df (rm_J5_init_d0 mc ms) D (gt u.2.1) u.1 u.2.2 sz X S [.ref t0, .int z1] post mc ms := by
  refine hMv_of (cc := cJ5_init_d00df) (nL := 2) (own := RJ5) (by decide) rfl rfl (Nat.le_of_ble_eq_true rfl) ?_
  intro p e s m args below meth c A Q C0 hin hret
  exact t_J5_init_d0_0 C0 hin t0 post hret z1 S mc ms 0 0 ⟨by omega, by omega⟩ hw
abbrev rm_J4_init_da (MC MS : Nat) : Room := { frames := 2, cells := MC, slots := MS, locals := 33 }
set_option maxHeartbeats 4000000 in
set_option maxRecDepth 100000 in
theorem t_J4_init_da_0 (C0 : hX p s m args c cJ4_init_da8c8 1 RJ4 wsJ4_init_da8c8 D (gt u.2.1) A u.1 u.2.2) (hin : yJ4_init_da8c8.name = "<init>" → meth.name = "<init>") (t0 : Nat) (post : hS → Prop) (hret : ∀ (S' : hS) (pc : Nat) (lv : List (Nat × Value)) (k n : Nat), k ≤ MC → n ≤ MS → post S' → decode cJ4_init_da8c8 pc = .ok (.return_, 1) → gG p l e (rm_J4_init_da MC MS) s m args below meth c Q D A 1 k n (hC X S') pc lv [])  : ∀ (S : hS) (mc ms k n : Nat), k + mc ≤ MC ∧ n + ms ≤ MS → w_J4_init_da u post t0   S mc ms → gG p l e (rm_J4_init_da MC MS) s m args below meth c Q D A 1 k n (hC X S) 0 [(0, .ref t0)] [] := by
  obtain ⟨⟨hx, hb, hml, ho, hts, hK, hA⟩, hR⟩ := id C0
  intro  S mc ms k n hkn hw H locs ls hW hl
  rw [w_J4_init_da] at hw
  refine lv_aload_n hx hb dJ4_init_da8c8_0 rfl (lv_at hl 0 rfl) ?_
  refine lv_bipush (v := 16) hx hb dJ4_init_da8c8_1 (by decide) ?_
  obtain ⟨k2, n3, h4, h5, hw⟩ := hw
  refine h_gov C0 hW (va_runI (As := [.int 16]) (rest := []) ⟨hx, hb, hml, ho, hts⟩ (k_J5_init_d0 (l := l) (u := u) (X := X) (sz := H.size) _ t0 16 S k2 n3 hw) (cwI 1 hts gJ4_init_da8c8_J5_init_d00df rfl rfl rfl (hts _ (List.mem_of_getElem? (i := 3) rfl)) (hts _ (List.mem_of_getElem? (i := 1) rfl)) (hts _ (List.mem_of_getElem? (i := 2) rfl)) rfl (by decide +kernel) ⟨Nat.le_of_ble_eq_true rfl, Nat.le_of_ble_eq_true rfl⟩) ⟨h_blind, (h_pre C0 hW [.ref t0, .int 16])⟩ rfl rfl hl.1 rfl (lv_room (Nat.le_of_ble_eq_true rfl)) dJ4_init_da8c8_3 ⟨by show _ ≤ MC; omega, by show _ ≤ MS; omega⟩) (fun S6 H locs h7 hW => ?_)
  replace hw := h7
  have hkn : (k + k2) + (mc - k2) ≤ MC ∧ (n + n3) + (ms - n3) ≤ MS := by omega
  exact hret S6 _ _ _ _ (by omega) (by omega) hw dJ4_init_da8c8_6 _ _ _ hW hl
set_option maxHeartbeats 4000000 in
set_option maxRecDepth 100000 in
theorem k_J4_init_da {l : Launch} {D : va_G} {u : hU} {X : va_W} {sz : Nat} (post : hS → Prop) (t0 : Nat) (S : hS) (mc ms : Nat) (hw : w_J4_init_da u post t0  S mc ms) : hMv l yJ4_init_da8c8 wsJ4_init_da8c8 (rm_J4_init_da mc ms) D (gt u.2.1) u.1 u.2.2 sz X S [.ref t0] post mc ms := by
  refine hMv_of (cc := cJ4_init_da8c8) (nL := 1) (own := RJ4) (by decide) rfl rfl (Nat.le_of_ble_eq_true rfl) ?_
  intro p e s m args below meth c A Q C0 hin hret
  exact t_J4_init_da_0 C0 hin t0 post hret  S mc ms 0 0 ⟨by omega, by omega⟩ hw
abbrev rm_J5_length_8a : Room := { frames := 0, cells := 0, slots := 0, locals := 0 }
theorem in_J5_length_8a_RJ4 : ∀ w ∈ wsJ40, w ∈ wsJ5_length_8abf5 := fun w hw9 => List.mem_cons_of_mem _ (List.mem_append_right _ hw9)
set_option maxHeartbeats 4000000 in
set_option maxRecDepth 100000 in
theorem t_J5_length_8a_0 (C0 : hX p s m args c cJ5_length_8abf5 1 RJ5 wsJ5_length_8abf5 D (gt u.2.1) A u.1 u.2.2) {S : hS} (t0 : Nat) (post : Int32 → Prop) (hret : ∀ (r : Int32) (S' : hS) (pc : Nat) (lv : List (Nat × Value)) (k n : Nat), k ≤ 0 → n ≤ 0 → (S' = S ∧ post r) → narrow .int (.int r) = .int r → decode cJ5_length_8abf5 pc = .ok (.ireturn, 1) → gG p l e (rm_J5_length_8a) s m args below meth c Q D A 1 k n (hC X S') pc lv [.int r])  : w_J5_length_8a u post t0   S → gG p l e (rm_J5_length_8a) s m args below meth c Q D A 1 0 0 (hC X S) 0 [(0, .ref t0)] [] := by
  obtain ⟨⟨hx, hb, hml, ho, hts, hK, hA⟩, hR⟩ := id C0
  intro  hw H locs ls hW hl
  rw [w_J5_length_8a] at hw
  refine lv_aload_n hx hb dJ5_length_8abf5_0 rfl (lv_at hl 0 rfl) ?_
  obtain ⟨v1, h2, hw⟩ := hw
  refine h_getI C0 hW (T := TJ4) (kf := 3) in_J5_length_8a_RJ4 h2 rfl (by decide) (List.mem_of_getElem? (i := 1) rfl) rfl dJ5_length_8abf5_1 ?_
  exact hret v1 S _ _ 0 0 (Nat.le_refl _) (Nat.le_refl _) ⟨rfl, hw⟩ rfl dJ5_length_8abf5_4 _ _ _ hW hl
set_option maxHeartbeats 4000000 in
set_option maxRecDepth 100000 in
theorem k_J5_length_8a {l : Launch} {D : va_G} {u : hU} {X : va_W} {sz : Nat} (post : Int32 → Prop) (t0 : Nat) (S : hS) (hw : w_J5_length_8a u post t0  S) : hMi l yJ5_length_8abf5 wsJ5_length_8abf5 rm_J5_length_8a D (gt u.2.1) u.1 u.2.2 sz X S [.ref t0] (fun r S' => S' = S ∧ post r) 0 0 := by
  refine hMi_of (cc := cJ5_length_8abf5) (nL := 1) (ty := .int) (own := RJ5) (by decide) rfl rfl (Nat.le_of_ble_eq_true rfl) ?_
  intro p e s m args below meth c A Q C0 hin hret
  exact t_J5_length_8a_0 C0 t0 post hret  hw
abbrev rm_J4_length_8a : Room := { frames := 1, cells := 0, slots := 0, locals := 20 }
set_option maxHeartbeats 4000000 in
set_option maxRecDepth 100000 in
theorem t_J4_length_8a_0 (C0 : hX p s m args c cJ4_length_8abf5 1 RJ4 wsJ4_length_8abf5 D (gt u.2.1) A u.1 u.2.2) {S : hS} (t0 : Nat) (post : Int32 → Prop) (hret : ∀ (r : Int32) (S' : hS) (pc : Nat) (lv : List (Nat × Value)) (k n : Nat), k ≤ 0 → n ≤ 0 → (S' = S ∧ post r) → narrow .int (.int r) = .int r → decode cJ4_length_8abf5 pc = .ok (.ireturn, 1) → gG p l e (rm_J4_length_8a) s m args below meth c Q D A 1 k n (hC X S') pc lv [.int r])  : w_J4_length_8a u post t0   S → gG p l e (rm_J4_length_8a) s m args below meth c Q D A 1 0 0 (hC X S) 0 [(0, .ref t0)] [] := by
  obtain ⟨⟨hx, hb, hml, ho, hts, hK, hA⟩, hR⟩ := id C0
  intro  hw H locs ls hW hl
  rw [w_J4_length_8a] at hw
  refine lv_aload_n hx hb dJ4_length_8abf5_0 rfl (lv_at hl 0 rfl) ?_
  obtain ⟨h2, hw⟩ := hw
  refine h_goi C0 hW (va_runSU (As := []) (rest := []) ((C0.1.2.2.2.2.2.1.1 1 (RJ4, TJ4, 4) rfl).2) ⟨hx, hb, hml, ho, hts⟩ (k_J5_length_8a (l := l) (u := u) (X := X) (sz := H.size) _ t0  S  hw) (va_cwSU 0 hts gJ4_length_8abf5_J5_length_8abf5_s343 rfl rfl rfl (by decide +kernel) ⟨Nat.le_of_ble_eq_true rfl, Nat.le_of_ble_eq_true rfl⟩) ⟨h_blind, (h_recv C0 hW (ci := 1) rfl h2), (h_pre C0 hW [.ref t0])⟩ rfl rfl hl.1 rfl (lv_room (Nat.le_of_ble_eq_true rfl)) dJ4_length_8abf5_1 ⟨Nat.le_refl _, Nat.le_refl _⟩) (fun r1 S3 H locs h4 hW => ?_)
  obtain ⟨h5, hp⟩ := h4
  rw [h5] at hW
  replace hw := hp
  exact hret r1 S _ _ 0 0 (Nat.le_refl _) (Nat.le_refl _) ⟨rfl, hw⟩ rfl dJ4_length_8abf5_4 _ _ _ hW hl
set_option maxHeartbeats 4000000 in
set_option maxRecDepth 100000 in
theorem k_J4_length_8a {l : Launch} {D : va_G} {u : hU} {X : va_W} {sz : Nat} (post : Int32 → Prop) (t0 : Nat) (S : hS) (hw : w_J4_length_8a u post t0  S) : hMi l yJ4_length_8abf5 wsJ4_length_8abf5 rm_J4_length_8a D (gt u.2.1) u.1 u.2.2 sz X S [.ref t0] (fun r S' => S' = S ∧ post r) 0 0 := by
  refine hMi_of (cc := cJ4_length_8abf5) (nL := 1) (ty := .int) (own := RJ4) (by decide) rfl rfl (Nat.le_of_ble_eq_true rfl) ?_
  intro p e s m args below meth c A Q C0 hin hret
  exact t_J4_length_8a_0 C0 t0 post hret  hw
end RAWM
