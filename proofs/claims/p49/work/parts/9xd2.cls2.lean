section RAWM
variable {p : Program} {l : Launch} {e : Env} {s : State} {m : MethodId} {args : Array Value} {below : List Frame} {meth : Method} {c : Code} {Q : State → Prop}
variable {D : va_G} {A : Nat → Prop} {u : hU} {X : va_W} {MC MS : Nat}
abbrev rm_X3_entryCount : Room := { frames := 0, cells := 0, slots := 0, locals := 0 }
theorem in_X3_entryCount_RX3 : ∀ w ∈ wsX30, w ∈ wsX3_entryCount := fun w hw9 => List.mem_cons_of_mem _ (List.mem_append_right _ hw9)
set_option maxHeartbeats 4000000 in
set_option maxRecDepth 100000 in
theorem t_X3_entryCount_0 (C0 : hX p s m args c cX3_entryCount 1 RX3 wsX3_entryCount D (gt u.2.1) A u.1 u.2.2) {S : hS} (t0 : Nat) (post : Int32 → Prop) (hret : ∀ (r : Int32) (S' : hS) (pc : Nat) (lv : List (Nat × Value)) (k n : Nat), k ≤ 0 → n ≤ 0 → (S' = S ∧ post r) → narrow .int (.int r) = .int r → decode cX3_entryCount pc = .ok (.ireturn, 1) → gG p l e (rm_X3_entryCount) s m args below meth c Q D A 1 k n (hC X S') pc lv [.int r])  : w_X3_entryCount u post t0   S → gG p l e (rm_X3_entryCount) s m args below meth c Q D A 1 0 0 (hC X S) 0 [(0, .ref t0)] [] := by
  obtain ⟨⟨hx, hb, hml, ho, hts, hK, hA⟩, hR⟩ := id C0
  intro  hw H locs ls hW hl
  rw [w_X3_entryCount] at hw
  refine lv_aload_n hx hb dX3_entryCount_0 rfl (lv_at hl 0 rfl) ?_
  obtain ⟨v1, h2, hw⟩ := hw
  refine h_getI C0 hW (T := TX3) (kf := 1) in_X3_entryCount_RX3 h2 rfl (by decide) (List.mem_of_getElem? (i := 1) rfl) rfl dX3_entryCount_1 ?_
  exact hret v1 S _ _ 0 0 (Nat.le_refl _) (Nat.le_refl _) ⟨rfl, hw⟩ rfl dX3_entryCount_4 _ _ _ hW hl
set_option maxHeartbeats 4000000 in
set_option maxRecDepth 100000 in
theorem k_X3_entryCount {l : Launch} {D : va_G} {u : hU} {X : va_W} {sz : Nat} (post : Int32 → Prop) (t0 : Nat) (S : hS) (hw : w_X3_entryCount u post t0  S) : hMi l yX3_entryCount wsX3_entryCount rm_X3_entryCount D (gt u.2.1) u.1 u.2.2 sz X S [.ref t0] (fun r S' => S' = S ∧ post r) 0 0 := by
  refine hMi_of (cc := cX3_entryCount) (nL := 1) (ty := .int) (own := RX3) (by decide) rfl rfl (Nat.le_of_ble_eq_true rfl) ?_
  intro p e s m args below meth c A Q C0 hin hret
  exact t_X3_entryCount_0 C0 t0 post hret  hw
abbrev rm_X9_isWithin : Room := { frames := 0, cells := 0, slots := 0, locals := 0 }
set_option maxHeartbeats 4000000 in
set_option maxRecDepth 100000 in
theorem k_X9_isWithin {l : Launch} (post : Int32 → Prop) (z1 : Int32) (z2 : Int32) (hw : q_X9_isWithin post z1 z2) : gMs l yX9_isWithin wsX9_isWithin rm_X9_isWithin [.int z1, .int z2] post := by
  refine gMs_of (cc := cX9_isWithin) (nL := 2) (ty := .boolean) (own := RX9) (by decide) rfl rfl (Nat.le_of_ble_eq_true rfl) ?_
  intro p e s m args below meth c Q hx hb hml ho hts hret ls hl
  rw [q_X9_isWithin] at hw
  refine lv_iload_n hx hb dX9_isWithin_0 rfl (lv_at hl 0 rfl) ?_
  refine lv_if_lt (tgt := 13) hx hb dX9_isWithin_1 (by decide) (fun c1 => ?_) (fun c1 => ?_)
  · replace hw := hw.1 c1
    refine lv_iconst (v := 0) hx hb dX9_isWithin_13 (by decide) ?_
    exact hret 0 _ _ hw (by decide) dX9_isWithin_14
  · replace hw := hw.2 c1
    refine lv_iload_n hx hb dX9_isWithin_4 rfl (lv_at hl 0 rfl) ?_
    refine lv_iload_n hx hb dX9_isWithin_5 rfl (lv_at hl 1 rfl) ?_
    refine lv_icmp_ge (tgt := 13) hx hb dX9_isWithin_6 (by decide) (fun c2 => ?_) (fun c2 => ?_)
    · replace hw := hw.1 c2
      refine lv_iconst (v := 0) hx hb dX9_isWithin_13 (by decide) ?_
      exact hret 0 _ _ hw (by decide) dX9_isWithin_14
    · replace hw := hw.2 c2
      refine lv_iconst (v := 1) hx hb dX9_isWithin_9 (by decide) ?_
      refine lv_goto (tgt := 14) hx hb dX9_isWithin_10 (by decide) ?_
      exact hret 1 _ _ hw (by decide) dX9_isWithin_14
abbrev rm_X3_entryAt : Room := { frames := 1, cells := 0, slots := 0, locals := 21 }
theorem in_X3_entryAt_RX3 : ∀ w ∈ wsX30, w ∈ wsX3_entryAt := fun w hw9 => List.mem_cons_of_mem _ (List.mem_append_right _ hw9)
set_option maxHeartbeats 4000000 in
set_option maxRecDepth 100000 in
theorem t_X3_entryAt_0 (C0 : hX p s m args c cX3_entryAt 2 RX3 wsX3_entryAt D (gt u.2.1) A u.1 u.2.2) {S : hS} (t0 : Nat) (post : Option Nat → Prop) (hret : ∀ (r : Option Nat) (S' : hS) (pc : Nat) (lv : List (Nat × Value)) (k n : Nat), k ≤ 0 → n ≤ 0 → (S' = S ∧ post r) → decode cX3_entryAt pc = .ok (.areturn, 1) → gG p l e (rm_X3_entryAt) s m args below meth c Q D A 2 k n (hC X S') pc lv [va_rf r])  : ∀ (z1 : Int32), w_X3_entryAt u post t0  z1 S → gG p l e (rm_X3_entryAt) s m args below meth c Q D A 2 0 0 (hC X S) 0 [(0, .ref t0), (1, .int z1)] [] := by
  obtain ⟨⟨hx, hb, hml, ho, hts, hK, hA⟩, hR⟩ := id C0
  intro z1 hw H locs ls hW hl
  rw [w_X3_entryAt] at hw
  refine lv_iload_n hx hb dX3_entryAt_0 rfl (lv_at hl 1 rfl) ?_
  refine lv_aload_n hx hb dX3_entryAt_1 rfl (lv_at hl 0 rfl) ?_
  obtain ⟨v1, h2, hw⟩ := hw
  refine h_getI C0 hW (T := TX3) (kf := 1) in_X3_entryAt_RX3 h2 rfl (by decide) (List.mem_of_getElem? (i := 1) rfl) rfl dX3_entryAt_2 ?_
  refine g_callsN (As := [.int z1, .int v1]) (rest := []) (host := RX9) ⟨hx, hb, hml, ho, hts⟩ hl.1 (k_X9_isWithin (l := l) _ z1 v1 hw) ⟨va_cnB 2 hts gX3_entryAt_X9_isWithin_n21 rfl rfl rfl (C0.2.2.2.2 _ (by decide +kernel)) (hts _ (List.mem_of_getElem? (i := 4) rfl)) (by decide +kernel) ⟨Nat.le_of_ble_eq_true rfl, Nat.le_of_ble_eq_true rfl⟩, hts _ (List.mem_of_getElem? (i := 3) rfl), trivial⟩ (Nat.le_of_ble_eq_true rfl) dX3_entryAt_5 rfl ⟨Nat.le_refl _, Nat.le_refl _⟩ (fun r3 hp => ?_)
  replace hw := hp
  refine lv_if_eq (tgt := 26) hx hb dX3_entryAt_8 (by decide) (fun c4 => ?_) (fun c4 => ?_)
  · replace hw := hw.1 c4
    refine lv_null hx hb dX3_entryAt_26 ?_
    exact hret none S _ _ 0 0 (Nat.le_refl _) (Nat.le_refl _) ⟨rfl, hw⟩ dX3_entryAt_27 _ _ _ hW hl
  · replace hw := hw.2 c4
    refine lv_iload_n hx hb dX3_entryAt_11 rfl (lv_at hl 1 rfl) ?_
    refine lv_bipush (v := 40) hx hb dX3_entryAt_12 (by decide) ?_
    refine lv_icmp_ge (tgt := 26) hx hb dX3_entryAt_14 (by decide) (fun c5 => ?_) (fun c5 => ?_)
    · replace hw := hw.1 c5
      refine lv_null hx hb dX3_entryAt_26 ?_
      exact hret none S _ _ 0 0 (Nat.le_refl _) (Nat.le_refl _) ⟨rfl, hw⟩ dX3_entryAt_27 _ _ _ hW hl
    · replace hw := hw.2 c5
      refine lv_aload_n hx hb dX3_entryAt_17 rfl (lv_at hl 0 rfl) ?_
      obtain ⟨o6, h7, hw⟩ := hw
      refine h_getR C0 hW (T := TX3) (kf := 0) in_X3_entryAt_RX3 h7 rfl (by decide) (List.mem_of_getElem? (i := 2) rfl) rfl dX3_entryAt_18 ?_
      refine lv_iload_n hx hb dX3_entryAt_21 rfl (lv_at hl 1 rfl) ?_
      obtain ⟨a8, rfl, hw⟩ := hw
      obtain ⟨N9, g10, h11, h12, hw⟩ := hw
      refine h_qald C0 hW 3 h11 rfl h12 dX3_entryAt_22 (fun o13 eo13 => ?_)
      replace hw := hw o13 eo13
      refine lv_goto (tgt := 27) hx hb dX3_entryAt_23 (by decide) ?_
      exact hret o13 S _ _ 0 0 (Nat.le_refl _) (Nat.le_refl _) ⟨rfl, hw⟩ dX3_entryAt_27 _ _ _ hW hl
set_option maxHeartbeats 4000000 in
set_option maxRecDepth 100000 in
theorem k_X3_entryAt {l : Launch} {D : va_G} {u : hU} {X : va_W} {sz : Nat} (post : Option Nat → Prop) (t0 : Nat) (z1 : Int32) (S : hS) (hw : w_X3_entryAt u post t0 z1 S) : hMq l yX3_entryAt wsX3_entryAt rm_X3_entryAt D (gt u.2.1) u.1 u.2.2 sz X S [.ref t0, .int z1] (fun r S' => S' = S ∧ post r) 0 0 := by
  refine hMq_of (cc := cX3_entryAt) (nL := 2) (ty := (.object "SettingsDrawer$Entry")) (own := RX3) (by decide) rfl rfl (Nat.le_of_ble_eq_true rfl) (Or.inl ⟨_, rfl⟩) ?_
  intro p e s m args below meth c A Q C0 hin hret
  exact t_X3_entryAt_0 C0 t0 post hret z1 hw
abbrev rm_X3_keyAt : Room := { frames := 2, cells := 0, slots := 0, locals := 42 }
theorem in_X3_keyAt_RX0 : ∀ w ∈ wsX00, w ∈ wsX3_keyAt := fun w hw9 => List.mem_cons_of_mem _ (List.mem_append_left _ (List.mem_append_right _ hw9))
set_option maxHeartbeats 4000000 in
set_option maxRecDepth 100000 in
theorem t_X3_keyAt_0 (C0 : hX p s m args c cX3_keyAt 3 RX3 wsX3_keyAt D (gt u.2.1) A u.1 u.2.2) {S : hS} (t0 : Nat) (post : Option Nat → Prop) (hret : ∀ (r : Option Nat) (S' : hS) (pc : Nat) (lv : List (Nat × Value)) (k n : Nat), k ≤ 0 → n ≤ 0 → (S' = S ∧ post r) → decode cX3_keyAt pc = .ok (.areturn, 1) → gG p l e (rm_X3_keyAt) s m args below meth c Q D A 3 k n (hC X S') pc lv [va_rf r])  : ∀ (z1 : Int32), w_X3_keyAt u post t0  z1 S → gG p l e (rm_X3_keyAt) s m args below meth c Q D A 3 0 0 (hC X S) 0 [(0, .ref t0), (1, .int z1)] [] := by
  obtain ⟨⟨hx, hb, hml, ho, hts, hK, hA⟩, hR⟩ := id C0
  intro z1 hw H locs ls hW hl
  rw [w_X3_keyAt] at hw
  refine lv_aload_n hx hb dX3_keyAt_0 rfl (lv_at hl 0 rfl) ?_
  refine lv_iload_n hx hb dX3_keyAt_1 rfl (lv_at hl 1 rfl) ?_
  obtain ⟨h2, hw⟩ := hw
  refine h_goq C0 hW (va_runV (As := [.int z1]) (rest := []) ⟨hx, hb, hml, ho, hts⟩ (k_X3_entryAt (l := l) (u := u) (X := X) (sz := H.size) _ t0 z1 S  hw) (cwV 1 hts gX3_keyAt_X3_entryAt rfl rfl rfl (by decide +kernel) ⟨Nat.le_of_ble_eq_true rfl, Nat.le_of_ble_eq_true rfl⟩) ⟨h_blind, (h_recv C0 hW (ci := 4) rfl h2), (h_pre C0 hW [.ref t0, .int z1])⟩ rfl rfl hl.1 rfl (lv_room (Nat.le_of_ble_eq_true rfl)) dX3_keyAt_2 ⟨Nat.le_refl _, Nat.le_refl _⟩) (fun r1 S3 H locs h4 hW => ?_)
  obtain ⟨h5, hp⟩ := h4
  rw [h5] at hW
  replace hw := hp
  refine lv_astoreV_n (i := 2) (lv' := [(2, va_rf r1), (0, .ref t0), (1, .int z1)]) hx hb dX3_keyAt_5 rfl hl (by decide) rfl (fun ls hl9 => ?_)
  replace hl := hl9
  refine lv_aloadV_n hx hb dX3_keyAt_6 rfl (lv_at hl 0 rfl) ?_
  refine lv_ifnonnullV (tgt := 14) hx hb dX3_keyAt_7 (by decide) (fun a7 c6 => ?_) (fun c6 => ?_)
  · subst c6
    replace hw := hw.2 a7 rfl
    refine lv_aload_n hx hb dX3_keyAt_14 rfl (lv_at hl 0 rfl) ?_
    obtain ⟨o8, h9, hw⟩ := hw
    refine h_getRN C0 hW (host := RX9) (T := TX0) (kf := 0) in_X3_keyAt_RX0 h9 rfl (by decide) (by decide +kernel) rfl dX3_keyAt_15 ?_
    exact hret o8 S _ _ 0 0 (Nat.le_refl _) (Nat.le_refl _) ⟨rfl, hw⟩ dX3_keyAt_18 _ _ _ hW hl
  · subst c6
    replace hw := hw.1 rfl
    refine lv_null hx hb dX3_keyAt_10 ?_
    refine lv_goto (tgt := 18) hx hb dX3_keyAt_11 (by decide) ?_
    exact hret none S _ _ 0 0 (Nat.le_refl _) (Nat.le_refl _) ⟨rfl, hw⟩ dX3_keyAt_18 _ _ _ hW hl
set_option maxHeartbeats 4000000 in
set_option maxRecDepth 100000 in
theorem k_X3_keyAt {l : Launch} {D : va_G} {u : hU} {X : va_W} {sz : Nat} (post : Option Nat → Prop) (t0 : Nat) (z1 : Int32) (S : hS) (hw : w_X3_keyAt u post t0 z1 S) : hMq l yX3_keyAt wsX3_keyAt rm_X3_keyAt D (gt u.2.1) u.1 u.2.2 sz X S [.ref t0, .int z1] (fun r S' => S' = S ∧ post r) 0 0 := by
  refine hMq_of (cc := cX3_keyAt) (nL := 3) (ty := (.object "java/lang/String")) (own := RX3) (by decide) rfl rfl (Nat.le_of_ble_eq_true rfl) (Or.inl ⟨_, rfl⟩) ?_
  intro p e s m args below meth c A Q C0 hin hret
  exact t_X3_keyAt_0 C0 t0 post hret z1 hw
abbrev rm_X9_compareTexts : Room := { frames := 4, cells := 0, slots := 0, locals := 85 }
set_option maxHeartbeats 4000000 in
set_option maxRecDepth 100000 in
theorem t_X9_compareTexts_14 (C0 : hX p s m args c cX9_compareTexts 5 RX9 wsX9_compareTexts D (gt u.2.1) A u.1 u.2.2) {S : hS}  (post : Int32 → Prop) (hret : ∀ (r : Int32) (S' : hS) (pc : Nat) (lv : List (Nat × Value)) (k n : Nat), k ≤ 0 → n ≤ 0 → (S' = S ∧ post r) → narrow .int (.int r) = .int r → decode cX9_compareTexts pc = .ok (.ireturn, 1) → gG p l e (rm_X9_compareTexts) s m args below meth c Q D A 5 k n (hC X S') pc lv [.int r])  : ∀ (nf : Nat) (x0 : Nat) (x1 : Nat) (x2 : Int32) (x3 : Int32), w_X9_compareTexts_14 u post   nf x0 x1 x2 x3 S → gG p l e (rm_X9_compareTexts) s m args below meth c Q D A 5 0 0 (hC X S) 14 [(0, .ref x0), (1, .ref x1), (2, .int x2), (3, .int x3)] [] := by
  obtain ⟨⟨hx, hb, hml, ho, hts, hK, hA⟩, hR⟩ := id C0
  intro nf
  induction nf with
  | zero => intro x0 x1 x2 x3 hw; exact hw.elim
  | succ nf ih =>
    intro x0 x1 x2 x3 hw H locs ls hW hl
    rw [w_X9_compareTexts_14] at hw
    refine lv_iload_n hx hb dX9_compareTexts_14 rfl (lv_at hl 3 rfl) ?_
    refine lv_iload_n hx hb dX9_compareTexts_15 rfl (lv_at hl 2 rfl) ?_
    refine lv_icmp_ge (tgt := 46) hx hb dX9_compareTexts_16 (by decide) (fun c15 => ?_) (fun c15 => ?_)
    · replace hw := hw.1 c15
      refine lv_aload_n hx hb dX9_compareTexts_46 rfl (lv_at hl 0 rfl) ?_
      obtain ⟨h17, hw⟩ := hw
      refine h_goi C0 hW (va_runV (As := []) (rest := []) ⟨hx, hb, hml, ho, hts⟩ (k_J0_length_8a (l := l) (u := u) (X := X) (sz := H.size) _ x0  S  hw) (cwV 0 hts gX9_compareTexts_J0_length_8abf5 rfl rfl rfl (by decide +kernel) ⟨Nat.le_of_ble_eq_true rfl, Nat.le_of_ble_eq_true rfl⟩) ⟨h_blind, (h_recvS C0 hW h17), (h_pre C0 hW [.ref x0])⟩ rfl rfl hl.1 rfl (lv_room (Nat.le_of_ble_eq_true rfl)) dX9_compareTexts_47 ⟨Nat.le_refl _, Nat.le_refl _⟩) (fun r16 S18 H locs h19 hW => ?_)
      obtain ⟨h20, hp⟩ := h19
      rw [h20] at hW
      replace hw := hp
      refine lv_aload_n hx hb dX9_compareTexts_50 rfl (lv_at hl 1 rfl) ?_
      obtain ⟨h22, hw⟩ := hw
      refine h_goi C0 hW (va_runV (As := []) (rest := [.int r16]) ⟨hx, hb, hml, ho, hts⟩ (k_J0_length_8a (l := l) (u := u) (X := X) (sz := H.size) _ x1  S  hw) (cwV 0 hts gX9_compareTexts_J0_length_8abf5 rfl rfl rfl (by decide +kernel) ⟨Nat.le_of_ble_eq_true rfl, Nat.le_of_ble_eq_true rfl⟩) ⟨h_blind, (h_recvS C0 hW h22), (h_pre C0 hW [.ref x1])⟩ rfl rfl hl.1 rfl (lv_room (Nat.le_of_ble_eq_true rfl)) dX9_compareTexts_51 ⟨Nat.le_refl _, Nat.le_refl _⟩) (fun r21 S23 H locs h24 hW => ?_)
      obtain ⟨h25, hp⟩ := h24
      rw [h25] at hW
      replace hw := hp
      refine lv_isub hx hb dX9_compareTexts_54 ?_
      exact hret (r16 - r21) S _ _ 0 0 (Nat.le_refl _) (Nat.le_refl _) ⟨rfl, hw⟩ rfl dX9_compareTexts_55 _ _ _ hW hl
    · replace hw := hw.2 c15
      refine lv_aload_n hx hb dX9_compareTexts_19 rfl (lv_at hl 0 rfl) ?_
      refine lv_iload_n hx hb dX9_compareTexts_20 rfl (lv_at hl 3 rfl) ?_
      obtain ⟨h27, hw⟩ := hw
      refine h_goi C0 hW (va_runV (As := [.int x3]) (rest := []) ⟨hx, hb, hml, ho, hts⟩ (k_J0_charAt_50 (l := l) (u := u) (X := X) (sz := H.size) _ x0 x3 S  hw) (cwV 1 hts gX9_compareTexts_J0_charAt_5068e rfl rfl rfl (by decide +kernel) ⟨Nat.le_of_ble_eq_true rfl, Nat.le_of_ble_eq_true rfl⟩) ⟨h_blind, (h_recvS C0 hW h27), (h_pre C0 hW [.ref x0, .int x3])⟩ rfl rfl hl.1 rfl (lv_room (Nat.le_of_ble_eq_true rfl)) dX9_compareTexts_21 ⟨Nat.le_refl _, Nat.le_refl _⟩) (fun r26 S28 H locs h29 hW => ?_)
      obtain ⟨h30, hp⟩ := h29
      rw [h30] at hW
      replace hw := hp
      refine lv_aload_n hx hb dX9_compareTexts_24 rfl (lv_at hl 1 rfl) ?_
      refine lv_iload_n hx hb dX9_compareTexts_25 rfl (lv_at hl 3 rfl) ?_
      obtain ⟨h32, hw⟩ := hw
      refine h_goi C0 hW (va_runV (As := [.int x3]) (rest := [.int r26]) ⟨hx, hb, hml, ho, hts⟩ (k_J0_charAt_50 (l := l) (u := u) (X := X) (sz := H.size) _ x1 x3 S  hw) (cwV 1 hts gX9_compareTexts_J0_charAt_5068e rfl rfl rfl (by decide +kernel) ⟨Nat.le_of_ble_eq_true rfl, Nat.le_of_ble_eq_true rfl⟩) ⟨h_blind, (h_recvS C0 hW h32), (h_pre C0 hW [.ref x1, .int x3])⟩ rfl rfl hl.1 rfl (lv_room (Nat.le_of_ble_eq_true rfl)) dX9_compareTexts_26 ⟨Nat.le_refl _, Nat.le_refl _⟩) (fun r31 S33 H locs h34 hW => ?_)
      obtain ⟨h35, hp⟩ := h34
      rw [h35] at hW
      replace hw := hp
      refine lv_isub hx hb dX9_compareTexts_29 ?_
      refine lv_topi (fun v36 ev36 => ?_)
      replace hw := hw v36 ev36
      refine lv_istore (lv' := [(4, .int v36), (0, .ref x0), (1, .ref x1), (2, .int x2), (3, .int x3)]) hx hb dX9_compareTexts_30 hl (by decide) rfl (fun ls hl9 => ?_)
      replace hl := hl9
      refine lv_iload hx hb dX9_compareTexts_32 (lv_at hl 0 rfl) ?_
      refine lv_if_eq (tgt := 40) hx hb dX9_compareTexts_34 (by decide) (fun c37 => ?_) (fun c37 => ?_)
      · replace hw := hw.1 c37
        obtain ⟨v38, ev38⟩ : ∃ y : Int32, y = x3 + 1 := ⟨_, rfl⟩
        replace hw := hw v38 ev38
        refine lv_iinc (v := v38) (lv' := [(3, .int v38), (4, .int v36), (0, .ref x0), (1, .ref x1), (2, .int x2)]) hx hb dX9_compareTexts_40 hl (k := 4) rfl (by rw [ev38]; rfl) (by decide) rfl (fun ls hl9 => ?_)
        replace hl := hl9
        refine lv_goto (tgt := 14) hx hb dX9_compareTexts_43 (by decide) ?_
        exact ih x0 x1 x2 v38   hw _ _ _ hW (lv_sub hl [2, 3, 4, 0] rfl)
      · replace hw := hw.2 c37
        refine lv_iload hx hb dX9_compareTexts_37 (lv_at hl 0 rfl) ?_
        exact hret v36 S _ _ 0 0 (Nat.le_refl _) (Nat.le_refl _) ⟨rfl, hw⟩ rfl dX9_compareTexts_39 _ _ _ hW hl
set_option maxHeartbeats 4000000 in
set_option maxRecDepth 100000 in
theorem t_X9_compareTexts_0 (C0 : hX p s m args c cX9_compareTexts 5 RX9 wsX9_compareTexts D (gt u.2.1) A u.1 u.2.2) {S : hS}  (post : Int32 → Prop) (hret : ∀ (r : Int32) (S' : hS) (pc : Nat) (lv : List (Nat × Value)) (k n : Nat), k ≤ 0 → n ≤ 0 → (S' = S ∧ post r) → narrow .int (.int r) = .int r → decode cX9_compareTexts pc = .ok (.ireturn, 1) → gG p l e (rm_X9_compareTexts) s m args below meth c Q D A 5 k n (hC X S') pc lv [.int r])  : ∀ (p1 : Option Nat) (p2 : Option Nat), w_X9_compareTexts u post   p1 p2 S → gG p l e (rm_X9_compareTexts) s m args below meth c Q D A 5 0 0 (hC X S) 0 [(0, va_rf p1), (1, va_rf p2)] [] := by
  obtain ⟨⟨hx, hb, hml, ho, hts, hK, hA⟩, hR⟩ := id C0
  intro p1 p2 hw H locs ls hW hl
  rw [w_X9_compareTexts] at hw
  refine lv_aloadV_n hx hb dX9_compareTexts_0 rfl (lv_at hl 0 rfl) ?_
  obtain ⟨a1, rfl, hw⟩ := hw
  obtain ⟨h3, hw⟩ := hw
  refine h_goi C0 hW (va_runV (As := []) (rest := []) ⟨hx, hb, hml, ho, hts⟩ (k_J0_length_8a (l := l) (u := u) (X := X) (sz := H.size) _ a1  S  hw) (cwV 0 hts gX9_compareTexts_J0_length_8abf5 rfl rfl rfl (by decide +kernel) ⟨Nat.le_of_ble_eq_true rfl, Nat.le_of_ble_eq_true rfl⟩) ⟨h_blind, (h_recvS C0 hW h3), (h_pre C0 hW [.ref a1])⟩ rfl rfl hl.1 rfl (lv_room (Nat.le_of_ble_eq_true rfl)) dX9_compareTexts_1 ⟨Nat.le_refl _, Nat.le_refl _⟩) (fun r2 S4 H locs h5 hW => ?_)
  obtain ⟨h6, hp⟩ := h5
  rw [h6] at hW
  replace hw := hp
  refine lv_aloadV_n hx hb dX9_compareTexts_4 rfl (lv_at hl 1 rfl) ?_
  obtain ⟨a7, rfl, hw⟩ := hw
  obtain ⟨h9, hw⟩ := hw
  refine h_goi C0 hW (va_runV (As := []) (rest := [.int r2]) ⟨hx, hb, hml, ho, hts⟩ (k_J0_length_8a (l := l) (u := u) (X := X) (sz := H.size) _ a7  S  hw) (cwV 0 hts gX9_compareTexts_J0_length_8abf5 rfl rfl rfl (by decide +kernel) ⟨Nat.le_of_ble_eq_true rfl, Nat.le_of_ble_eq_true rfl⟩) ⟨h_blind, (h_recvS C0 hW h9), (h_pre C0 hW [.ref a7])⟩ rfl rfl hl.1 rfl (lv_room (Nat.le_of_ble_eq_true rfl)) dX9_compareTexts_5 ⟨Nat.le_refl _, Nat.le_refl _⟩) (fun r8 S10 H locs h11 hW => ?_)
  obtain ⟨h12, hp⟩ := h11
  rw [h12] at hW
  replace hw := hp
  refine va_mmin hx hb (hml.trans hl.1.symm) ho (hts (.methodLink RX9 272 Lib.Math.min.name) (List.mem_of_getElem? (i := 1) rfl)) (hts _ (List.mem_of_getElem? (i := 2) rfl)) (hts _ (List.mem_of_getElem? (i := 3) rfl)) (hts _ (List.mem_of_getElem? (i := 4) rfl)) (Nat.le_of_ble_eq_true rfl) (Nat.le_of_ble_eq_true rfl) (Nat.zero_le _) (Nat.zero_le _) dX9_compareTexts_8 ?_
  refine lv_topi (fun v13 ev13 => ?_)
  replace hw := hw v13 ev13
  refine lv_istore_n (lv' := [(2, .int v13), (0, .ref a1), (1, .ref a7)]) hx hb dX9_compareTexts_11 rfl hl (by decide) rfl (fun ls hl9 => ?_)
  replace hl := hl9
  refine lv_iconst (v := 0) hx hb dX9_compareTexts_12 (by decide) ?_
  refine lv_istore_n (lv' := [(3, .int 0), (2, .int v13), (0, .ref a1), (1, .ref a7)]) hx hb dX9_compareTexts_13 rfl hl (by decide) rfl (fun ls hl9 => ?_)
  replace hl := hl9
  obtain ⟨n14, hw⟩ := hw
  exact t_X9_compareTexts_14 C0  post hret  n14 a1 a7 v13 0   hw _ _ _ hW (lv_sub hl [2, 3, 1, 0] rfl)
set_option maxHeartbeats 4000000 in
set_option maxRecDepth 100000 in
theorem k_X9_compareTexts {l : Launch} {D : va_G} {u : hU} {X : va_W} {sz : Nat} (post : Int32 → Prop) (p1 : Option Nat) (p2 : Option Nat) (S : hS) (hw : w_X9_compareTexts u post  p1 p2 S) : hMi l yX9_compareTexts wsX9_compareTexts rm_X9_compareTexts D (gt u.2.1) u.1 u.2.2 sz X S [va_rf p1, va_rf p2] (fun r S' => S' = S ∧ post r) 0 0 := by
  refine hMi_of (cc := cX9_compareTexts) (nL := 5) (ty := .int) (own := RX9) (by decide) rfl rfl (by cases p1 <;> cases p2 <;> exact Nat.le_of_ble_eq_true rfl) ?_
  intro p e s m args below meth c A Q C0 hin hret
  have hfin := t_X9_compareTexts_0 C0  post hret p1 p2 hw
  intro H locs ls hW hl
  refine hfin H locs ls hW ?_
  cases p1 <;> cases p2 <;> exact hl
abbrev rm_X3_placeFrom : Room := { frames := 5, cells := 0, slots := 0, locals := 109 }
theorem in_X3_placeFrom_RX0 : ∀ w ∈ wsX00, w ∈ wsX3_placeFrom := fun w hw9 => List.mem_cons_of_mem _ (List.mem_append_left _ (List.mem_append_right _ hw9))
theorem in_X3_placeFrom_RX3 : ∀ w ∈ wsX30, w ∈ wsX3_placeFrom := fun w hw9 => List.mem_cons_of_mem _ (List.mem_append_left _ (List.mem_append_left _ (List.mem_append_right _ hw9)))
set_option maxHeartbeats 4000000 in
set_option maxRecDepth 100000 in
theorem t_X3_placeFrom_2 (C0 : hX p s m args c cX3_placeFrom 4 RX3 wsX3_placeFrom D (gt u.2.1) A u.1 u.2.2) {S : hS} (t0 : Nat) (post : Int32 → Prop) (hret : ∀ (r : Int32) (S' : hS) (pc : Nat) (lv : List (Nat × Value)) (k n : Nat), k ≤ 0 → n ≤ 0 → (S' = S ∧ post r) → narrow .int (.int r) = .int r → decode cX3_placeFrom pc = .ok (.ireturn, 1) → gG p l e (rm_X3_placeFrom) s m args below meth c Q D A 4 k n (hC X S') pc lv [.int r])  : ∀ (nf : Nat) (x1 : Option Nat) (x2 : Int32), w_X3_placeFrom_2 u post t0  nf x1 x2 S → gG p l e (rm_X3_placeFrom) s m args below meth c Q D A 4 0 0 (hC X S) 2 [(0, .ref t0), (1, va_rf x1), (2, .int x2)] [] := by
  obtain ⟨⟨hx, hb, hml, ho, hts, hK, hA⟩, hR⟩ := id C0
  intro nf
  induction nf with
  | zero => intro x1 x2 hw; exact hw.elim
  | succ nf ih =>
    intro x1 x2 hw H locs ls hW hl
    rw [w_X3_placeFrom_2] at hw
    refine lv_iload_n hx hb dX3_placeFrom_2 rfl (lv_at hl 2 rfl) ?_
    refine lv_aload_n hx hb dX3_placeFrom_3 rfl (lv_at hl 0 rfl) ?_
    obtain ⟨v2, h3, hw⟩ := hw
    refine h_getI C0 hW (T := TX3) (kf := 1) in_X3_placeFrom_RX3 h3 rfl (by decide) (List.mem_of_getElem? (i := 1) rfl) rfl dX3_placeFrom_4 ?_
    refine lv_icmp_ge (tgt := 39) hx hb dX3_placeFrom_7 (by decide) (fun c4 => ?_) (fun c4 => ?_)
    · replace hw := hw.1 c4
      refine lv_aload_n hx hb dX3_placeFrom_39 rfl (lv_at hl 0 rfl) ?_
      obtain ⟨v5, h6, hw⟩ := hw
      refine h_getI C0 hW (T := TX3) (kf := 1) in_X3_placeFrom_RX3 h6 rfl (by decide) (List.mem_of_getElem? (i := 1) rfl) rfl dX3_placeFrom_40 ?_
      exact hret v5 S _ _ 0 0 (Nat.le_refl _) (Nat.le_refl _) ⟨rfl, hw⟩ rfl dX3_placeFrom_43 _ _ _ hW hl
    · replace hw := hw.2 c4
      refine lv_aload_n hx hb dX3_placeFrom_10 rfl (lv_at hl 0 rfl) ?_
      refine lv_iload_n hx hb dX3_placeFrom_11 rfl (lv_at hl 2 rfl) ?_
      obtain ⟨h8, hw⟩ := hw
      refine h_goq C0 hW (va_runV (As := [.int x2]) (rest := []) ⟨hx, hb, hml, ho, hts⟩ (k_X3_entryAt (l := l) (u := u) (X := X) (sz := H.size) _ t0 x2 S  hw) (cwV 1 hts gX3_placeFrom_X3_entryAt rfl rfl rfl (by decide +kernel) ⟨Nat.le_of_ble_eq_true rfl, Nat.le_of_ble_eq_true rfl⟩) ⟨h_blind, (h_recv C0 hW (ci := 4) rfl h8), (h_pre C0 hW [.ref t0, .int x2])⟩ rfl rfl hl.1 rfl (lv_room (Nat.le_of_ble_eq_true rfl)) dX3_placeFrom_12 ⟨Nat.le_refl _, Nat.le_refl _⟩) (fun r7 S9 H locs h10 hW => ?_)
      obtain ⟨h11, hp⟩ := h10
      rw [h11] at hW
      replace hw := hp
      refine lv_astoreV_n (i := 3) (lv' := [(3, va_rf r7), (0, .ref t0), (1, va_rf x1), (2, .int x2)]) hx hb dX3_placeFrom_15 rfl hl (by decide) rfl (fun ls hl9 => ?_)
      replace hl := hl9
      refine lv_aloadV_n hx hb dX3_placeFrom_16 rfl (lv_at hl 0 rfl) ?_
      refine lv_ifnullV (tgt := 33) hx hb dX3_placeFrom_17 (by decide) (fun c12 => ?_) (fun a13 c12 => ?_)
      · subst c12
        replace hw := hw.1 rfl
        obtain ⟨v14, ev14⟩ : ∃ y : Int32, y = x2 + 1 := ⟨_, rfl⟩
        replace hw := hw v14 ev14
        refine lv_iinc (v := v14) (lv' := [(2, .int v14), (3, .null), (0, .ref t0), (1, va_rf x1)]) hx hb dX3_placeFrom_33 hl (k := 3) rfl (by rw [ev14]; rfl) (by decide) (by show (2, .int v14) :: List.filter (fun q : Nat × Value => !(q.1 == 2) && !(q.1 + 1 == 2 && q.2.category == 2)) [(3, .null), (0, .ref t0), (1, va_rf x1), (2, .int x2)] = [(2, .int v14), (3, .null), (0, .ref t0), (1, va_rf x1)]; simp [va_rf_cat, va_c_ref, va_c_int, va_c_null]) (fun ls hl9 => ?_)
        replace hl := hl9
        refine lv_goto (tgt := 2) hx hb dX3_placeFrom_36 (by decide) ?_
        exact ih x1 v14   hw _ _ _ hW (lv_sub hl [2, 3, 0] rfl)
      · subst c12
        replace hw := hw.2 a13 rfl
        refine lv_aload_n hx hb dX3_placeFrom_20 rfl (lv_at hl 0 rfl) ?_
        obtain ⟨o15, h16, hw⟩ := hw
        refine h_getRN C0 hW (host := RX9) (T := TX0) (kf := 0) in_X3_placeFrom_RX0 h16 rfl (by decide) (by decide +kernel) rfl dX3_placeFrom_21 ?_
        refine lv_aloadV_n hx hb dX3_placeFrom_24 rfl (lv_at hl 2 rfl) ?_
        refine h_goi C0 hW (va_runSN (As := [va_rf o15, va_rf x1]) (rest := []) (host := RX9) ⟨hx, hb, hml, ho, hts⟩ (k_X9_compareTexts (l := l) (u := u) (X := X) (sz := H.size) _ o15 x1 S  hw) ⟨va_cnB 2 hts gX3_placeFrom_X9_compareTexts_n33 rfl rfl rfl (C0.2.2.2.2 _ (by decide +kernel)) (hts _ (List.mem_of_getElem? (i := 9) rfl)) (by decide +kernel) ⟨Nat.le_of_ble_eq_true rfl, Nat.le_of_ble_eq_true rfl⟩, hts _ (List.mem_of_getElem? (i := 11) rfl), trivial⟩ ⟨h_blind, (h_pre C0 hW [va_rf o15, va_rf x1])⟩ rfl rfl hl.1 rfl (lv_room (Nat.le_of_ble_eq_true rfl)) dX3_placeFrom_25 ⟨Nat.le_refl _, Nat.le_refl _⟩) (fun r17 S18 H locs h19 hW => ?_)
        obtain ⟨h20, hp⟩ := h19
        rw [h20] at hW
        replace hw := hp
        refine lv_if_lt (tgt := 33) hx hb dX3_placeFrom_28 (by decide) (fun c21 => ?_) (fun c21 => ?_)
        · replace hw := hw.1 c21
          obtain ⟨v22, ev22⟩ : ∃ y : Int32, y = x2 + 1 := ⟨_, rfl⟩
          replace hw := hw v22 ev22
          refine lv_iinc (v := v22) (lv' := [(2, .int v22), (3, .ref a13), (0, .ref t0), (1, va_rf x1)]) hx hb dX3_placeFrom_33 hl (k := 3) rfl (by rw [ev22]; rfl) (by decide) (by show (2, .int v22) :: List.filter (fun q : Nat × Value => !(q.1 == 2) && !(q.1 + 1 == 2 && q.2.category == 2)) [(3, .ref a13), (0, .ref t0), (1, va_rf x1), (2, .int x2)] = [(2, .int v22), (3, .ref a13), (0, .ref t0), (1, va_rf x1)]; simp [va_rf_cat, va_c_ref, va_c_int, va_c_null]) (fun ls hl9 => ?_)
          replace hl := hl9
          refine lv_goto (tgt := 2) hx hb dX3_placeFrom_36 (by decide) ?_
          exact ih x1 v22   hw _ _ _ hW (lv_sub hl [2, 3, 0] rfl)
        · replace hw := hw.2 c21
          refine lv_iload_n hx hb dX3_placeFrom_31 rfl (lv_at hl 3 rfl) ?_
          exact hret x2 S _ _ 0 0 (Nat.le_refl _) (Nat.le_refl _) ⟨rfl, hw⟩ rfl dX3_placeFrom_32 _ _ _ hW hl
set_option maxHeartbeats 4000000 in
set_option maxRecDepth 100000 in
theorem t_X3_placeFrom_0 (C0 : hX p s m args c cX3_placeFrom 4 RX3 wsX3_placeFrom D (gt u.2.1) A u.1 u.2.2) {S : hS} (t0 : Nat) (post : Int32 → Prop) (hret : ∀ (r : Int32) (S' : hS) (pc : Nat) (lv : List (Nat × Value)) (k n : Nat), k ≤ 0 → n ≤ 0 → (S' = S ∧ post r) → narrow .int (.int r) = .int r → decode cX3_placeFrom pc = .ok (.ireturn, 1) → gG p l e (rm_X3_placeFrom) s m args below meth c Q D A 4 k n (hC X S') pc lv [.int r])  : ∀ (p1 : Option Nat), w_X3_placeFrom u post t0  p1 S → gG p l e (rm_X3_placeFrom) s m args below meth c Q D A 4 0 0 (hC X S) 0 [(0, .ref t0), (1, va_rf p1)] [] := by
  obtain ⟨⟨hx, hb, hml, ho, hts, hK, hA⟩, hR⟩ := id C0
  intro p1 hw H locs ls hW hl
  rw [w_X3_placeFrom] at hw
  refine lv_iconst (v := 0) hx hb dX3_placeFrom_0 (by decide) ?_
  refine lv_istore_n (lv' := [(2, .int 0), (0, .ref t0), (1, va_rf p1)]) hx hb dX3_placeFrom_1 rfl hl (by decide) (by show (2, .int 0) :: List.filter (fun q : Nat × Value => !(q.1 == 2) && !(q.1 + 1 == 2 && q.2.category == 2)) [(0, .ref t0), (1, va_rf p1)] = [(2, .int 0), (0, .ref t0), (1, va_rf p1)]; simp [va_rf_cat, va_c_ref, va_c_int, va_c_null]) (fun ls hl9 => ?_)
  replace hl := hl9
  obtain ⟨n1, hw⟩ := hw
  exact t_X3_placeFrom_2 C0 t0 post hret  n1 p1 0   hw _ _ _ hW (lv_sub hl [1, 2, 0] rfl)
set_option maxHeartbeats 4000000 in
set_option maxRecDepth 100000 in
theorem k_X3_placeFrom {l : Launch} {D : va_G} {u : hU} {X : va_W} {sz : Nat} (post : Int32 → Prop) (t0 : Nat) (p1 : Option Nat) (S : hS) (hw : w_X3_placeFrom u post t0 p1 S) : hMi l yX3_placeFrom wsX3_placeFrom rm_X3_placeFrom D (gt u.2.1) u.1 u.2.2 sz X S [.ref t0, va_rf p1] (fun r S' => S' = S ∧ post r) 0 0 := by
  refine hMi_of (cc := cX3_placeFrom) (nL := 4) (ty := .int) (own := RX3) (by decide) rfl rfl (by cases p1 <;> exact Nat.le_of_ble_eq_true rfl) ?_
  intro p e s m args below meth c A Q C0 hin hret
  have hfin := t_X3_placeFrom_0 C0 t0 post hret p1 hw
  intro H locs ls hW hl
  refine hfin H locs ls hW ?_
  cases p1 <;> exact hl
abbrev rm_X3_valueOf : Room := { frames := 6, cells := 0, slots := 0, locals := 132 }
theorem in_X3_valueOf_RX0 : ∀ w ∈ wsX00, w ∈ wsX3_valueOf := fun w hw9 => List.mem_cons_of_mem _ (List.mem_append_left _ (List.mem_append_left _ (List.mem_append_right _ hw9)))
set_option maxHeartbeats 4000000 in
set_option maxRecDepth 100000 in
theorem t_X3_valueOf_0 (C0 : hX p s m args c cX3_valueOf 3 RX3 wsX3_valueOf D (gt u.2.1) A u.1 u.2.2) {S : hS} (t0 : Nat) (post : Option Nat → Prop) (hret : ∀ (r : Option Nat) (S' : hS) (pc : Nat) (lv : List (Nat × Value)) (k n : Nat), k ≤ 0 → n ≤ 0 → (S' = S ∧ post r) → decode cX3_valueOf pc = .ok (.areturn, 1) → gG p l e (rm_X3_valueOf) s m args below meth c Q D A 3 k n (hC X S') pc lv [va_rf r])  : ∀ (p1 : Option Nat), w_X3_valueOf u post t0  p1 S → gG p l e (rm_X3_valueOf) s m args below meth c Q D A 3 0 0 (hC X S) 0 [(0, .ref t0), (1, va_rf p1)] [] := by
  obtain ⟨⟨hx, hb, hml, ho, hts, hK, hA⟩, hR⟩ := id C0
  intro p1 hw H locs ls hW hl
  rw [w_X3_valueOf] at hw
  refine lv_aload_n hx hb dX3_valueOf_0 rfl (lv_at hl 0 rfl) ?_
  refine lv_aload_n hx hb dX3_valueOf_1 rfl (lv_at hl 0 rfl) ?_
  refine lv_aloadV_n hx hb dX3_valueOf_2 rfl (lv_at hl 1 rfl) ?_
  obtain ⟨h2, hw⟩ := hw
  refine h_goi C0 hW (va_runV (As := [va_rf p1]) (rest := [.ref t0]) ⟨hx, hb, hml, ho, hts⟩ (k_X3_placeFrom (l := l) (u := u) (X := X) (sz := H.size) _ t0 p1 S  hw) (cwV 1 hts gX3_valueOf_X3_placeFrom rfl rfl rfl (by decide +kernel) ⟨Nat.le_of_ble_eq_true rfl, Nat.le_of_ble_eq_true rfl⟩) ⟨h_blind, (h_recv C0 hW (ci := 4) rfl h2), (h_pre C0 hW [.ref t0, va_rf p1])⟩ rfl rfl hl.1 rfl (lv_room (Nat.le_of_ble_eq_true rfl)) dX3_valueOf_3 ⟨Nat.le_refl _, Nat.le_refl _⟩) (fun r1 S3 H locs h4 hW => ?_)
  obtain ⟨h5, hp⟩ := h4
  rw [h5] at hW
  replace hw := hp
  obtain ⟨h7, hw⟩ := hw
  refine h_goq C0 hW (va_runV (As := [.int r1]) (rest := []) ⟨hx, hb, hml, ho, hts⟩ (k_X3_entryAt (l := l) (u := u) (X := X) (sz := H.size) _ t0 r1 S  hw) (cwV 1 hts gX3_valueOf_X3_entryAt rfl rfl rfl (by decide +kernel) ⟨Nat.le_of_ble_eq_true rfl, Nat.le_of_ble_eq_true rfl⟩) ⟨h_blind, (h_recv C0 hW (ci := 4) rfl h7), (h_pre C0 hW [.ref t0, .int r1])⟩ rfl rfl hl.1 rfl (lv_room (Nat.le_of_ble_eq_true rfl)) dX3_valueOf_6 ⟨Nat.le_refl _, Nat.le_refl _⟩) (fun r6 S8 H locs h9 hW => ?_)
  obtain ⟨h10, hp⟩ := h9
  rw [h10] at hW
  replace hw := hp
  refine lv_astoreV_n (i := 2) (lv' := [(2, va_rf r6), (0, .ref t0), (1, va_rf p1)]) hx hb dX3_valueOf_9 rfl hl (by decide) (by show (2, va_rf r6) :: List.filter (fun q : Nat × Value => !(q.1 == 2) && !(q.1 + 1 == 2 && q.2.category == 2)) [(0, .ref t0), (1, va_rf p1)] = [(2, va_rf r6), (0, .ref t0), (1, va_rf p1)]; simp [va_rf_cat, va_c_ref, va_c_int, va_c_null]) (fun ls hl9 => ?_)
  replace hl := hl9
  refine lv_aloadV_n hx hb dX3_valueOf_10 rfl (lv_at hl 0 rfl) ?_
  refine lv_ifnullV (tgt := 32) hx hb dX3_valueOf_11 (by decide) (fun c11 => ?_) (fun a12 c11 => ?_)
  · subst c11
    replace hw := hw.1 rfl
    refine lv_null hx hb dX3_valueOf_32 ?_
    exact hret none S _ _ 0 0 (Nat.le_refl _) (Nat.le_refl _) ⟨rfl, hw⟩ dX3_valueOf_33 _ _ _ hW hl
  · subst c11
    replace hw := hw.2 a12 rfl
    refine lv_aload_n hx hb dX3_valueOf_14 rfl (lv_at hl 0 rfl) ?_
    obtain ⟨o13, h14, hw⟩ := hw
    refine h_getRN C0 hW (host := RX9) (T := TX0) (kf := 0) in_X3_valueOf_RX0 h14 rfl (by decide) (by decide +kernel) rfl dX3_valueOf_15 ?_
    refine lv_aloadV_n hx hb dX3_valueOf_18 rfl (lv_at hl 2 rfl) ?_
    obtain ⟨a15, rfl, hw⟩ := hw
    obtain ⟨h17, hw⟩ := hw
    refine h_goi C0 hW (va_runV (As := [va_rf p1]) (rest := []) ⟨hx, hb, hml, ho, hts⟩ (k_J0_equals_9e (l := l) (u := u) (X := X) (sz := H.size) _ a15 p1 S  hw) (cwV 1 hts gX3_valueOf_J0_equals_9ea2d rfl rfl rfl (by decide +kernel) ⟨Nat.le_of_ble_eq_true rfl, Nat.le_of_ble_eq_true rfl⟩) ⟨h_blind, (h_recvS C0 hW h17), (h_pre C0 hW [.ref a15, va_rf p1])⟩ rfl rfl hl.1 rfl (lv_room (Nat.le_of_ble_eq_true rfl)) dX3_valueOf_19 ⟨Nat.le_refl _, Nat.le_refl _⟩) (fun r16 S18 H locs h19 hW => ?_)
    obtain ⟨h20, hp⟩ := h19
    rw [h20] at hW
    replace hw := hp
    refine lv_if_eq (tgt := 32) hx hb dX3_valueOf_22 (by decide) (fun c21 => ?_) (fun c21 => ?_)
    · replace hw := hw.1 c21
      refine lv_null hx hb dX3_valueOf_32 ?_
      exact hret none S _ _ 0 0 (Nat.le_refl _) (Nat.le_refl _) ⟨rfl, hw⟩ dX3_valueOf_33 _ _ _ hW hl
    · replace hw := hw.2 c21
      refine lv_aload_n hx hb dX3_valueOf_25 rfl (lv_at hl 0 rfl) ?_
      obtain ⟨o22, h23, hw⟩ := hw
      refine h_getRN C0 hW (host := RX9) (T := TX0) (kf := 1) in_X3_valueOf_RX0 h23 rfl (by decide) (by decide +kernel) rfl dX3_valueOf_26 ?_
      refine lv_goto (tgt := 33) hx hb dX3_valueOf_29 (by decide) ?_
      exact hret o22 S _ _ 0 0 (Nat.le_refl _) (Nat.le_refl _) ⟨rfl, hw⟩ dX3_valueOf_33 _ _ _ hW hl
set_option maxHeartbeats 4000000 in
set_option maxRecDepth 100000 in
theorem k_X3_valueOf {l : Launch} {D : va_G} {u : hU} {X : va_W} {sz : Nat} (post : Option Nat → Prop) (t0 : Nat) (p1 : Option Nat) (S : hS) (hw : w_X3_valueOf u post t0 p1 S) : hMq l yX3_valueOf wsX3_valueOf rm_X3_valueOf D (gt u.2.1) u.1 u.2.2 sz X S [.ref t0, va_rf p1] (fun r S' => S' = S ∧ post r) 0 0 := by
  refine hMq_of (cc := cX3_valueOf) (nL := 3) (ty := (.object "java/lang/String")) (own := RX3) (by decide) rfl rfl (by cases p1 <;> exact Nat.le_of_ble_eq_true rfl) (Or.inl ⟨_, rfl⟩) ?_
  intro p e s m args below meth c A Q C0 hin hret
  have hfin := t_X3_valueOf_0 C0 t0 post hret p1 hw
  intro H locs ls hW hl
  refine hfin H locs ls hW ?_
  cases p1 <;> exact hl
abbrev rm_X3_put (MC MS : Nat) : Room := { frames := 6, cells := MC, slots := MS, locals := 132 }
theorem in_X3_put_RX0 : ∀ w ∈ wsX00, w ∈ wsX3_put := fun w hw9 => List.mem_cons_of_mem _ (List.mem_append_left _ (List.mem_append_left _ (List.mem_append_right _ hw9)))
theorem in_X3_put_RX3 : ∀ w ∈ wsX30, w ∈ wsX3_put := fun w hw9 => List.mem_cons_of_mem _ (List.mem_append_left _ (List.mem_append_right _ hw9))
set_option maxHeartbeats 4000000 in
set_option maxRecDepth 100000 in
theorem t_X3_put_85 (C0 : hX p s m args c cX3_put 6 RX3 wsX3_put D (gt u.2.1) A u.1 u.2.2) (t0 : Nat) (post : Int32 → hS → Prop) (hret : ∀ (r : Int32) (S' : hS) (pc : Nat) (lv : List (Nat × Value)) (k n : Nat), k ≤ MC → n ≤ MS → post r S' → narrow .boolean (.int r) = .int r → decode cX3_put pc = .ok (.ireturn, 1) → gG p l e (rm_X3_put MC MS) s m args below meth c Q D A 6 k n (hC X S') pc lv [.int r])  : ∀ (x1 : Option Nat) (x2 : Option Nat) (x3 : Int32) (S : hS) (mc ms k n : Nat), k + mc ≤ MC ∧ n + ms ≤ MS → w_X3_put_85 u post t0  x1 x2 x3 S mc ms → gG p l e (rm_X3_put MC MS) s m args below meth c Q D A 6 k n (hC X S) 85 [(0, .ref t0), (1, va_rf x1), (2, va_rf x2), (3, .int x3)] [] := by
  obtain ⟨⟨hx, hb, hml, ho, hts, hK, hA⟩, hR⟩ := id C0
  intro x1 x2 x3 S mc ms k n hkn hw H locs ls hW hl
  rw [w_X3_put_85] at hw
  refine lv_aload_n hx hb dX3_put_85 rfl (lv_at hl 0 rfl) ?_
  obtain ⟨o54, h55, hw⟩ := hw
  refine h_getR C0 hW (T := TX3) (kf := 0) in_X3_put_RX3 h55 rfl (by decide) (List.mem_of_getElem? (i := 2) rfl) rfl dX3_put_86 ?_
  refine lv_iload_n hx hb dX3_put_89 rfl (lv_at hl 3 rfl) ?_
  obtain ⟨h59, h60, hw⟩ := hw
  refine h_new C0 hW (ci := 2) (fs := [.null, .null]) in_X3_put_RX0 rfl tyX0 tyX0_ok (List.mem_of_getElem? (i := 3) rfl) (List.mem_of_getElem? (i := 4) rfl) (List.mem_of_getElem? (i := 5) rfl) (fun j hj => by rcases (show j = 0 ∨ j = 1 by omega) with rfl | rfl <;> rfl) (by show _ ≤ MC; omega) (by show _ ≤ MS; omega) dX3_put_90 (fun q56 H h57 hW => ?_)
  obtain ⟨S58, eS58⟩ : ∃ z : hS, z = adS S q56 (.inr (2, [.null, .null])) := ⟨_, rfl⟩
  rw [← eS58] at hW
  replace hw := hw q56 S58 h57 eS58
  have hkn : (k + 1) + (mc - 1) ≤ MC ∧ (n + 2) + (ms - 2) ≤ MS := by omega
  refine lv_dup hx hb dX3_put_93 rfl ?_
  refine lv_aloadV_n hx hb dX3_put_94 rfl (lv_at hl 1 rfl) ?_
  refine lv_aloadV_n hx hb dX3_put_95 rfl (lv_at hl 2 rfl) ?_
  refine h_gov C0 hW (va_runI (As := [va_rf x1, va_rf x2]) (rest := [.ref q56, .int x3, va_rf o54]) ⟨hx, hb, hml, ho, hts⟩ (k_X0_init (l := l) (u := u) (X := X) (sz := H.size) _ q56 x1 x2 S58  hw) (cwI 2 hts gX3_put_X0_init rfl rfl rfl (hts _ (List.mem_of_getElem? (i := 5) rfl)) (hts _ (List.mem_of_getElem? (i := 81) rfl)) (hts _ (List.mem_of_getElem? (i := 82) rfl)) rfl (by decide +kernel) ⟨Nat.le_of_ble_eq_true rfl, Nat.le_of_ble_eq_true rfl⟩) ⟨h_blind, (h_pre C0 hW [.ref q56, va_rf x1, va_rf x2])⟩ rfl rfl hl.1 rfl (lv_room (by simp [va_rf_cat, va_c_ref, va_c_int, va_c_null])) dX3_put_96 ⟨by show _ ≤ MC; omega, by show _ ≤ MS; omega⟩) (fun S62 H locs h63 hW => ?_)
  replace hw := h63
  obtain ⟨a64, rfl, hw⟩ := hw
  obtain ⟨N65, g66, h67, h68, h70, hw⟩ := hw
  refine h_qast C0 hW 3 2 h67 rfl h70 rfl h68 dX3_put_99 (fun H locs hW => ?_)
  obtain ⟨S69, eS69⟩ : ∃ z : hS, z = upS S62 a64 (.inl (u.2.1 3, N65, .inr (.inr (.inr (.inr (va_up g66 (x3 : Int32).toNatClampNeg (some q56))))))) := ⟨_, rfl⟩
  rw [← eS69] at hW
  replace hw := hw S69 eS69
  refine lv_iconst (v := 1) hx hb dX3_put_100 (by decide) ?_
  exact hret 1 S69 _ _ _ _ (by omega) (by omega) hw (by decide) dX3_put_101 _ _ _ hW hl
set_option maxHeartbeats 4000000 in
set_option maxRecDepth 100000 in
theorem t_X3_put_47 (C0 : hX p s m args c cX3_put 6 RX3 wsX3_put D (gt u.2.1) A u.1 u.2.2) (t0 : Nat) (post : Int32 → hS → Prop) (hret : ∀ (r : Int32) (S' : hS) (pc : Nat) (lv : List (Nat × Value)) (k n : Nat), k ≤ MC → n ≤ MS → post r S' → narrow .boolean (.int r) = .int r → decode cX3_put pc = .ok (.ireturn, 1) → gG p l e (rm_X3_put MC MS) s m args below meth c Q D A 6 k n (hC X S') pc lv [.int r])  : ∀ (nf : Nat) (x1 : Option Nat) (x2 : Option Nat) (x3 : Int32) (x5 : Int32) (S : hS) (mc ms k n : Nat), k + mc ≤ MC ∧ n + ms ≤ MS → w_X3_put_47 u post t0  nf x1 x2 x3 x5 S mc ms → gG p l e (rm_X3_put MC MS) s m args below meth c Q D A 6 k n (hC X S) 47 [(0, .ref t0), (1, va_rf x1), (2, va_rf x2), (3, .int x3), (5, .int x5)] [] := by
  obtain ⟨⟨hx, hb, hml, ho, hts, hK, hA⟩, hR⟩ := id C0
  intro nf
  induction nf with
  | zero => intro x1 x2 x3 x5 S mc ms k n hkn hw; exact hw.elim
  | succ nf ih =>
    intro x1 x2 x3 x5 S mc ms k n hkn hw H locs ls hW hl
    rw [w_X3_put_47] at hw
    refine lv_iload hx hb dX3_put_47 (lv_at hl 4 rfl) ?_
    refine lv_iload_n hx hb dX3_put_49 rfl (lv_at hl 3 rfl) ?_
    refine lv_icmp_le (tgt := 75) hx hb dX3_put_50 (by decide) (fun c28 => ?_) (fun c28 => ?_)
    · replace hw := hw.1 c28
      refine lv_aload_n hx hb dX3_put_75 rfl (lv_at hl 0 rfl) ?_
      refine lv_dup hx hb dX3_put_76 rfl ?_
      obtain ⟨v29, h30, hw⟩ := hw
      refine h_getI C0 hW (T := TX3) (kf := 1) in_X3_put_RX3 h30 rfl (by decide) (List.mem_of_getElem? (i := 1) rfl) rfl dX3_put_77 ?_
      refine lv_iconst (v := 1) hx hb dX3_put_80 (by decide) ?_
      refine lv_iadd hx hb dX3_put_81 ?_
      obtain ⟨fs31, h32, h33, hw⟩ := hw
      refine h_put C0 hW (T := TX3) (kf := 1) (ty := .int) in_X3_put_RX3 h32 rfl (by decide) h33 tyX3 tyX3_ok nmX3 (List.mem_of_getElem? (i := 1) rfl) rfl (Or.inl rfl) (by decide +kernel) rfl rfl dX3_put_82 rfl (fun H locs hW => ?_)
      obtain ⟨S34, eS34⟩ : ∃ z : hS, z = upS S t0 (.inr (4, fs31.set 1 (.int (v29 + 1)))) := ⟨_, rfl⟩
      rw [← eS34] at hW
      replace hw := hw S34 eS34
      exact t_X3_put_85 C0 t0 post hret  x1 x2 x3 S34 mc ms _ _ hkn hw _ _ _ hW (lv_sub hl [0, 1, 2, 3] rfl)
    · replace hw := hw.2 c28
      refine lv_aload_n hx hb dX3_put_53 rfl (lv_at hl 0 rfl) ?_
      obtain ⟨o35, h36, hw⟩ := hw
      refine h_getR C0 hW (T := TX3) (kf := 0) in_X3_put_RX3 h36 rfl (by decide) (List.mem_of_getElem? (i := 2) rfl) rfl dX3_put_54 ?_
      refine lv_iload hx hb dX3_put_57 (lv_at hl 4 rfl) ?_
      refine lv_aload_n hx hb dX3_put_59 rfl (lv_at hl 0 rfl) ?_
      obtain ⟨o37, h38, hw⟩ := hw
      refine h_getR C0 hW (T := TX3) (kf := 0) in_X3_put_RX3 h38 rfl (by decide) (List.mem_of_getElem? (i := 2) rfl) rfl dX3_put_60 ?_
      refine lv_iload hx hb dX3_put_63 (lv_at hl 4 rfl) ?_
      refine lv_iconst (v := 1) hx hb dX3_put_65 (by decide) ?_
      refine lv_isub hx hb dX3_put_66 ?_
      obtain ⟨a39, rfl, hw⟩ := hw
      obtain ⟨N40, g41, h42, h43, hw⟩ := hw
      refine h_qald C0 hW 3 h42 rfl h43 dX3_put_67 (fun o44 eo44 => ?_)
      replace hw := hw o44 eo44
      obtain ⟨a45, rfl, hw⟩ := hw
      obtain ⟨a46, rfl, hw⟩ := hw
      obtain ⟨N47, g48, h49, h50, h52, hw⟩ := hw
      refine h_qast C0 hW 3 2 h49 rfl h52 rfl h50 dX3_put_68 (fun H locs hW => ?_)
      obtain ⟨S51, eS51⟩ : ∃ z : hS, z = upS S a46 (.inl (u.2.1 3, N47, .inr (.inr (.inr (.inr (va_up g48 (x5 : Int32).toNatClampNeg (some a45))))))) := ⟨_, rfl⟩
      rw [← eS51] at hW
      replace hw := hw S51 eS51
      obtain ⟨v53, ev53⟩ : ∃ y : Int32, y = x5 + (-1) := ⟨_, rfl⟩
      replace hw := hw v53 ev53
      refine lv_iinc (v := v53) (lv' := [(5, .int v53), (0, .ref t0), (1, va_rf x1), (2, va_rf x2), (3, .int x3)]) hx hb dX3_put_69 hl (k := 4) rfl (by rw [ev53]; rfl) (by decide) rfl (fun ls hl9 => ?_)
      replace hl := hl9
      refine lv_goto (tgt := 47) hx hb dX3_put_72 (by decide) ?_
      exact ih x1 x2 x3 v53 S51 mc ms _ _ hkn hw _ _ _ hW (lv_sub hl [1, 2, 3, 4, 0] rfl)
set_option maxHeartbeats 4000000 in
set_option maxRecDepth 100000 in
theorem t_X3_put_30 (C0 : hX p s m args c cX3_put 6 RX3 wsX3_put D (gt u.2.1) A u.1 u.2.2) (t0 : Nat) (post : Int32 → hS → Prop) (hret : ∀ (r : Int32) (S' : hS) (pc : Nat) (lv : List (Nat × Value)) (k n : Nat), k ≤ MC → n ≤ MS → post r S' → narrow .boolean (.int r) = .int r → decode cX3_put pc = .ok (.ireturn, 1) → gG p l e (rm_X3_put MC MS) s m args below meth c Q D A 6 k n (hC X S') pc lv [.int r])  : ∀ (x1 : Option Nat) (x2 : Option Nat) (x3 : Int32) (S : hS) (mc ms k n : Nat), k + mc ≤ MC ∧ n + ms ≤ MS → w_X3_put_30 u post t0  x1 x2 x3 S mc ms → gG p l e (rm_X3_put MC MS) s m args below meth c Q D A 6 k n (hC X S) 30 [(0, .ref t0), (1, va_rf x1), (2, va_rf x2), (3, .int x3)] [] := by
  obtain ⟨⟨hx, hb, hml, ho, hts, hK, hA⟩, hR⟩ := id C0
  intro x1 x2 x3 S mc ms k n hkn hw H locs ls hW hl
  rw [w_X3_put_30] at hw
  refine lv_aload_n hx hb dX3_put_30 rfl (lv_at hl 0 rfl) ?_
  obtain ⟨v22, h23, hw⟩ := hw
  refine h_getI C0 hW (T := TX3) (kf := 1) in_X3_put_RX3 h23 rfl (by decide) (List.mem_of_getElem? (i := 1) rfl) rfl dX3_put_31 ?_
  refine lv_bipush (v := 40) hx hb dX3_put_34 (by decide) ?_
  refine lv_icmp_lt (tgt := 41) hx hb dX3_put_36 (by decide) (fun c24 => ?_) (fun c24 => ?_)
  · replace hw := hw.1 c24
    refine lv_aload_n hx hb dX3_put_41 rfl (lv_at hl 0 rfl) ?_
    obtain ⟨v25, h26, hw⟩ := hw
    refine h_getI C0 hW (T := TX3) (kf := 1) in_X3_put_RX3 h26 rfl (by decide) (List.mem_of_getElem? (i := 1) rfl) rfl dX3_put_42 ?_
    refine lv_istore (lv' := [(5, .int v25), (0, .ref t0), (1, va_rf x1), (2, va_rf x2), (3, .int x3)]) hx hb dX3_put_45 hl (by decide) rfl (fun ls hl9 => ?_)
    replace hl := hl9
    obtain ⟨n27, hw⟩ := hw
    exact t_X3_put_47 C0 t0 post hret  n27 x1 x2 x3 v25 S mc ms _ _ hkn hw _ _ _ hW (lv_sub hl [1, 2, 3, 4, 0] rfl)
  · replace hw := hw.2 c24
    refine lv_iconst (v := 0) hx hb dX3_put_39 (by decide) ?_
    exact hret 0 S _ _ _ _ (by omega) (by omega) hw (by decide) dX3_put_40 _ _ _ hW hl
set_option maxHeartbeats 4000000 in
set_option maxRecDepth 100000 in
theorem t_X3_put_0 (C0 : hX p s m args c cX3_put 6 RX3 wsX3_put D (gt u.2.1) A u.1 u.2.2) (t0 : Nat) (post : Int32 → hS → Prop) (hret : ∀ (r : Int32) (S' : hS) (pc : Nat) (lv : List (Nat × Value)) (k n : Nat), k ≤ MC → n ≤ MS → post r S' → narrow .boolean (.int r) = .int r → decode cX3_put pc = .ok (.ireturn, 1) → gG p l e (rm_X3_put MC MS) s m args below meth c Q D A 6 k n (hC X S') pc lv [.int r])  : ∀ (p1 : Option Nat) (p2 : Option Nat) (S : hS) (mc ms k n : Nat), k + mc ≤ MC ∧ n + ms ≤ MS → w_X3_put u post t0  p1 p2 S mc ms → gG p l e (rm_X3_put MC MS) s m args below meth c Q D A 6 k n (hC X S) 0 [(0, .ref t0), (1, va_rf p1), (2, va_rf p2)] [] := by
  obtain ⟨⟨hx, hb, hml, ho, hts, hK, hA⟩, hR⟩ := id C0
  intro p1 p2 S mc ms k n hkn hw H locs ls hW hl
  rw [w_X3_put] at hw
  refine lv_aload_n hx hb dX3_put_0 rfl (lv_at hl 0 rfl) ?_
  refine lv_aloadV_n hx hb dX3_put_1 rfl (lv_at hl 1 rfl) ?_
  obtain ⟨h2, hw⟩ := hw
  refine h_goi C0 hW (va_runV (As := [va_rf p1]) (rest := []) ⟨hx, hb, hml, ho, hts⟩ (k_X3_placeFrom (l := l) (u := u) (X := X) (sz := H.size) _ t0 p1 S  hw) (cwV 1 hts gX3_put_X3_placeFrom rfl rfl rfl (by decide +kernel) ⟨Nat.le_of_ble_eq_true rfl, Nat.le_of_ble_eq_true rfl⟩) ⟨h_blind, (h_recv C0 hW (ci := 4) rfl h2), (h_pre C0 hW [.ref t0, va_rf p1])⟩ rfl rfl hl.1 rfl (lv_room (Nat.le_of_ble_eq_true rfl)) dX3_put_2 ⟨by show _ ≤ MC; omega, by show _ ≤ MS; omega⟩) (fun r1 S3 H locs h4 hW => ?_)
  obtain ⟨h5, hp⟩ := h4
  rw [h5] at hW
  replace hw := hp
  refine lv_istore_n (lv' := [(3, .int r1), (0, .ref t0), (1, va_rf p1), (2, va_rf p2)]) hx hb dX3_put_5 rfl hl (by decide) (by show (3, .int r1) :: List.filter (fun q : Nat × Value => !(q.1 == 3) && !(q.1 + 1 == 3 && q.2.category == 2)) [(0, .ref t0), (1, va_rf p1), (2, va_rf p2)] = [(3, .int r1), (0, .ref t0), (1, va_rf p1), (2, va_rf p2)]; simp [va_rf_cat, va_c_ref, va_c_int, va_c_null]) (fun ls hl9 => ?_)
  replace hl := hl9
  refine lv_aload_n hx hb dX3_put_6 rfl (lv_at hl 1 rfl) ?_
  refine lv_iload_n hx hb dX3_put_7 rfl (lv_at hl 0 rfl) ?_
  obtain ⟨h7, hw⟩ := hw
  refine h_goq C0 hW (va_runV (As := [.int r1]) (rest := []) ⟨hx, hb, hml, ho, hts⟩ (k_X3_entryAt (l := l) (u := u) (X := X) (sz := H.size) _ t0 r1 S  hw) (cwV 1 hts gX3_put_X3_entryAt rfl rfl rfl (by decide +kernel) ⟨Nat.le_of_ble_eq_true rfl, Nat.le_of_ble_eq_true rfl⟩) ⟨h_blind, (h_recv C0 hW (ci := 4) rfl h7), (h_pre C0 hW [.ref t0, .int r1])⟩ rfl rfl hl.1 rfl (lv_room (Nat.le_of_ble_eq_true rfl)) dX3_put_8 ⟨by show _ ≤ MC; omega, by show _ ≤ MS; omega⟩) (fun r6 S8 H locs h9 hW => ?_)
  obtain ⟨h10, hp⟩ := h9
  rw [h10] at hW
  replace hw := hp
  refine lv_astoreV (i := 4) (lv' := [(4, va_rf r6), (3, .int r1), (0, .ref t0), (1, va_rf p1), (2, va_rf p2)]) hx hb dX3_put_11 hl (by decide) rfl (fun ls hl9 => ?_)
  replace hl := hl9
  refine lv_aloadV hx hb dX3_put_13 (lv_at hl 0 rfl) ?_
  refine lv_ifnullV (tgt := 30) hx hb dX3_put_15 (by decide) (fun c11 => ?_) (fun a12 c11 => ?_)
  · subst c11
    replace hw := hw.1 rfl
    exact t_X3_put_30 C0 t0 post hret  p1 p2 r1 S mc ms _ _ hkn hw _ _ _ hW (lv_sub hl [2, 3, 4, 1] rfl)
  · subst c11
    replace hw := hw.2 a12 rfl
    refine lv_aload hx hb dX3_put_18 (lv_at hl 0 rfl) ?_
    obtain ⟨o13, h14, hw⟩ := hw
    refine h_getRN C0 hW (host := RX9) (T := TX0) (kf := 0) in_X3_put_RX0 h14 rfl (by decide) (by decide +kernel) rfl dX3_put_20 ?_
    refine lv_aloadV_n hx hb dX3_put_23 rfl (lv_at hl 3 rfl) ?_
    obtain ⟨a15, rfl, hw⟩ := hw
    obtain ⟨h17, hw⟩ := hw
    refine h_goi C0 hW (va_runV (As := [va_rf p1]) (rest := []) ⟨hx, hb, hml, ho, hts⟩ (k_J0_equals_9e (l := l) (u := u) (X := X) (sz := H.size) _ a15 p1 S  hw) (cwV 1 hts gX3_put_J0_equals_9ea2d rfl rfl rfl (by decide +kernel) ⟨Nat.le_of_ble_eq_true rfl, Nat.le_of_ble_eq_true rfl⟩) ⟨h_blind, (h_recvS C0 hW h17), (h_pre C0 hW [.ref a15, va_rf p1])⟩ rfl rfl hl.1 rfl (lv_room (Nat.le_of_ble_eq_true rfl)) dX3_put_24 ⟨by show _ ≤ MC; omega, by show _ ≤ MS; omega⟩) (fun r16 S18 H locs h19 hW => ?_)
    obtain ⟨h20, hp⟩ := h19
    rw [h20] at hW
    replace hw := hp
    refine lv_if_ne (tgt := 85) hx hb dX3_put_27 (by decide) (fun c21 => ?_) (fun c21 => ?_)
    · replace hw := hw.1 c21
      exact t_X3_put_85 C0 t0 post hret  p1 p2 r1 S mc ms _ _ hkn hw _ _ _ hW (lv_sub hl [2, 3, 4, 1] rfl)
    · replace hw := hw.2 c21
      exact t_X3_put_30 C0 t0 post hret  p1 p2 r1 S mc ms _ _ hkn hw _ _ _ hW (lv_sub hl [2, 3, 4, 1] rfl)
set_option maxHeartbeats 4000000 in
set_option maxRecDepth 100000 in
theorem k_X3_put {l : Launch} {D : va_G} {u : hU} {X : va_W} {sz : Nat} (post : Int32 → hS → Prop) (t0 : Nat) (p1 : Option Nat) (p2 : Option Nat) (S : hS) (mc ms : Nat) (hw : w_X3_put u post t0 p1 p2 S mc ms) : hMi l yX3_put wsX3_put (rm_X3_put mc ms) D (gt u.2.1) u.1 u.2.2 sz X S [.ref t0, va_rf p1, va_rf p2] post mc ms := by
  refine hMi_of (cc := cX3_put) (nL := 6) (ty := .boolean) (own := RX3) (by decide) rfl rfl (by cases p1 <;> cases p2 <;> exact Nat.le_of_ble_eq_true rfl) ?_
  intro p e s m args below meth c A Q C0 hin hret
  have hfin := t_X3_put_0 C0 t0 post hret p1 p2 S mc ms 0 0 ⟨by omega, by omega⟩ hw
  intro H locs ls hW hl
  refine hfin H locs ls hW ?_
  cases p1 <;> cases p2 <;> exact hl
abbrev rm_X3_removeAll : Room := { frames := 0, cells := 0, slots := 0, locals := 0 }
theorem in_X3_removeAll_RX3 : ∀ w ∈ wsX30, w ∈ wsX3_removeAll := fun w hw9 => List.mem_cons_of_mem _ (List.mem_append_right _ hw9)
set_option maxHeartbeats 4000000 in
set_option maxRecDepth 100000 in
theorem t_X3_removeAll_0 (C0 : hX p s m args c cX3_removeAll 1 RX3 wsX3_removeAll D (gt u.2.1) A u.1 u.2.2) (t0 : Nat) (post : hS → Prop) (hret : ∀ (S' : hS) (pc : Nat) (lv : List (Nat × Value)) (k n : Nat), k ≤ 0 → n ≤ 0 → post S' → decode cX3_removeAll pc = .ok (.return_, 1) → gG p l e (rm_X3_removeAll) s m args below meth c Q D A 1 k n (hC X S') pc lv [])  : ∀ (S : hS), w_X3_removeAll u post t0   S → gG p l e (rm_X3_removeAll) s m args below meth c Q D A 1 0 0 (hC X S) 0 [(0, .ref t0)] [] := by
  obtain ⟨⟨hx, hb, hml, ho, hts, hK, hA⟩, hR⟩ := id C0
  intro  S hw H locs ls hW hl
  rw [w_X3_removeAll] at hw
  refine lv_aload_n hx hb dX3_removeAll_0 rfl (lv_at hl 0 rfl) ?_
  refine lv_iconst (v := 0) hx hb dX3_removeAll_1 (by decide) ?_
  obtain ⟨fs1, h2, h3, hw⟩ := hw
  refine h_put C0 hW (T := TX3) (kf := 1) (ty := .int) in_X3_removeAll_RX3 h2 rfl (by decide) h3 tyX3 tyX3_ok nmX3 (List.mem_of_getElem? (i := 1) rfl) rfl (Or.inl rfl) (by decide +kernel) rfl rfl dX3_removeAll_2 rfl (fun H locs hW => ?_)
  obtain ⟨S4, eS4⟩ : ∃ z : hS, z = upS S t0 (.inr (4, fs1.set 1 (.int 0))) := ⟨_, rfl⟩
  rw [← eS4] at hW
  replace hw := hw S4 eS4
  exact hret S4 _ _ 0 0 (Nat.le_refl _) (Nat.le_refl _) hw dX3_removeAll_5 _ _ _ hW hl
set_option maxHeartbeats 4000000 in
set_option maxRecDepth 100000 in
theorem k_X3_removeAll {l : Launch} {D : va_G} {u : hU} {X : va_W} {sz : Nat} (post : hS → Prop) (t0 : Nat) (S : hS) (hw : w_X3_removeAll u post t0  S) : hMv l yX3_removeAll wsX3_removeAll rm_X3_removeAll D (gt u.2.1) u.1 u.2.2 sz X S [.ref t0] post 0 0 := by
  refine hMv_of (cc := cX3_removeAll) (nL := 1) (own := RX3) (by decide) rfl rfl (Nat.le_of_ble_eq_true rfl) ?_
  intro p e s m args below meth c A Q C0 hin hret
  exact t_X3_removeAll_0 C0 t0 post hret  S hw
abbrev rm_X3_takeAll : Room := { frames := 0, cells := 0, slots := 0, locals := 0 }
theorem in_X3_takeAll_RX3 : ∀ w ∈ wsX30, w ∈ wsX3_takeAll := fun w hw9 => List.mem_cons_of_mem _ (List.mem_append_right _ hw9)
set_option maxHeartbeats 4000000 in
set_option maxRecDepth 100000 in
theorem t_X3_takeAll_2 (C0 : hX p s m args c cX3_takeAll 3 RX3 wsX3_takeAll D (gt u.2.1) A u.1 u.2.2) (t0 : Nat) (post : hS → Prop) (hret : ∀ (S' : hS) (pc : Nat) (lv : List (Nat × Value)) (k n : Nat), k ≤ 0 → n ≤ 0 → post S' → decode cX3_takeAll pc = .ok (.return_, 1) → gG p l e (rm_X3_takeAll) s m args below meth c Q D A 3 k n (hC X S') pc lv [])  : ∀ (nf : Nat) (x1 : Option Nat) (x2 : Int32) (S : hS), w_X3_takeAll_2 u post t0  nf x1 x2 S → gG p l e (rm_X3_takeAll) s m args below meth c Q D A 3 0 0 (hC X S) 2 [(0, .ref t0), (1, va_rf x1), (2, .int x2)] [] := by
  obtain ⟨⟨hx, hb, hml, ho, hts, hK, hA⟩, hR⟩ := id C0
  intro nf
  induction nf with
  | zero => intro x1 x2 S hw; exact hw.elim
  | succ nf ih =>
    intro x1 x2 S hw H locs ls hW hl
    rw [w_X3_takeAll_2] at hw
    refine lv_iload_n hx hb dX3_takeAll_2 rfl (lv_at hl 2 rfl) ?_
    refine lv_aloadV_n hx hb dX3_takeAll_3 rfl (lv_at hl 1 rfl) ?_
    obtain ⟨a2, rfl, hw⟩ := hw
    obtain ⟨v3, h4, hw⟩ := hw
    refine h_getI C0 hW (T := TX3) (kf := 1) in_X3_takeAll_RX3 h4 rfl (by decide) (List.mem_of_getElem? (i := 1) rfl) rfl dX3_takeAll_4 ?_
    refine lv_icmp_ge (tgt := 28) hx hb dX3_takeAll_7 (by decide) (fun c5 => ?_) (fun c5 => ?_)
    · replace hw := hw.1 c5
      refine lv_aload_n hx hb dX3_takeAll_28 rfl (lv_at hl 0 rfl) ?_
      refine lv_aload_n hx hb dX3_takeAll_29 rfl (lv_at hl 1 rfl) ?_
      obtain ⟨v6, h7, hw⟩ := hw
      refine h_getI C0 hW (T := TX3) (kf := 1) in_X3_takeAll_RX3 h7 rfl (by decide) (List.mem_of_getElem? (i := 1) rfl) rfl dX3_takeAll_30 ?_
      obtain ⟨fs8, h9, h10, hw⟩ := hw
      refine h_put C0 hW (T := TX3) (kf := 1) (ty := .int) in_X3_takeAll_RX3 h9 rfl (by decide) h10 tyX3 tyX3_ok nmX3 (List.mem_of_getElem? (i := 1) rfl) rfl (Or.inl rfl) (by decide +kernel) rfl rfl dX3_takeAll_33 rfl (fun H locs hW => ?_)
      obtain ⟨S11, eS11⟩ : ∃ z : hS, z = upS S t0 (.inr (4, fs8.set 1 (.int v6))) := ⟨_, rfl⟩
      rw [← eS11] at hW
      replace hw := hw S11 eS11
      exact hret S11 _ _ 0 0 (Nat.le_refl _) (Nat.le_refl _) hw dX3_takeAll_36 _ _ _ hW hl
    · replace hw := hw.2 c5
      refine lv_aload_n hx hb dX3_takeAll_10 rfl (lv_at hl 0 rfl) ?_
      obtain ⟨o12, h13, hw⟩ := hw
      refine h_getR C0 hW (T := TX3) (kf := 0) in_X3_takeAll_RX3 h13 rfl (by decide) (List.mem_of_getElem? (i := 2) rfl) rfl dX3_takeAll_11 ?_
      refine lv_iload_n hx hb dX3_takeAll_14 rfl (lv_at hl 2 rfl) ?_
      refine lv_aload_n hx hb dX3_takeAll_15 rfl (lv_at hl 1 rfl) ?_
      obtain ⟨o14, h15, hw⟩ := hw
      refine h_getR C0 hW (T := TX3) (kf := 0) in_X3_takeAll_RX3 h15 rfl (by decide) (List.mem_of_getElem? (i := 2) rfl) rfl dX3_takeAll_16 ?_
      refine lv_iload_n hx hb dX3_takeAll_19 rfl (lv_at hl 2 rfl) ?_
      obtain ⟨a16, rfl, hw⟩ := hw
      obtain ⟨N17, g18, h19, h20, hw⟩ := hw
      refine h_qald C0 hW 3 h19 rfl h20 dX3_takeAll_20 (fun o21 eo21 => ?_)
      replace hw := hw o21 eo21
      obtain ⟨a22, rfl, hw⟩ := hw
      obtain ⟨a23, rfl, hw⟩ := hw
      obtain ⟨N24, g25, h26, h27, h29, hw⟩ := hw
      refine h_qast C0 hW 3 2 h26 rfl h29 rfl h27 dX3_takeAll_21 (fun H locs hW => ?_)
      obtain ⟨S28, eS28⟩ : ∃ z : hS, z = upS S a23 (.inl (u.2.1 3, N24, .inr (.inr (.inr (.inr (va_up g25 (x2 : Int32).toNatClampNeg (some a22))))))) := ⟨_, rfl⟩
      rw [← eS28] at hW
      replace hw := hw S28 eS28
      obtain ⟨v30, ev30⟩ : ∃ y : Int32, y = x2 + 1 := ⟨_, rfl⟩
      replace hw := hw v30 ev30
      refine lv_iinc (v := v30) (lv' := [(2, .int v30), (0, .ref t0), (1, .ref a2)]) hx hb dX3_takeAll_22 hl (k := 2) rfl (by rw [ev30]; rfl) (by decide) rfl (fun ls hl9 => ?_)
      replace hl := hl9
      refine lv_goto (tgt := 2) hx hb dX3_takeAll_25 (by decide) ?_
      exact ih (some a2) v30 S28  hw _ _ _ hW (lv_sub hl [1, 2, 0] rfl)
set_option maxHeartbeats 4000000 in
set_option maxRecDepth 100000 in
theorem t_X3_takeAll_0 (C0 : hX p s m args c cX3_takeAll 3 RX3 wsX3_takeAll D (gt u.2.1) A u.1 u.2.2) (t0 : Nat) (post : hS → Prop) (hret : ∀ (S' : hS) (pc : Nat) (lv : List (Nat × Value)) (k n : Nat), k ≤ 0 → n ≤ 0 → post S' → decode cX3_takeAll pc = .ok (.return_, 1) → gG p l e (rm_X3_takeAll) s m args below meth c Q D A 3 k n (hC X S') pc lv [])  : ∀ (p1 : Option Nat) (S : hS), w_X3_takeAll u post t0  p1 S → gG p l e (rm_X3_takeAll) s m args below meth c Q D A 3 0 0 (hC X S) 0 [(0, .ref t0), (1, va_rf p1)] [] := by
  obtain ⟨⟨hx, hb, hml, ho, hts, hK, hA⟩, hR⟩ := id C0
  intro p1 S hw H locs ls hW hl
  rw [w_X3_takeAll] at hw
  refine lv_iconst (v := 0) hx hb dX3_takeAll_0 (by decide) ?_
  refine lv_istore_n (lv' := [(2, .int 0), (0, .ref t0), (1, va_rf p1)]) hx hb dX3_takeAll_1 rfl hl (by decide) (by show (2, .int 0) :: List.filter (fun q : Nat × Value => !(q.1 == 2) && !(q.1 + 1 == 2 && q.2.category == 2)) [(0, .ref t0), (1, va_rf p1)] = [(2, .int 0), (0, .ref t0), (1, va_rf p1)]; simp [va_rf_cat, va_c_ref, va_c_int, va_c_null]) (fun ls hl9 => ?_)
  replace hl := hl9
  obtain ⟨n1, hw⟩ := hw
  exact t_X3_takeAll_2 C0 t0 post hret  n1 p1 0 S  hw _ _ _ hW (lv_sub hl [1, 2, 0] rfl)
set_option maxHeartbeats 4000000 in
set_option maxRecDepth 100000 in
theorem k_X3_takeAll {l : Launch} {D : va_G} {u : hU} {X : va_W} {sz : Nat} (post : hS → Prop) (t0 : Nat) (p1 : Option Nat) (S : hS) (hw : w_X3_takeAll u post t0 p1 S) : hMv l yX3_takeAll wsX3_takeAll rm_X3_takeAll D (gt u.2.1) u.1 u.2.2 sz X S [.ref t0, va_rf p1] post 0 0 := by
  refine hMv_of (cc := cX3_takeAll) (nL := 3) (own := RX3) (by decide) rfl rfl (by cases p1 <;> exact Nat.le_of_ble_eq_true rfl) ?_
  intro p e s m args below meth c A Q C0 hin hret
  have hfin := t_X3_takeAll_0 C0 t0 post hret p1 S hw
  intro H locs ls hW hl
  refine hfin H locs ls hW ?_
  cases p1 <;> exact hl
abbrev rm_X3_hasEntriesOf : Room := { frames := 2, cells := 0, slots := 0, locals := 44 }
theorem in_X3_hasEntriesOf_RX0 : ∀ w ∈ wsX00, w ∈ wsX3_hasEntriesOf := fun w hw9 => List.mem_cons_of_mem _ (List.mem_append_left _ (List.mem_append_right _ hw9))
theorem in_X3_hasEntriesOf_RX3 : ∀ w ∈ wsX30, w ∈ wsX3_hasEntriesOf := fun w hw9 => List.mem_cons_of_mem _ (List.mem_append_left _ (List.mem_append_left _ (List.mem_append_right _ hw9)))
set_option maxHeartbeats 4000000 in
set_option maxRecDepth 100000 in
theorem t_X3_hasEntriesOf_15 (C0 : hX p s m args c cX3_hasEntriesOf 5 RX3 wsX3_hasEntriesOf D (gt u.2.1) A u.1 u.2.2) {S : hS} (t0 : Nat) (post : Int32 → Prop) (hret : ∀ (r : Int32) (S' : hS) (pc : Nat) (lv : List (Nat × Value)) (k n : Nat), k ≤ 0 → n ≤ 0 → (S' = S ∧ post r) → narrow .boolean (.int r) = .int r → decode cX3_hasEntriesOf pc = .ok (.ireturn, 1) → gG p l e (rm_X3_hasEntriesOf) s m args below meth c Q D A 5 k n (hC X S') pc lv [.int r])  : ∀ (nf : Nat) (x1 : Nat) (x2 : Int32), w_X3_hasEntriesOf_15 u post t0  nf x1 x2 S → gG p l e (rm_X3_hasEntriesOf) s m args below meth c Q D A 5 0 0 (hC X S) 15 [(0, .ref t0), (1, .ref x1), (2, .int x2)] [] := by
  obtain ⟨⟨hx, hb, hml, ho, hts, hK, hA⟩, hR⟩ := id C0
  intro nf
  induction nf with
  | zero => intro x1 x2 hw; exact hw.elim
  | succ nf ih =>
    intro x1 x2 hw H locs ls hW hl
    rw [w_X3_hasEntriesOf_15] at hw
    refine lv_iload_n hx hb dX3_hasEntriesOf_15 rfl (lv_at hl 2 rfl) ?_
    refine lv_aload_n hx hb dX3_hasEntriesOf_16 rfl (lv_at hl 0 rfl) ?_
    obtain ⟨v8, h9, hw⟩ := hw
    refine h_getI C0 hW (T := TX3) (kf := 1) in_X3_hasEntriesOf_RX3 h9 rfl (by decide) (List.mem_of_getElem? (i := 1) rfl) rfl dX3_hasEntriesOf_17 ?_
    refine lv_icmp_ge (tgt := 85) hx hb dX3_hasEntriesOf_20 (by decide) (fun c10 => ?_) (fun c10 => ?_)
    · replace hw := hw.1 c10
      refine lv_iconst (v := 1) hx hb dX3_hasEntriesOf_85 (by decide) ?_
      exact hret 1 S _ _ 0 0 (Nat.le_refl _) (Nat.le_refl _) ⟨rfl, hw⟩ (by decide) dX3_hasEntriesOf_86 _ _ _ hW hl
    · replace hw := hw.2 c10
      refine lv_aload_n hx hb dX3_hasEntriesOf_23 rfl (lv_at hl 0 rfl) ?_
      refine lv_iload_n hx hb dX3_hasEntriesOf_24 rfl (lv_at hl 2 rfl) ?_
      obtain ⟨h12, hw⟩ := hw
      refine h_goq C0 hW (va_runV (As := [.int x2]) (rest := []) ⟨hx, hb, hml, ho, hts⟩ (k_X3_entryAt (l := l) (u := u) (X := X) (sz := H.size) _ t0 x2 S  hw) (cwV 1 hts gX3_hasEntriesOf_X3_entryAt rfl rfl rfl (by decide +kernel) ⟨Nat.le_of_ble_eq_true rfl, Nat.le_of_ble_eq_true rfl⟩) ⟨h_blind, (h_recv C0 hW (ci := 4) rfl h12), (h_pre C0 hW [.ref t0, .int x2])⟩ rfl rfl hl.1 rfl (lv_room (Nat.le_of_ble_eq_true rfl)) dX3_hasEntriesOf_25 ⟨Nat.le_refl _, Nat.le_refl _⟩) (fun r11 S13 H locs h14 hW => ?_)
      obtain ⟨h15, hp⟩ := h14
      rw [h15] at hW
      replace hw := hp
      refine lv_astoreV_n (i := 3) (lv' := [(3, va_rf r11), (0, .ref t0), (1, .ref x1), (2, .int x2)]) hx hb dX3_hasEntriesOf_28 rfl hl (by decide) rfl (fun ls hl9 => ?_)
      replace hl := hl9
      refine lv_aload_n hx hb dX3_hasEntriesOf_29 rfl (lv_at hl 2 rfl) ?_
      refine lv_iload_n hx hb dX3_hasEntriesOf_30 rfl (lv_at hl 3 rfl) ?_
      obtain ⟨h17, hw⟩ := hw
      refine h_goq C0 hW (va_runV (As := [.int x2]) (rest := []) ⟨hx, hb, hml, ho, hts⟩ (k_X3_entryAt (l := l) (u := u) (X := X) (sz := H.size) _ x1 x2 S  hw) (cwV 1 hts gX3_hasEntriesOf_X3_entryAt rfl rfl rfl (by decide +kernel) ⟨Nat.le_of_ble_eq_true rfl, Nat.le_of_ble_eq_true rfl⟩) ⟨h_blind, (h_recv C0 hW (ci := 4) rfl h17), (h_pre C0 hW [.ref x1, .int x2])⟩ rfl rfl hl.1 rfl (lv_room (Nat.le_of_ble_eq_true rfl)) dX3_hasEntriesOf_31 ⟨Nat.le_refl _, Nat.le_refl _⟩) (fun r16 S18 H locs h19 hW => ?_)
      obtain ⟨h20, hp⟩ := h19
      rw [h20] at hW
      replace hw := hp
      refine lv_astoreV (i := 4) (lv' := [(4, va_rf r16), (3, va_rf r11), (0, .ref t0), (1, .ref x1), (2, .int x2)]) hx hb dX3_hasEntriesOf_34 hl (by decide) (by show (4, va_rf r16) :: List.filter (fun q : Nat × Value => !(q.1 == 4) && !(q.1 + 1 == 4 && q.2.category == 2)) [(3, va_rf r11), (0, .ref t0), (1, .ref x1), (2, .int x2)] = [(4, va_rf r16), (3, va_rf r11), (0, .ref t0), (1, .ref x1), (2, .int x2)]; simp [va_rf_cat, va_c_ref, va_c_int, va_c_null]) (fun ls hl9 => ?_)
      replace hl := hl9
      refine lv_aloadV_n hx hb dX3_hasEntriesOf_36 rfl (lv_at hl 1 rfl) ?_
      refine lv_ifnullV (tgt := 45) hx hb dX3_hasEntriesOf_37 (by decide) (fun c21 => ?_) (fun a22 c21 => ?_)
      · subst c21
        replace hw := hw.1 rfl
        refine lv_iconst (v := 0) hx hb dX3_hasEntriesOf_45 (by decide) ?_
        exact hret 0 S _ _ 0 0 (Nat.le_refl _) (Nat.le_refl _) ⟨rfl, hw⟩ (by decide) dX3_hasEntriesOf_46 _ _ _ hW hl
      · subst c21
        replace hw := hw.2 a22 rfl
        refine lv_aloadV hx hb dX3_hasEntriesOf_40 (lv_at hl 0 rfl) ?_
        refine lv_ifnonnullV (tgt := 47) hx hb dX3_hasEntriesOf_42 (by decide) (fun a24 c23 => ?_) (fun c23 => ?_)
        · subst c23
          replace hw := hw.2 a24 rfl
          refine lv_aload_n hx hb dX3_hasEntriesOf_47 rfl (lv_at hl 1 rfl) ?_
          obtain ⟨o25, h26, hw⟩ := hw
          refine h_getRN C0 hW (host := RX9) (T := TX0) (kf := 0) in_X3_hasEntriesOf_RX0 h26 rfl (by decide) (by decide +kernel) rfl dX3_hasEntriesOf_48 ?_
          refine lv_aload hx hb dX3_hasEntriesOf_51 (lv_at hl 0 rfl) ?_
          obtain ⟨o27, h28, hw⟩ := hw
          refine h_getRN C0 hW (host := RX9) (T := TX0) (kf := 0) in_X3_hasEntriesOf_RX0 h28 rfl (by decide) (by decide +kernel) rfl dX3_hasEntriesOf_53 ?_
          obtain ⟨a29, rfl, hw⟩ := hw
          obtain ⟨h31, hw⟩ := hw
          refine h_goi C0 hW (va_runV (As := [va_rf o27]) (rest := []) ⟨hx, hb, hml, ho, hts⟩ (k_J0_equals_9e (l := l) (u := u) (X := X) (sz := H.size) _ a29 o27 S  hw) (cwV 1 hts gX3_hasEntriesOf_J0_equals_9ea2d rfl rfl rfl (by decide +kernel) ⟨Nat.le_of_ble_eq_true rfl, Nat.le_of_ble_eq_true rfl⟩) ⟨h_blind, (h_recvS C0 hW h31), (h_pre C0 hW [.ref a29, va_rf o27])⟩ rfl rfl hl.1 rfl (lv_room (Nat.le_of_ble_eq_true rfl)) dX3_hasEntriesOf_56 ⟨Nat.le_refl _, Nat.le_refl _⟩) (fun r30 S32 H locs h33 hW => ?_)
          obtain ⟨h34, hp⟩ := h33
          rw [h34] at hW
          replace hw := hp
          refine lv_if_eq (tgt := 77) hx hb dX3_hasEntriesOf_59 (by decide) (fun c35 => ?_) (fun c35 => ?_)
          · replace hw := hw.1 c35
            refine lv_iconst (v := 0) hx hb dX3_hasEntriesOf_77 (by decide) ?_
            exact hret 0 S _ _ 0 0 (Nat.le_refl _) (Nat.le_refl _) ⟨rfl, hw⟩ (by decide) dX3_hasEntriesOf_78 _ _ _ hW hl
          · replace hw := hw.2 c35
            refine lv_aload_n hx hb dX3_hasEntriesOf_62 rfl (lv_at hl 1 rfl) ?_
            obtain ⟨o36, h37, hw⟩ := hw
            refine h_getRN C0 hW (host := RX9) (T := TX0) (kf := 1) in_X3_hasEntriesOf_RX0 h37 rfl (by decide) (by decide +kernel) rfl dX3_hasEntriesOf_63 ?_
            refine lv_aload hx hb dX3_hasEntriesOf_66 (lv_at hl 0 rfl) ?_
            obtain ⟨o38, h39, hw⟩ := hw
            refine h_getRN C0 hW (host := RX9) (T := TX0) (kf := 1) in_X3_hasEntriesOf_RX0 h39 rfl (by decide) (by decide +kernel) rfl dX3_hasEntriesOf_68 ?_
            obtain ⟨a40, rfl, hw⟩ := hw
            obtain ⟨h42, hw⟩ := hw
            refine h_goi C0 hW (va_runV (As := [va_rf o38]) (rest := []) ⟨hx, hb, hml, ho, hts⟩ (k_J0_equals_9e (l := l) (u := u) (X := X) (sz := H.size) _ a40 o38 S  hw) (cwV 1 hts gX3_hasEntriesOf_J0_equals_9ea2d rfl rfl rfl (by decide +kernel) ⟨Nat.le_of_ble_eq_true rfl, Nat.le_of_ble_eq_true rfl⟩) ⟨h_blind, (h_recvS C0 hW h42), (h_pre C0 hW [.ref a40, va_rf o38])⟩ rfl rfl hl.1 rfl (lv_room (Nat.le_of_ble_eq_true rfl)) dX3_hasEntriesOf_71 ⟨Nat.le_refl _, Nat.le_refl _⟩) (fun r41 S43 H locs h44 hW => ?_)
            obtain ⟨h45, hp⟩ := h44
            rw [h45] at hW
            replace hw := hp
            refine lv_if_ne (tgt := 79) hx hb dX3_hasEntriesOf_74 (by decide) (fun c46 => ?_) (fun c46 => ?_)
            · replace hw := hw.1 c46
              obtain ⟨v47, ev47⟩ : ∃ y : Int32, y = x2 + 1 := ⟨_, rfl⟩
              replace hw := hw v47 ev47
              refine lv_iinc (v := v47) (lv' := [(2, .int v47), (4, .ref a24), (3, .ref a22), (0, .ref t0), (1, .ref x1)]) hx hb dX3_hasEntriesOf_79 hl (k := 4) rfl (by rw [ev47]; rfl) (by decide) rfl (fun ls hl9 => ?_)
              replace hl := hl9
              refine lv_goto (tgt := 15) hx hb dX3_hasEntriesOf_82 (by decide) ?_
              exact ih x1 v47   hw _ _ _ hW (lv_sub hl [3, 4, 0] rfl)
            · replace hw := hw.2 c46
              refine lv_iconst (v := 0) hx hb dX3_hasEntriesOf_77 (by decide) ?_
              exact hret 0 S _ _ 0 0 (Nat.le_refl _) (Nat.le_refl _) ⟨rfl, hw⟩ (by decide) dX3_hasEntriesOf_78 _ _ _ hW hl
        · subst c23
          replace hw := hw.1 rfl
          refine lv_iconst (v := 0) hx hb dX3_hasEntriesOf_45 (by decide) ?_
          exact hret 0 S _ _ 0 0 (Nat.le_refl _) (Nat.le_refl _) ⟨rfl, hw⟩ (by decide) dX3_hasEntriesOf_46 _ _ _ hW hl
set_option maxHeartbeats 4000000 in
set_option maxRecDepth 100000 in
theorem t_X3_hasEntriesOf_0 (C0 : hX p s m args c cX3_hasEntriesOf 5 RX3 wsX3_hasEntriesOf D (gt u.2.1) A u.1 u.2.2) {S : hS} (t0 : Nat) (post : Int32 → Prop) (hret : ∀ (r : Int32) (S' : hS) (pc : Nat) (lv : List (Nat × Value)) (k n : Nat), k ≤ 0 → n ≤ 0 → (S' = S ∧ post r) → narrow .boolean (.int r) = .int r → decode cX3_hasEntriesOf pc = .ok (.ireturn, 1) → gG p l e (rm_X3_hasEntriesOf) s m args below meth c Q D A 5 k n (hC X S') pc lv [.int r])  : ∀ (p1 : Option Nat), w_X3_hasEntriesOf u post t0  p1 S → gG p l e (rm_X3_hasEntriesOf) s m args below meth c Q D A 5 0 0 (hC X S) 0 [(0, .ref t0), (1, va_rf p1)] [] := by
  obtain ⟨⟨hx, hb, hml, ho, hts, hK, hA⟩, hR⟩ := id C0
  intro p1 hw H locs ls hW hl
  rw [w_X3_hasEntriesOf] at hw
  refine lv_aload_n hx hb dX3_hasEntriesOf_0 rfl (lv_at hl 0 rfl) ?_
  obtain ⟨v1, h2, hw⟩ := hw
  refine h_getI C0 hW (T := TX3) (kf := 1) in_X3_hasEntriesOf_RX3 h2 rfl (by decide) (List.mem_of_getElem? (i := 1) rfl) rfl dX3_hasEntriesOf_1 ?_
  refine lv_aloadV_n hx hb dX3_hasEntriesOf_4 rfl (lv_at hl 1 rfl) ?_
  obtain ⟨a3, rfl, hw⟩ := hw
  obtain ⟨v4, h5, hw⟩ := hw
  refine h_getI C0 hW (T := TX3) (kf := 1) in_X3_hasEntriesOf_RX3 h5 rfl (by decide) (List.mem_of_getElem? (i := 1) rfl) rfl dX3_hasEntriesOf_5 ?_
  refine lv_icmp_eq (tgt := 13) hx hb dX3_hasEntriesOf_8 (by decide) (fun c6 => ?_) (fun c6 => ?_)
  · replace hw := hw.1 c6
    refine lv_iconst (v := 0) hx hb dX3_hasEntriesOf_13 (by decide) ?_
    refine lv_istore_n (lv' := [(2, .int 0), (0, .ref t0), (1, .ref a3)]) hx hb dX3_hasEntriesOf_14 rfl hl (by decide) rfl (fun ls hl9 => ?_)
    replace hl := hl9
    obtain ⟨n7, hw⟩ := hw
    exact t_X3_hasEntriesOf_15 C0 t0 post hret  n7 a3 0   hw _ _ _ hW (lv_sub hl [1, 2, 0] rfl)
  · replace hw := hw.2 c6
    refine lv_iconst (v := 0) hx hb dX3_hasEntriesOf_11 (by decide) ?_
    exact hret 0 S _ _ 0 0 (Nat.le_refl _) (Nat.le_refl _) ⟨rfl, hw⟩ (by decide) dX3_hasEntriesOf_12 _ _ _ hW hl
set_option maxHeartbeats 4000000 in
set_option maxRecDepth 100000 in
theorem k_X3_hasEntriesOf {l : Launch} {D : va_G} {u : hU} {X : va_W} {sz : Nat} (post : Int32 → Prop) (t0 : Nat) (p1 : Option Nat) (S : hS) (hw : w_X3_hasEntriesOf u post t0 p1 S) : hMi l yX3_hasEntriesOf wsX3_hasEntriesOf rm_X3_hasEntriesOf D (gt u.2.1) u.1 u.2.2 sz X S [.ref t0, va_rf p1] (fun r S' => S' = S ∧ post r) 0 0 := by
  refine hMi_of (cc := cX3_hasEntriesOf) (nL := 5) (ty := .boolean) (own := RX3) (by decide) rfl rfl (by cases p1 <;> exact Nat.le_of_ble_eq_true rfl) ?_
  intro p e s m args below meth c A Q C0 hin hret
  have hfin := t_X3_hasEntriesOf_0 C0 t0 post hret p1 hw
  intro H locs ls hW hl
  refine hfin H locs ls hW ?_
  cases p1 <;> exact hl
abbrev rm_X3_digestOn : Room := { frames := 4, cells := 0, slots := 0, locals := 85 }
set_option maxHeartbeats 4000000 in
set_option maxRecDepth 100000 in
theorem t_X3_digestOn_5 (C0 : hX p s m args c cX3_digestOn 5 RX3 wsX3_digestOn D (gt u.2.1) A u.1 u.2.2) {S : hS}  (post : Int32 → Prop) (hret : ∀ (r : Int32) (S' : hS) (pc : Nat) (lv : List (Nat × Value)) (k n : Nat), k ≤ 0 → n ≤ 0 → (S' = S ∧ post r) → narrow .int (.int r) = .int r → decode cX3_digestOn pc = .ok (.ireturn, 1) → gG p l e (rm_X3_digestOn) s m args below meth c Q D A 5 k n (hC X S') pc lv [.int r])  : ∀ (nf : Nat) (x1 : Option Nat) (x2 : Int32) (x3 : Int32) (x4 : Int32), w_X3_digestOn_5 u post   nf x1 x2 x3 x4 S → gG p l e (rm_X3_digestOn) s m args below meth c Q D A 5 0 0 (hC X S) 5 [(1, va_rf x1), (2, .int x2), (3, .int x3), (4, .int x4)] [] := by
  obtain ⟨⟨hx, hb, hml, ho, hts, hK, hA⟩, hR⟩ := id C0
  intro nf
  induction nf with
  | zero => intro x1 x2 x3 x4 hw; exact hw.elim
  | succ nf ih =>
    intro x1 x2 x3 x4 hw H locs ls hW hl
    rw [w_X3_digestOn_5] at hw
    refine lv_iload hx hb dX3_digestOn_5 (lv_at hl 3 rfl) ?_
    refine lv_aloadV_n hx hb dX3_digestOn_7 rfl (lv_at hl 0 rfl) ?_
    obtain ⟨a2, rfl, hw⟩ := hw
    obtain ⟨h4, hw⟩ := hw
    refine h_goi C0 hW (va_runV (As := []) (rest := [.int x4]) ⟨hx, hb, hml, ho, hts⟩ (k_J0_length_8a (l := l) (u := u) (X := X) (sz := H.size) _ a2  S  hw) (cwV 0 hts gX3_digestOn_J0_length_8abf5 rfl rfl rfl (by decide +kernel) ⟨Nat.le_of_ble_eq_true rfl, Nat.le_of_ble_eq_true rfl⟩) ⟨h_blind, (h_recvS C0 hW h4), (h_pre C0 hW [.ref a2])⟩ rfl rfl hl.1 rfl (lv_room (Nat.le_of_ble_eq_true rfl)) dX3_digestOn_8 ⟨Nat.le_refl _, Nat.le_refl _⟩) (fun r3 S5 H locs h6 hW => ?_)
    obtain ⟨h7, hp⟩ := h6
    rw [h7] at hW
    replace hw := hp
    refine lv_icmp_ge (tgt := 32) hx hb dX3_digestOn_11 (by decide) (fun c8 => ?_) (fun c8 => ?_)
    · replace hw := hw.1 c8
      refine lv_bipush (v := 31) hx hb dX3_digestOn_32 (by decide) ?_
      refine lv_iload_n hx hb dX3_digestOn_34 rfl (lv_at hl 2 rfl) ?_
      refine lv_imul hx hb dX3_digestOn_35 ?_
      refine lv_iload_n hx hb dX3_digestOn_36 rfl (lv_at hl 1 rfl) ?_
      refine lv_iadd hx hb dX3_digestOn_37 ?_
      exact hret ((31 * x3) + x2) S _ _ 0 0 (Nat.le_refl _) (Nat.le_refl _) ⟨rfl, hw⟩ rfl dX3_digestOn_38 _ _ _ hW hl
    · replace hw := hw.2 c8
      refine lv_bipush (v := 31) hx hb dX3_digestOn_14 (by decide) ?_
      refine lv_iload_n hx hb dX3_digestOn_16 rfl (lv_at hl 2 rfl) ?_
      refine lv_imul hx hb dX3_digestOn_17 ?_
      refine lv_aload_n hx hb dX3_digestOn_18 rfl (lv_at hl 0 rfl) ?_
      refine lv_iload hx hb dX3_digestOn_19 (lv_at hl 3 rfl) ?_
      obtain ⟨h10, hw⟩ := hw
      refine h_goi C0 hW (va_runV (As := [.int x4]) (rest := [.int (31 * x3)]) ⟨hx, hb, hml, ho, hts⟩ (k_J0_charAt_50 (l := l) (u := u) (X := X) (sz := H.size) _ a2 x4 S  hw) (cwV 1 hts gX3_digestOn_J0_charAt_5068e rfl rfl rfl (by decide +kernel) ⟨Nat.le_of_ble_eq_true rfl, Nat.le_of_ble_eq_true rfl⟩) ⟨h_blind, (h_recvS C0 hW h10), (h_pre C0 hW [.ref a2, .int x4])⟩ rfl rfl hl.1 rfl (lv_room (Nat.le_of_ble_eq_true rfl)) dX3_digestOn_21 ⟨Nat.le_refl _, Nat.le_refl _⟩) (fun r9 S11 H locs h12 hW => ?_)
      obtain ⟨h13, hp⟩ := h12
      rw [h13] at hW
      replace hw := hp
      refine lv_iadd hx hb dX3_digestOn_24 ?_
      refine lv_topi (fun v14 ev14 => ?_)
      replace hw := hw v14 ev14
      refine lv_istore_n (lv' := [(3, .int v14), (1, .ref a2), (2, .int x2), (4, .int x4)]) hx hb dX3_digestOn_25 rfl hl (by decide) rfl (fun ls hl9 => ?_)
      replace hl := hl9
      obtain ⟨v15, ev15⟩ : ∃ y : Int32, y = x4 + 1 := ⟨_, rfl⟩
      replace hw := hw v15 ev15
      refine lv_iinc (v := v15) (lv' := [(4, .int v15), (3, .int v14), (1, .ref a2), (2, .int x2)]) hx hb dX3_digestOn_26 hl (k := 3) rfl (by rw [ev15]; rfl) (by decide) rfl (fun ls hl9 => ?_)
      replace hl := hl9
      refine lv_goto (tgt := 5) hx hb dX3_digestOn_29 (by decide) ?_
      exact ih (some a2) x2 v14 v15   hw _ _ _ hW (lv_sub hl [2, 3, 1, 0] rfl)
set_option maxHeartbeats 4000000 in
set_option maxRecDepth 100000 in
theorem t_X3_digestOn_0 (C0 : hX p s m args c cX3_digestOn 5 RX3 wsX3_digestOn D (gt u.2.1) A u.1 u.2.2) {S : hS}  (post : Int32 → Prop) (hret : ∀ (r : Int32) (S' : hS) (pc : Nat) (lv : List (Nat × Value)) (k n : Nat), k ≤ 0 → n ≤ 0 → (S' = S ∧ post r) → narrow .int (.int r) = .int r → decode cX3_digestOn pc = .ok (.ireturn, 1) → gG p l e (rm_X3_digestOn) s m args below meth c Q D A 5 k n (hC X S') pc lv [.int r])  : ∀ (z1 : Int32) (p2 : Option Nat) (z3 : Int32), w_X3_digestOn u post   z1 p2 z3 S → gG p l e (rm_X3_digestOn) s m args below meth c Q D A 5 0 0 (hC X S) 0 [(0, .int z1), (1, va_rf p2), (2, .int z3)] [] := by
  obtain ⟨⟨hx, hb, hml, ho, hts, hK, hA⟩, hR⟩ := id C0
  intro z1 p2 z3 hw H locs ls hW hl
  rw [w_X3_digestOn] at hw
  refine lv_iload_n hx hb dX3_digestOn_0 rfl (lv_at hl 0 rfl) ?_
  refine lv_istore_n (lv' := [(3, .int z1), (0, .int z1), (1, va_rf p2), (2, .int z3)]) hx hb dX3_digestOn_1 rfl hl (by decide) rfl (fun ls hl9 => ?_)
  replace hl := hl9
  refine lv_iconst (v := 0) hx hb dX3_digestOn_2 (by decide) ?_
  refine lv_istore (lv' := [(4, .int 0), (3, .int z1), (0, .int z1), (1, va_rf p2), (2, .int z3)]) hx hb dX3_digestOn_3 hl (by decide) rfl (fun ls hl9 => ?_)
  replace hl := hl9
  obtain ⟨n1, hw⟩ := hw
  exact t_X3_digestOn_5 C0  post hret  n1 p2 z3 z1 0   hw _ _ _ hW (lv_sub hl [3, 4, 1, 0] rfl)
set_option maxHeartbeats 4000000 in
set_option maxRecDepth 100000 in
theorem k_X3_digestOn {l : Launch} {D : va_G} {u : hU} {X : va_W} {sz : Nat} (post : Int32 → Prop) (z1 : Int32) (p2 : Option Nat) (z3 : Int32) (S : hS) (hw : w_X3_digestOn u post  z1 p2 z3 S) : hMi l yX3_digestOn wsX3_digestOn rm_X3_digestOn D (gt u.2.1) u.1 u.2.2 sz X S [.int z1, va_rf p2, .int z3] (fun r S' => S' = S ∧ post r) 0 0 := by
  refine hMi_of (cc := cX3_digestOn) (nL := 5) (ty := .int) (own := RX3) (by decide) rfl rfl (by cases p2 <;> exact Nat.le_of_ble_eq_true rfl) ?_
  intro p e s m args below meth c A Q C0 hin hret
  have hfin := t_X3_digestOn_0 C0  post hret z1 p2 z3 hw
  intro H locs ls hW hl
  refine hfin H locs ls hW ?_
  cases p2 <;> exact hl
abbrev rm_X3_digestNumber : Room := { frames := 5, cells := 0, slots := 0, locals := 109 }
theorem in_X3_digestNumber_RX0 : ∀ w ∈ wsX00, w ∈ wsX3_digestNumber := fun w hw9 => List.mem_cons_of_mem _ (List.mem_append_left _ (List.mem_append_right _ hw9))
theorem in_X3_digestNumber_RX3 : ∀ w ∈ wsX30, w ∈ wsX3_digestNumber := fun w hw9 => List.mem_cons_of_mem _ (List.mem_append_left _ (List.mem_append_left _ (List.mem_append_right _ hw9)))
set_option maxHeartbeats 4000000 in
set_option maxRecDepth 100000 in
theorem t_X3_digestNumber_5 (C0 : hX p s m args c cX3_digestNumber 4 RX3 wsX3_digestNumber D (gt u.2.1) A u.1 u.2.2) {S : hS} (t0 : Nat) (post : Int32 → Prop) (hret : ∀ (r : Int32) (S' : hS) (pc : Nat) (lv : List (Nat × Value)) (k n : Nat), k ≤ 0 → n ≤ 0 → (S' = S ∧ post r) → narrow .int (.int r) = .int r → decode cX3_digestNumber pc = .ok (.ireturn, 1) → gG p l e (rm_X3_digestNumber) s m args below meth c Q D A 4 k n (hC X S') pc lv [.int r])  : ∀ (nf : Nat) (x1 : Int32) (x2 : Int32), w_X3_digestNumber_5 u post t0  nf x1 x2 S → gG p l e (rm_X3_digestNumber) s m args below meth c Q D A 4 0 0 (hC X S) 5 [(0, .ref t0), (1, .int x1), (2, .int x2)] [] := by
  obtain ⟨⟨hx, hb, hml, ho, hts, hK, hA⟩, hR⟩ := id C0
  intro nf
  induction nf with
  | zero => intro x1 x2 hw; exact hw.elim
  | succ nf ih =>
    intro x1 x2 hw H locs ls hW hl
    rw [w_X3_digestNumber_5] at hw
    refine lv_iload_n hx hb dX3_digestNumber_5 rfl (lv_at hl 2 rfl) ?_
    refine lv_aload_n hx hb dX3_digestNumber_6 rfl (lv_at hl 0 rfl) ?_
    obtain ⟨v2, h3, hw⟩ := hw
    refine h_getI C0 hW (T := TX3) (kf := 1) in_X3_digestNumber_RX3 h3 rfl (by decide) (List.mem_of_getElem? (i := 1) rfl) rfl dX3_digestNumber_7 ?_
    refine lv_icmp_ge (tgt := 53) hx hb dX3_digestNumber_10 (by decide) (fun c4 => ?_) (fun c4 => ?_)
    · replace hw := hw.1 c4
      refine lv_iload_n hx hb dX3_digestNumber_53 rfl (lv_at hl 1 rfl) ?_
      exact hret x1 S _ _ 0 0 (Nat.le_refl _) (Nat.le_refl _) ⟨rfl, hw⟩ rfl dX3_digestNumber_54 _ _ _ hW hl
    · replace hw := hw.2 c4
      refine lv_aload_n hx hb dX3_digestNumber_13 rfl (lv_at hl 0 rfl) ?_
      refine lv_iload_n hx hb dX3_digestNumber_14 rfl (lv_at hl 2 rfl) ?_
      obtain ⟨h6, hw⟩ := hw
      refine h_goq C0 hW (va_runV (As := [.int x2]) (rest := []) ⟨hx, hb, hml, ho, hts⟩ (k_X3_entryAt (l := l) (u := u) (X := X) (sz := H.size) _ t0 x2 S  hw) (cwV 1 hts gX3_digestNumber_X3_entryAt rfl rfl rfl (by decide +kernel) ⟨Nat.le_of_ble_eq_true rfl, Nat.le_of_ble_eq_true rfl⟩) ⟨h_blind, (h_recv C0 hW (ci := 4) rfl h6), (h_pre C0 hW [.ref t0, .int x2])⟩ rfl rfl hl.1 rfl (lv_room (Nat.le_of_ble_eq_true rfl)) dX3_digestNumber_15 ⟨Nat.le_refl _, Nat.le_refl _⟩) (fun r5 S7 H locs h8 hW => ?_)
      obtain ⟨h9, hp⟩ := h8
      rw [h9] at hW
      replace hw := hp
      refine lv_astoreV_n (i := 3) (lv' := [(3, va_rf r5), (0, .ref t0), (1, .int x1), (2, .int x2)]) hx hb dX3_digestNumber_18 rfl hl (by decide) rfl (fun ls hl9 => ?_)
      replace hl := hl9
      refine lv_aloadV_n hx hb dX3_digestNumber_19 rfl (lv_at hl 0 rfl) ?_
      refine lv_ifnullV (tgt := 47) hx hb dX3_digestNumber_20 (by decide) (fun c10 => ?_) (fun a11 c10 => ?_)
      · subst c10
        replace hw := hw.1 rfl
        obtain ⟨v12, ev12⟩ : ∃ y : Int32, y = x2 + 1 := ⟨_, rfl⟩
        replace hw := hw v12 ev12
        refine lv_iinc (v := v12) (lv' := [(2, .int v12), (3, .null), (0, .ref t0), (1, .int x1)]) hx hb dX3_digestNumber_47 hl (k := 3) rfl (by rw [ev12]; rfl) (by decide) rfl (fun ls hl9 => ?_)
        replace hl := hl9
        refine lv_goto (tgt := 5) hx hb dX3_digestNumber_50 (by decide) ?_
        exact ih x1 v12   hw _ _ _ hW (lv_sub hl [2, 3, 0] rfl)
      · subst c10
        replace hw := hw.2 a11 rfl
        refine lv_iload_n hx hb dX3_digestNumber_23 rfl (lv_at hl 2 rfl) ?_
        refine lv_aload_n hx hb dX3_digestNumber_24 rfl (lv_at hl 0 rfl) ?_
        obtain ⟨o13, h14, hw⟩ := hw
        refine h_getRN C0 hW (host := RX9) (T := TX0) (kf := 0) in_X3_digestNumber_RX0 h14 rfl (by decide) (by decide +kernel) rfl dX3_digestNumber_25 ?_
        refine lv_sipush (v := 256) hx hb dX3_digestNumber_28 (by decide) ?_
        refine h_goi C0 hW (va_runS (As := [.int x1, va_rf o13, .int 256]) (rest := []) ⟨hx, hb, hml, ho, hts⟩ (k_X3_digestOn (l := l) (u := u) (X := X) (sz := H.size) _ x1 o13 256 S  hw) (va_cwS 3 hts gX3_digestNumber_X3_digestOn rfl rfl rfl (by decide +kernel) ⟨Nat.le_of_ble_eq_true rfl, Nat.le_of_ble_eq_true rfl⟩) ⟨h_blind, (h_pre C0 hW [.int x1, va_rf o13, .int 256])⟩ rfl rfl hl.1 rfl (lv_room (Nat.le_of_ble_eq_true rfl)) dX3_digestNumber_31 ⟨Nat.le_refl _, Nat.le_refl _⟩) (fun r15 S16 H locs h17 hW => ?_)
        obtain ⟨h18, hp⟩ := h17
        rw [h18] at hW
        replace hw := hp
        refine lv_istore_n (lv' := [(1, .int r15), (3, .ref a11), (0, .ref t0), (2, .int x2)]) hx hb dX3_digestNumber_34 rfl hl (by decide) rfl (fun ls hl9 => ?_)
        replace hl := hl9
        refine lv_iload_n hx hb dX3_digestNumber_35 rfl (lv_at hl 0 rfl) ?_
        refine lv_aload_n hx hb dX3_digestNumber_36 rfl (lv_at hl 1 rfl) ?_
        obtain ⟨o19, h20, hw⟩ := hw
        refine h_getRN C0 hW (host := RX9) (T := TX0) (kf := 1) in_X3_digestNumber_RX0 h20 rfl (by decide) (by decide +kernel) rfl dX3_digestNumber_37 ?_
        refine lv_sipush (v := 257) hx hb dX3_digestNumber_40 (by decide) ?_
        refine h_goi C0 hW (va_runS (As := [.int r15, va_rf o19, .int 257]) (rest := []) ⟨hx, hb, hml, ho, hts⟩ (k_X3_digestOn (l := l) (u := u) (X := X) (sz := H.size) _ r15 o19 257 S  hw) (va_cwS 3 hts gX3_digestNumber_X3_digestOn rfl rfl rfl (by decide +kernel) ⟨Nat.le_of_ble_eq_true rfl, Nat.le_of_ble_eq_true rfl⟩) ⟨h_blind, (h_pre C0 hW [.int r15, va_rf o19, .int 257])⟩ rfl rfl hl.1 rfl (lv_room (Nat.le_of_ble_eq_true rfl)) dX3_digestNumber_43 ⟨Nat.le_refl _, Nat.le_refl _⟩) (fun r21 S22 H locs h23 hW => ?_)
        obtain ⟨h24, hp⟩ := h23
        rw [h24] at hW
        replace hw := hp
        refine lv_istore_n (lv' := [(1, .int r21), (3, .ref a11), (0, .ref t0), (2, .int x2)]) hx hb dX3_digestNumber_46 rfl hl (by decide) rfl (fun ls hl9 => ?_)
        replace hl := hl9
        obtain ⟨v25, ev25⟩ : ∃ y : Int32, y = x2 + 1 := ⟨_, rfl⟩
        replace hw := hw v25 ev25
        refine lv_iinc (v := v25) (lv' := [(2, .int v25), (1, .int r21), (3, .ref a11), (0, .ref t0)]) hx hb dX3_digestNumber_47 hl (k := 3) rfl (by rw [ev25]; rfl) (by decide) rfl (fun ls hl9 => ?_)
        replace hl := hl9
        refine lv_goto (tgt := 5) hx hb dX3_digestNumber_50 (by decide) ?_
        exact ih r21 v25   hw _ _ _ hW (lv_sub hl [3, 1, 0] rfl)
set_option maxHeartbeats 4000000 in
set_option maxRecDepth 100000 in
theorem t_X3_digestNumber_0 (C0 : hX p s m args c cX3_digestNumber 4 RX3 wsX3_digestNumber D (gt u.2.1) A u.1 u.2.2) {S : hS} (t0 : Nat) (post : Int32 → Prop) (hret : ∀ (r : Int32) (S' : hS) (pc : Nat) (lv : List (Nat × Value)) (k n : Nat), k ≤ 0 → n ≤ 0 → (S' = S ∧ post r) → narrow .int (.int r) = .int r → decode cX3_digestNumber pc = .ok (.ireturn, 1) → gG p l e (rm_X3_digestNumber) s m args below meth c Q D A 4 k n (hC X S') pc lv [.int r])  : w_X3_digestNumber u post t0   S → gG p l e (rm_X3_digestNumber) s m args below meth c Q D A 4 0 0 (hC X S) 0 [(0, .ref t0)] [] := by
  obtain ⟨⟨hx, hb, hml, ho, hts, hK, hA⟩, hR⟩ := id C0
  intro  hw H locs ls hW hl
  rw [w_X3_digestNumber] at hw
  refine lv_bipush (v := 7) hx hb dX3_digestNumber_0 (by decide) ?_
  refine lv_istore_n (lv' := [(1, .int 7), (0, .ref t0)]) hx hb dX3_digestNumber_2 rfl hl (by decide) rfl (fun ls hl9 => ?_)
  replace hl := hl9
  refine lv_iconst (v := 0) hx hb dX3_digestNumber_3 (by decide) ?_
  refine lv_istore_n (lv' := [(2, .int 0), (1, .int 7), (0, .ref t0)]) hx hb dX3_digestNumber_4 rfl hl (by decide) rfl (fun ls hl9 => ?_)
  replace hl := hl9
  obtain ⟨n1, hw⟩ := hw
  exact t_X3_digestNumber_5 C0 t0 post hret  n1 7 0   hw _ _ _ hW (lv_sub hl [2, 1, 0] rfl)
set_option maxHeartbeats 4000000 in
set_option maxRecDepth 100000 in
theorem k_X3_digestNumber {l : Launch} {D : va_G} {u : hU} {X : va_W} {sz : Nat} (post : Int32 → Prop) (t0 : Nat) (S : hS) (hw : w_X3_digestNumber u post t0  S) : hMi l yX3_digestNumber wsX3_digestNumber rm_X3_digestNumber D (gt u.2.1) u.1 u.2.2 sz X S [.ref t0] (fun r S' => S' = S ∧ post r) 0 0 := by
  refine hMi_of (cc := cX3_digestNumber) (nL := 4) (ty := .int) (own := RX3) (by decide) rfl rfl (Nat.le_of_ble_eq_true rfl) ?_
  intro p e s m args below meth c A Q C0 hin hret
  exact t_X3_digestNumber_0 C0 t0 post hret  hw
abbrev rm_X3_writtenLength : Room := { frames := 5, cells := 0, slots := 0, locals := 108 }
theorem in_X3_writtenLength_RX0 : ∀ w ∈ wsX00, w ∈ wsX3_writtenLength := fun w hw9 => List.mem_cons_of_mem _ (List.mem_append_left _ (List.mem_append_right _ hw9))
theorem in_X3_writtenLength_RX3 : ∀ w ∈ wsX30, w ∈ wsX3_writtenLength := fun w hw9 => List.mem_cons_of_mem _ (List.mem_append_left _ (List.mem_append_left _ (List.mem_append_right _ hw9)))
set_option maxHeartbeats 4000000 in
set_option maxRecDepth 100000 in
theorem t_X3_writtenLength_4 (C0 : hX p s m args c cX3_writtenLength 4 RX3 wsX3_writtenLength D (gt u.2.1) A u.1 u.2.2) {S : hS} (t0 : Nat) (post : Int32 → Prop) (hret : ∀ (r : Int32) (S' : hS) (pc : Nat) (lv : List (Nat × Value)) (k n : Nat), k ≤ 0 → n ≤ 0 → (S' = S ∧ post r) → narrow .int (.int r) = .int r → decode cX3_writtenLength pc = .ok (.ireturn, 1) → gG p l e (rm_X3_writtenLength) s m args below meth c Q D A 4 k n (hC X S') pc lv [.int r])  : ∀ (nf : Nat) (x1 : Int32) (x2 : Int32), w_X3_writtenLength_4 u post t0  nf x1 x2 S → gG p l e (rm_X3_writtenLength) s m args below meth c Q D A 4 0 0 (hC X S) 4 [(0, .ref t0), (1, .int x1), (2, .int x2)] [] := by
  obtain ⟨⟨hx, hb, hml, ho, hts, hK, hA⟩, hR⟩ := id C0
  intro nf
  induction nf with
  | zero => intro x1 x2 hw; exact hw.elim
  | succ nf ih =>
    intro x1 x2 hw H locs ls hW hl
    rw [w_X3_writtenLength_4] at hw
    refine lv_iload_n hx hb dX3_writtenLength_4 rfl (lv_at hl 2 rfl) ?_
    refine lv_aload_n hx hb dX3_writtenLength_5 rfl (lv_at hl 0 rfl) ?_
    obtain ⟨v2, h3, hw⟩ := hw
    refine h_getI C0 hW (T := TX3) (kf := 1) in_X3_writtenLength_RX3 h3 rfl (by decide) (List.mem_of_getElem? (i := 1) rfl) rfl dX3_writtenLength_6 ?_
    refine lv_icmp_ge (tgt := 52) hx hb dX3_writtenLength_9 (by decide) (fun c4 => ?_) (fun c4 => ?_)
    · replace hw := hw.1 c4
      refine lv_iload_n hx hb dX3_writtenLength_52 rfl (lv_at hl 1 rfl) ?_
      exact hret x1 S _ _ 0 0 (Nat.le_refl _) (Nat.le_refl _) ⟨rfl, hw⟩ rfl dX3_writtenLength_53 _ _ _ hW hl
    · replace hw := hw.2 c4
      refine lv_aload_n hx hb dX3_writtenLength_12 rfl (lv_at hl 0 rfl) ?_
      refine lv_iload_n hx hb dX3_writtenLength_13 rfl (lv_at hl 2 rfl) ?_
      obtain ⟨h6, hw⟩ := hw
      refine h_goq C0 hW (va_runV (As := [.int x2]) (rest := []) ⟨hx, hb, hml, ho, hts⟩ (k_X3_entryAt (l := l) (u := u) (X := X) (sz := H.size) _ t0 x2 S  hw) (cwV 1 hts gX3_writtenLength_X3_entryAt rfl rfl rfl (by decide +kernel) ⟨Nat.le_of_ble_eq_true rfl, Nat.le_of_ble_eq_true rfl⟩) ⟨h_blind, (h_recv C0 hW (ci := 4) rfl h6), (h_pre C0 hW [.ref t0, .int x2])⟩ rfl rfl hl.1 rfl (lv_room (Nat.le_of_ble_eq_true rfl)) dX3_writtenLength_14 ⟨Nat.le_refl _, Nat.le_refl _⟩) (fun r5 S7 H locs h8 hW => ?_)
      obtain ⟨h9, hp⟩ := h8
      rw [h9] at hW
      replace hw := hp
      refine lv_astoreV_n (i := 3) (lv' := [(3, va_rf r5), (0, .ref t0), (1, .int x1), (2, .int x2)]) hx hb dX3_writtenLength_17 rfl hl (by decide) rfl (fun ls hl9 => ?_)
      replace hl := hl9
      refine lv_aloadV_n hx hb dX3_writtenLength_18 rfl (lv_at hl 0 rfl) ?_
      refine lv_ifnullV (tgt := 46) hx hb dX3_writtenLength_19 (by decide) (fun c10 => ?_) (fun a11 c10 => ?_)
      · subst c10
        replace hw := hw.1 rfl
        obtain ⟨v12, ev12⟩ : ∃ y : Int32, y = x2 + 1 := ⟨_, rfl⟩
        replace hw := hw v12 ev12
        refine lv_iinc (v := v12) (lv' := [(2, .int v12), (3, .null), (0, .ref t0), (1, .int x1)]) hx hb dX3_writtenLength_46 hl (k := 3) rfl (by rw [ev12]; rfl) (by decide) rfl (fun ls hl9 => ?_)
        replace hl := hl9
        refine lv_goto (tgt := 4) hx hb dX3_writtenLength_49 (by decide) ?_
        exact ih x1 v12   hw _ _ _ hW (lv_sub hl [2, 3, 0] rfl)
      · subst c10
        replace hw := hw.2 a11 rfl
        refine lv_iload_n hx hb dX3_writtenLength_22 rfl (lv_at hl 2 rfl) ?_
        refine lv_aload_n hx hb dX3_writtenLength_23 rfl (lv_at hl 0 rfl) ?_
        obtain ⟨o13, h14, hw⟩ := hw
        refine h_getRN C0 hW (host := RX9) (T := TX0) (kf := 0) in_X3_writtenLength_RX0 h14 rfl (by decide) (by decide +kernel) rfl dX3_writtenLength_24 ?_
        refine h_goi C0 hW (va_runS (As := [va_rf o13]) (rest := [.int x1]) ⟨hx, hb, hml, ho, hts⟩ (k_X1_escapedLength (l := l) (u := u) (X := X) (sz := H.size) _ o13 S  hw) (va_cwS 1 hts gX3_writtenLength_X1_escapedLength rfl rfl rfl (by decide +kernel) ⟨Nat.le_of_ble_eq_true rfl, Nat.le_of_ble_eq_true rfl⟩) ⟨h_blind, (h_pre C0 hW [va_rf o13])⟩ rfl rfl hl.1 rfl (lv_room (Nat.le_of_ble_eq_true rfl)) dX3_writtenLength_27 ⟨Nat.le_refl _, Nat.le_refl _⟩) (fun r15 S16 H locs h17 hW => ?_)
        obtain ⟨h18, hp⟩ := h17
        rw [h18] at hW
        replace hw := hp
        refine lv_iconst (v := 1) hx hb dX3_writtenLength_30 (by decide) ?_
        refine lv_iadd hx hb dX3_writtenLength_31 ?_
        refine lv_iadd hx hb dX3_writtenLength_32 ?_
        refine lv_topi (fun v19 ev19 => ?_)
        replace hw := hw v19 ev19
        refine lv_istore_n (lv' := [(1, .int v19), (3, .ref a11), (0, .ref t0), (2, .int x2)]) hx hb dX3_writtenLength_33 rfl hl (by decide) rfl (fun ls hl9 => ?_)
        replace hl := hl9
        refine lv_iload_n hx hb dX3_writtenLength_34 rfl (lv_at hl 0 rfl) ?_
        refine lv_aload_n hx hb dX3_writtenLength_35 rfl (lv_at hl 1 rfl) ?_
        obtain ⟨o20, h21, hw⟩ := hw
        refine h_getRN C0 hW (host := RX9) (T := TX0) (kf := 1) in_X3_writtenLength_RX0 h21 rfl (by decide) (by decide +kernel) rfl dX3_writtenLength_36 ?_
        refine h_goi C0 hW (va_runS (As := [va_rf o20]) (rest := [.int v19]) ⟨hx, hb, hml, ho, hts⟩ (k_X1_escapedLength (l := l) (u := u) (X := X) (sz := H.size) _ o20 S  hw) (va_cwS 1 hts gX3_writtenLength_X1_escapedLength rfl rfl rfl (by decide +kernel) ⟨Nat.le_of_ble_eq_true rfl, Nat.le_of_ble_eq_true rfl⟩) ⟨h_blind, (h_pre C0 hW [va_rf o20])⟩ rfl rfl hl.1 rfl (lv_room (Nat.le_of_ble_eq_true rfl)) dX3_writtenLength_39 ⟨Nat.le_refl _, Nat.le_refl _⟩) (fun r22 S23 H locs h24 hW => ?_)
        obtain ⟨h25, hp⟩ := h24
        rw [h25] at hW
        replace hw := hp
        refine lv_iconst (v := 1) hx hb dX3_writtenLength_42 (by decide) ?_
        refine lv_iadd hx hb dX3_writtenLength_43 ?_
        refine lv_iadd hx hb dX3_writtenLength_44 ?_
        refine lv_topi (fun v26 ev26 => ?_)
        replace hw := hw v26 ev26
        refine lv_istore_n (lv' := [(1, .int v26), (3, .ref a11), (0, .ref t0), (2, .int x2)]) hx hb dX3_writtenLength_45 rfl hl (by decide) rfl (fun ls hl9 => ?_)
        replace hl := hl9
        obtain ⟨v27, ev27⟩ : ∃ y : Int32, y = x2 + 1 := ⟨_, rfl⟩
        replace hw := hw v27 ev27
        refine lv_iinc (v := v27) (lv' := [(2, .int v27), (1, .int v26), (3, .ref a11), (0, .ref t0)]) hx hb dX3_writtenLength_46 hl (k := 3) rfl (by rw [ev27]; rfl) (by decide) rfl (fun ls hl9 => ?_)
        replace hl := hl9
        refine lv_goto (tgt := 4) hx hb dX3_writtenLength_49 (by decide) ?_
        exact ih v26 v27   hw _ _ _ hW (lv_sub hl [3, 1, 0] rfl)
set_option maxHeartbeats 4000000 in
set_option maxRecDepth 100000 in
theorem t_X3_writtenLength_0 (C0 : hX p s m args c cX3_writtenLength 4 RX3 wsX3_writtenLength D (gt u.2.1) A u.1 u.2.2) {S : hS} (t0 : Nat) (post : Int32 → Prop) (hret : ∀ (r : Int32) (S' : hS) (pc : Nat) (lv : List (Nat × Value)) (k n : Nat), k ≤ 0 → n ≤ 0 → (S' = S ∧ post r) → narrow .int (.int r) = .int r → decode cX3_writtenLength pc = .ok (.ireturn, 1) → gG p l e (rm_X3_writtenLength) s m args below meth c Q D A 4 k n (hC X S') pc lv [.int r])  : w_X3_writtenLength u post t0   S → gG p l e (rm_X3_writtenLength) s m args below meth c Q D A 4 0 0 (hC X S) 0 [(0, .ref t0)] [] := by
  obtain ⟨⟨hx, hb, hml, ho, hts, hK, hA⟩, hR⟩ := id C0
  intro  hw H locs ls hW hl
  rw [w_X3_writtenLength] at hw
  refine lv_iconst (v := 0) hx hb dX3_writtenLength_0 (by decide) ?_
  refine lv_istore_n (lv' := [(1, .int 0), (0, .ref t0)]) hx hb dX3_writtenLength_1 rfl hl (by decide) rfl (fun ls hl9 => ?_)
  replace hl := hl9
  refine lv_iconst (v := 0) hx hb dX3_writtenLength_2 (by decide) ?_
  refine lv_istore_n (lv' := [(2, .int 0), (1, .int 0), (0, .ref t0)]) hx hb dX3_writtenLength_3 rfl hl (by decide) rfl (fun ls hl9 => ?_)
  replace hl := hl9
  obtain ⟨n1, hw⟩ := hw
  exact t_X3_writtenLength_4 C0 t0 post hret  n1 0 0   hw _ _ _ hW (lv_sub hl [2, 1, 0] rfl)
set_option maxHeartbeats 4000000 in
set_option maxRecDepth 100000 in
theorem k_X3_writtenLength {l : Launch} {D : va_G} {u : hU} {X : va_W} {sz : Nat} (post : Int32 → Prop) (t0 : Nat) (S : hS) (hw : w_X3_writtenLength u post t0  S) : hMi l yX3_writtenLength wsX3_writtenLength rm_X3_writtenLength D (gt u.2.1) u.1 u.2.2 sz X S [.ref t0] (fun r S' => S' = S ∧ post r) 0 0 := by
  refine hMi_of (cc := cX3_writtenLength) (nL := 4) (ty := .int) (own := RX3) (by decide) rfl rfl (Nat.le_of_ble_eq_true rfl) ?_
  intro p e s m args below meth c A Q C0 hin hret
  exact t_X3_writtenLength_0 C0 t0 post hret  hw
end RAWM
