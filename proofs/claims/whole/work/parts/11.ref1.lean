section REFM
variable {p : Program} {l : Launch} {e : Env} {s : State} {m : MethodId} {args : Array Value} {below : List Frame} {meth : Method} {c : Code} {Q : State → Prop}
variable {D : va_G} {A : Nat → Prop} {cI cZ : ClassId} {ty' : List (ClassId × FieldType)} {ad : Nat → Nat} {Y : va_W}
abbrev rm_isSlot : Room := { frames := 0, cells := 0, slots := 0, locals := 0 }
set_option maxHeartbeats 4000000 in
set_option maxRecDepth 100000 in
theorem k_isSlot {l : Launch} (post : Int32 → Prop) (a1 : Int32) (hw : q_isSlot post a1) : gMs l yX10_isSlot wsX10_isSlot rm_isSlot [.int a1] post := by
  refine gMs_of (cc := cX10_isSlot) (nL := 1) (ty := .boolean) (own := RX10) (by decide) rfl rfl (Nat.le_of_ble_eq_true rfl) ?_
  intro p e s m args below meth c Q hx hb hml ho hts hret ls hl
  rw [q_isSlot] at hw
  refine lv_iload_n hx hb dX10_isSlot_0 rfl (lv_at hl 0 rfl) ?_
  refine lv_if_lt (tgt := 14) hx hb dX10_isSlot_1 (by decide) (fun c1 => ?_) (fun c1 => ?_)
  · have hw := hw.1 c1
    try dsimp only at hw
    refine lv_iconst (v := 0) hx hb dX10_isSlot_14 (by decide) ?_
    exact hret 0 _ _ hw (by decide) dX10_isSlot_15
  · have hw := hw.2 c1
    try dsimp only at hw
    refine lv_iload_n hx hb dX10_isSlot_4 rfl (lv_at hl 0 rfl) ?_
    refine lv_bipush (v := 6) hx hb dX10_isSlot_5 (by decide) ?_
    refine lv_icmp_ge (tgt := 14) hx hb dX10_isSlot_7 (by decide) (fun c2 => ?_) (fun c2 => ?_)
    · have hw := hw.1 c2
      try dsimp only at hw
      refine lv_iconst (v := 0) hx hb dX10_isSlot_14 (by decide) ?_
      exact hret 0 _ _ hw (by decide) dX10_isSlot_15
    · have hw := hw.2 c2
      try dsimp only at hw
      refine lv_iconst (v := 1) hx hb dX10_isSlot_10 (by decide) ?_
      refine lv_goto (tgt := 15) hx hb dX10_isSlot_11 (by decide) ?_
      exact hret 1 _ _ hw (by decide) dX10_isSlot_15
abbrev rm_isLayer : Room := { frames := 0, cells := 0, slots := 0, locals := 0 }
set_option maxHeartbeats 4000000 in
set_option maxRecDepth 100000 in
theorem k_isLayer {l : Launch} (post : Int32 → Prop) (a1 : Int32) (hw : q_isLayer post a1) : gMs l yX10_isLayer wsX10_isLayer rm_isLayer [.int a1] post := by
  refine gMs_of (cc := cX10_isLayer) (nL := 1) (ty := .boolean) (own := RX10) (by decide) rfl rfl (Nat.le_of_ble_eq_true rfl) ?_
  intro p e s m args below meth c Q hx hb hml ho hts hret ls hl
  rw [q_isLayer] at hw
  refine lv_iload_n hx hb dX10_isLayer_0 rfl (lv_at hl 0 rfl) ?_
  refine lv_if_lt (tgt := 13) hx hb dX10_isLayer_1 (by decide) (fun c1 => ?_) (fun c1 => ?_)
  · have hw := hw.1 c1
    try dsimp only at hw
    refine lv_iconst (v := 0) hx hb dX10_isLayer_13 (by decide) ?_
    exact hret 0 _ _ hw (by decide) dX10_isLayer_14
  · have hw := hw.2 c1
    try dsimp only at hw
    refine lv_iload_n hx hb dX10_isLayer_4 rfl (lv_at hl 0 rfl) ?_
    refine lv_iconst (v := 4) hx hb dX10_isLayer_5 (by decide) ?_
    refine lv_icmp_ge (tgt := 13) hx hb dX10_isLayer_6 (by decide) (fun c2 => ?_) (fun c2 => ?_)
    · have hw := hw.1 c2
      try dsimp only at hw
      refine lv_iconst (v := 0) hx hb dX10_isLayer_13 (by decide) ?_
      exact hret 0 _ _ hw (by decide) dX10_isLayer_14
    · have hw := hw.2 c2
      try dsimp only at hw
      refine lv_iconst (v := 1) hx hb dX10_isLayer_9 (by decide) ?_
      refine lv_goto (tgt := 14) hx hb dX10_isLayer_10 (by decide) ?_
      exact hret 1 _ _ hw (by decide) dX10_isLayer_14
abbrev rm_at : Room := { frames := 0, cells := 0, slots := 0, locals := 0 }
set_option maxHeartbeats 4000000 in
set_option maxRecDepth 100000 in
theorem k_at {l : Launch} (post : Int32 → Prop) (a1 : Int32) (hw : q_at post a1) : gMs l yX10_at wsX10_at rm_at [.int a1] post := by
  refine gMs_of (cc := cX10_at) (nL := 1) (ty := .int) (own := RX10) (by decide) rfl rfl (Nat.le_of_ble_eq_true rfl) ?_
  intro p e s m args below meth c Q hx hb hml ho hts hret ls hl
  rw [q_at] at hw
  refine lv_sipush (v := 301) hx hb dX10_at_0 (by decide) ?_
  refine lv_iload_n hx hb dX10_at_3 rfl (lv_at hl 0 rfl) ?_
  refine lv_imul hx hb dX10_at_4 ?_
  exact hret (301 * a1) _ _ hw rfl dX10_at_5
abbrev rm_hasNothing : Room := { frames := 1, cells := 0, slots := 0, locals := 20 }
theorem in_hasNothing : ∀ w ∈ wsX100, w ∈ wsX10_hasNothing := fun w hw => List.mem_cons_of_mem _ (List.mem_append_right _ hw)
set_option maxHeartbeats 4000000 in
set_option maxRecDepth 100000 in
theorem t_hasNothing_0 (C0 : rX p s m args c cX10_hasNothing 2 RX10 wsX10_hasNothing D ((cI, .int) :: (cZ, .boolean) :: ty') A) (post : Int32 → RM → Prop) (hret : ∀ (r : Int32) (M' : RM) (pc : Nat) (lv : List (Nat × Value)) (k n : Nat), k ≤ 0 → n ≤ 0 → post r M' → narrow .boolean (.int r) = .int r → decode cX10_hasNothing pc = .ok (.ireturn, 1) → gG p l e rm_hasNothing s m args below meth c Q D A 2 k n (rcells cI cZ ad M' Y) pc lv [.int r])  : ∀  (a1 : Int32) (M : RM), w_hasNothing post   a1 M → gG p l e rm_hasNothing s m args below meth c Q D A 2 0 0 (rcells cI cZ ad M Y) 0 [(0, .ref (ad 0)), (1, .int a1)] [] := by
  obtain ⟨hx, hb, hml, ho, hts, hK, hA⟩ := id C0
  have hin := in_hasNothing
  intro a1 M hw H locs ls hW hl
  rw [w_hasNothing] at hw
  refine lv_aload_n hx hb dX10_hasNothing_0 rfl (lv_at hl 0 rfl) ?_
  refine r_get C0 hin hW 0 (by decide) (v := .ref (ad 1)) rfl (List.mem_of_getElem? (i := 1) rfl) rfl dX10_hasNothing_1 ?_
  refine lv_iload_n hx hb dX10_hasNothing_4 rfl (lv_at hl 1 rfl) ?_
  refine g_calls (As := [.int a1]) (rest := [.ref (ad 1)]) ⟨hx, hb, hml, ho, hts⟩ hl.1 (k_at (l := l) _ a1 hw) (va_cwS 1 hts gX10_hasNothing_X10_at rfl rfl rfl (by decide +kernel) ⟨Nat.le_of_ble_eq_true rfl, Nat.le_of_ble_eq_true rfl⟩) (Nat.le_of_ble_eq_true rfl) dX10_hasNothing_5 rfl ⟨Nat.le_of_ble_eq_true rfl, Nat.le_of_ble_eq_true rfl⟩ (fun r1 hw => ?_)
  try dsimp only at hw
  obtain ⟨h2, hw⟩ := hw
  refine r_iald C0 hW 1 rfl rfl h2 dX10_hasNothing_8 ?_
  refine lv_if_ge (tgt := 16) hx hb dX10_hasNothing_9 (by decide) (fun c3 => ?_) (fun c3 => ?_)
  · have hw := hw.1 c3
    try dsimp only at hw
    refine lv_iconst (v := 0) hx hb dX10_hasNothing_16 (by decide) ?_
    exact hret 0 M _ _ 0 0 (Nat.le_refl _) (Nat.le_refl _) hw (by decide) dX10_hasNothing_17 _ _ _ hW hl
  · have hw := hw.2 c3
    try dsimp only at hw
    refine lv_iconst (v := 1) hx hb dX10_hasNothing_12 (by decide) ?_
    refine lv_goto (tgt := 17) hx hb dX10_hasNothing_13 (by decide) ?_
    exact hret 1 M _ _ 0 0 (Nat.le_refl _) (Nat.le_refl _) hw (by decide) dX10_hasNothing_17 _ _ _ hW hl
set_option maxHeartbeats 4000000 in
set_option maxRecDepth 100000 in
theorem k_hasNothing {l : Launch} {D : va_G} {cI cZ : ClassId} {ty' : List (ClassId × FieldType)} {ad : Nat → Nat} {Y : va_W} {sz : Nat} (post : Int32 → RM → Prop) (a1 : Int32) (M : RM) (hw : w_hasNothing post a1 M) : gMi l yX10_hasNothing wsX10_hasNothing rm_hasNothing D ((cI, .int) :: (cZ, .boolean) :: ty') sz (fun M => rcells cI cZ ad M Y) M [.ref (ad 0), .int a1] post 0 0 := by
  refine gMi_of (cc := cX10_hasNothing) (nL := 2) (ty := .boolean) (own := RX10) (by decide) rfl rfl (Nat.le_of_ble_eq_true rfl) ?_
  intro p e s m args below meth c A Q C0 hret
  exact t_hasNothing_0 C0 post hret a1 M hw
abbrev rm_copyText : Room := { frames := 0, cells := 0, slots := 0, locals := 0 }
theorem in_copyText : ∀ w ∈ wsX100, w ∈ wsX10_copyText := fun w hw => List.mem_cons_of_mem _ (List.mem_append_right _ hw)
set_option maxHeartbeats 4000000 in
set_option maxRecDepth 100000 in
theorem t_copyText_14 (C0 : rX p s m args c cX10_copyText 4 RX10 wsX10_copyText D ((cI, .int) :: (cZ, .boolean) :: ty') A) (post : RM → Prop) (hret : ∀ (M' : RM) (pc : Nat) (lv : List (Nat × Value)) (k n : Nat), k ≤ 0 → n ≤ 0 → post M' → decode cX10_copyText pc = .ok (.return_, 1) → gG p l e rm_copyText s m args below meth c Q D A 4 k n (rcells cI cZ ad M' Y) pc lv [])  : ∀ (nf : Nat) (x1 x2 x3 : Int32) (M : RM), w_copyText_14 post  nf x1 x2 x3 M → gG p l e rm_copyText s m args below meth c Q D A 4 0 0 (rcells cI cZ ad M Y) 14 [(0, .ref (ad 0)), (1, .int x1), (2, .int x2), (3, .int x3)] [] := by
  obtain ⟨hx, hb, hml, ho, hts, hK, hA⟩ := id C0
  have hin := in_copyText
  intro nf
  induction nf with
  | zero => intro x1 x2 x3 M hw; exact hw.elim
  | succ nf ih =>
    intro x1 x2 x3 M hw H locs ls hW hl
    rw [w_copyText_14] at hw
    refine lv_iload_n hx hb dX10_copyText_14 rfl (lv_at hl 3 rfl) ?_
    refine lv_aload_n hx hb dX10_copyText_15 rfl (lv_at hl 0 rfl) ?_
    refine r_get C0 hin hW 0 (by decide) (v := .ref (ad 1)) rfl (List.mem_of_getElem? (i := 1) rfl) rfl dX10_copyText_16 ?_
    refine lv_iload_n hx hb dX10_copyText_19 rfl (lv_at hl 1 rfl) ?_
    obtain ⟨h5, hw⟩ := hw
    refine r_iald C0 hW 1 rfl rfl h5 dX10_copyText_20 ?_
    refine lv_icmp_gt (tgt := 46) hx hb dX10_copyText_21 (by decide) (fun c6 => ?_) (fun c6 => ?_)
    · have hw := hw.1 c6
      try dsimp only at hw
      exact hret M _ _ 0 0 (Nat.le_refl _) (Nat.le_refl _) hw dX10_copyText_46 _ _ _ hW hl
    · have hw := hw.2 c6
      try dsimp only at hw
      refine lv_aload_n hx hb dX10_copyText_24 rfl (lv_at hl 0 rfl) ?_
      refine r_get C0 hin hW 0 (by decide) (v := .ref (ad 1)) rfl (List.mem_of_getElem? (i := 1) rfl) rfl dX10_copyText_25 ?_
      refine lv_iload_n hx hb dX10_copyText_28 rfl (lv_at hl 2 rfl) ?_
      refine lv_iload_n hx hb dX10_copyText_29 rfl (lv_at hl 3 rfl) ?_
      refine lv_iadd hx hb dX10_copyText_30 ?_
      refine lv_aload_n hx hb dX10_copyText_31 rfl (lv_at hl 0 rfl) ?_
      refine r_get C0 hin hW 0 (by decide) (v := .ref (ad 1)) rfl (List.mem_of_getElem? (i := 1) rfl) rfl dX10_copyText_32 ?_
      refine lv_iload_n hx hb dX10_copyText_35 rfl (lv_at hl 1 rfl) ?_
      refine lv_iload_n hx hb dX10_copyText_36 rfl (lv_at hl 3 rfl) ?_
      refine lv_iadd hx hb dX10_copyText_37 ?_
      obtain ⟨h7, hw⟩ := hw
      refine r_iald C0 hW 1 rfl rfl h7 dX10_copyText_38 ?_
      obtain ⟨h8, hw⟩ := hw
      refine r_iast C0 hW 1 rfl rfl h8 rfl dX10_copyText_39 (fun M9 H locs eM9 hW => ?_)
      have hw := hw M9 eM9
      obtain ⟨v10, ev10⟩ : ∃ y : Int32, y = x3 + 1 := ⟨_, rfl⟩
      have hw := hw v10 ev10
      refine lv_iinc (v := v10) (lv' := [(3, .int v10), (0, .ref (ad 0)), (1, .int x1), (2, .int x2)]) hx hb dX10_copyText_40 hl (k := 3) rfl (by rw [ev10]; rfl) (by decide) rfl (fun ls hl => ?_)
      refine lv_goto (tgt := 14) hx hb dX10_copyText_43 (by decide) ?_
      exact ih x1 x2 v10 M9 hw _ _ _ hW (lv_sub hl [1, 2, 3, 0] rfl)
set_option maxHeartbeats 4000000 in
set_option maxRecDepth 100000 in
theorem t_copyText_0 (C0 : rX p s m args c cX10_copyText 4 RX10 wsX10_copyText D ((cI, .int) :: (cZ, .boolean) :: ty') A) (post : RM → Prop) (hret : ∀ (M' : RM) (pc : Nat) (lv : List (Nat × Value)) (k n : Nat), k ≤ 0 → n ≤ 0 → post M' → decode cX10_copyText pc = .ok (.return_, 1) → gG p l e rm_copyText s m args below meth c Q D A 4 k n (rcells cI cZ ad M' Y) pc lv [])  : ∀  (a1 a2 : Int32) (M : RM), w_copyText post   a1 a2 M → gG p l e rm_copyText s m args below meth c Q D A 4 0 0 (rcells cI cZ ad M Y) 0 [(0, .ref (ad 0)), (1, .int a1), (2, .int a2)] [] := by
  obtain ⟨hx, hb, hml, ho, hts, hK, hA⟩ := id C0
  have hin := in_copyText
  intro a1 a2 M hw H locs ls hW hl
  rw [w_copyText] at hw
  refine lv_aload_n hx hb dX10_copyText_0 rfl (lv_at hl 0 rfl) ?_
  refine r_get C0 hin hW 0 (by decide) (v := .ref (ad 1)) rfl (List.mem_of_getElem? (i := 1) rfl) rfl dX10_copyText_1 ?_
  refine lv_iload_n hx hb dX10_copyText_4 rfl (lv_at hl 2 rfl) ?_
  refine lv_aload_n hx hb dX10_copyText_5 rfl (lv_at hl 0 rfl) ?_
  refine r_get C0 hin hW 0 (by decide) (v := .ref (ad 1)) rfl (List.mem_of_getElem? (i := 1) rfl) rfl dX10_copyText_6 ?_
  refine lv_iload_n hx hb dX10_copyText_9 rfl (lv_at hl 1 rfl) ?_
  obtain ⟨h1, hw⟩ := hw
  refine r_iald C0 hW 1 rfl rfl h1 dX10_copyText_10 ?_
  obtain ⟨h2, hw⟩ := hw
  refine r_iast C0 hW 1 rfl rfl h2 rfl dX10_copyText_11 (fun M3 H locs eM3 hW => ?_)
  have hw := hw M3 eM3
  refine lv_iconst (v := 1) hx hb dX10_copyText_12 (by decide) ?_
  refine lv_istore_n (lv' := [(3, .int 1), (0, .ref (ad 0)), (1, .int a1), (2, .int a2)]) hx hb dX10_copyText_13 rfl hl (by decide) rfl (fun ls hl => ?_)
  obtain ⟨n4, hw⟩ := hw
  exact t_copyText_14 C0 post hret  n4 a1 a2 1 M3 hw _ _ _ hW (lv_sub hl [1, 2, 3, 0] rfl)
set_option maxHeartbeats 4000000 in
set_option maxRecDepth 100000 in
theorem k_copyText {l : Launch} {D : va_G} {cI cZ : ClassId} {ty' : List (ClassId × FieldType)} {ad : Nat → Nat} {Y : va_W} {sz : Nat} (post : RM → Prop) (a1 a2 : Int32) (M : RM) (hw : w_copyText post a1 a2 M) : gMv l yX10_copyText wsX10_copyText rm_copyText D ((cI, .int) :: (cZ, .boolean) :: ty') sz (fun M => rcells cI cZ ad M Y) M [.ref (ad 0), .int a1, .int a2] post 0 0 := by
  refine gMv_of (cc := cX10_copyText) (nL := 4) (own := RX10) (by decide) rfl rfl (Nat.le_of_ble_eq_true rfl) ?_
  intro p e s m args below meth c A Q C0 hret
  exact t_copyText_0 C0 post hret a1 a2 M hw
abbrev rm_addText : Room := { frames := 0, cells := 0, slots := 0, locals := 0 }
theorem in_addText : ∀ w ∈ wsX100, w ∈ wsX10_addText := fun w hw => List.mem_cons_of_mem _ (List.mem_append_right _ hw)
set_option maxHeartbeats 4000000 in
set_option maxRecDepth 100000 in
theorem t_addText_10 (C0 : rX p s m args c cX10_addText 5 RX10 wsX10_addText D ((cI, .int) :: (cZ, .boolean) :: ty') A) (post : RM → Prop) (hret : ∀ (M' : RM) (pc : Nat) (lv : List (Nat × Value)) (k n : Nat), k ≤ 0 → n ≤ 0 → post M' → decode cX10_addText pc = .ok (.return_, 1) → gG p l e rm_addText s m args below meth c Q D A 5 k n (rcells cI cZ ad M' Y) pc lv [])  : ∀ (nf : Nat) (x1 x2 x3 x4 : Int32) (M : RM), w_addText_10 post  nf x1 x2 x3 x4 M → gG p l e rm_addText s m args below meth c Q D A 5 0 0 (rcells cI cZ ad M Y) 10 [(0, .ref (ad 0)), (1, .int x1), (2, .int x2), (3, .int x3), (4, .int x4)] [] := by
  obtain ⟨hx, hb, hml, ho, hts, hK, hA⟩ := id C0
  have hin := in_addText
  intro nf
  induction nf with
  | zero => intro x1 x2 x3 x4 M hw; exact hw.elim
  | succ nf ih =>
    intro x1 x2 x3 x4 M hw H locs ls hW hl
    rw [w_addText_10] at hw
    refine lv_iload hx hb dX10_addText_10 (lv_at hl 4 rfl) ?_
    refine lv_aload_n hx hb dX10_addText_12 rfl (lv_at hl 0 rfl) ?_
    refine r_get C0 hin hW 0 (by decide) (v := .ref (ad 1)) rfl (List.mem_of_getElem? (i := 1) rfl) rfl dX10_addText_13 ?_
    refine lv_iload_n hx hb dX10_addText_16 rfl (lv_at hl 1 rfl) ?_
    obtain ⟨h4, hw⟩ := hw
    refine r_iald C0 hW 1 rfl rfl h4 dX10_addText_17 ?_
    refine lv_icmp_gt (tgt := 47) hx hb dX10_addText_18 (by decide) (fun c5 => ?_) (fun c5 => ?_)
    · have hw := hw.1 c5
      try dsimp only at hw
      refine lv_aload_n hx hb dX10_addText_47 rfl (lv_at hl 0 rfl) ?_
      refine r_get C0 hin hW 0 (by decide) (v := .ref (ad 1)) rfl (List.mem_of_getElem? (i := 1) rfl) rfl dX10_addText_48 ?_
      refine lv_iload_n hx hb dX10_addText_51 rfl (lv_at hl 2 rfl) ?_
      refine lv_iload_n hx hb dX10_addText_52 rfl (lv_at hl 3 rfl) ?_
      refine lv_aload_n hx hb dX10_addText_53 rfl (lv_at hl 0 rfl) ?_
      refine r_get C0 hin hW 0 (by decide) (v := .ref (ad 1)) rfl (List.mem_of_getElem? (i := 1) rfl) rfl dX10_addText_54 ?_
      refine lv_iload_n hx hb dX10_addText_57 rfl (lv_at hl 1 rfl) ?_
      obtain ⟨h6, hw⟩ := hw
      refine r_iald C0 hW 1 rfl rfl h6 dX10_addText_58 ?_
      refine lv_iadd hx hb dX10_addText_59 ?_
      obtain ⟨h7, hw⟩ := hw
      refine r_iast C0 hW 1 rfl rfl h7 rfl dX10_addText_60 (fun M8 H locs eM8 hW => ?_)
      have hw := hw M8 eM8
      exact hret M8 _ _ 0 0 (Nat.le_refl _) (Nat.le_refl _) hw dX10_addText_61 _ _ _ hW hl
    · have hw := hw.2 c5
      try dsimp only at hw
      refine lv_aload_n hx hb dX10_addText_21 rfl (lv_at hl 0 rfl) ?_
      refine r_get C0 hin hW 0 (by decide) (v := .ref (ad 1)) rfl (List.mem_of_getElem? (i := 1) rfl) rfl dX10_addText_22 ?_
      refine lv_iload_n hx hb dX10_addText_25 rfl (lv_at hl 2 rfl) ?_
      refine lv_iload_n hx hb dX10_addText_26 rfl (lv_at hl 3 rfl) ?_
      refine lv_iadd hx hb dX10_addText_27 ?_
      refine lv_iload hx hb dX10_addText_28 (lv_at hl 4 rfl) ?_
      refine lv_iadd hx hb dX10_addText_30 ?_
      refine lv_aload_n hx hb dX10_addText_31 rfl (lv_at hl 0 rfl) ?_
      refine r_get C0 hin hW 0 (by decide) (v := .ref (ad 1)) rfl (List.mem_of_getElem? (i := 1) rfl) rfl dX10_addText_32 ?_
      refine lv_iload_n hx hb dX10_addText_35 rfl (lv_at hl 1 rfl) ?_
      refine lv_iload hx hb dX10_addText_36 (lv_at hl 4 rfl) ?_
      refine lv_iadd hx hb dX10_addText_38 ?_
      obtain ⟨h9, hw⟩ := hw
      refine r_iald C0 hW 1 rfl rfl h9 dX10_addText_39 ?_
      obtain ⟨h10, hw⟩ := hw
      refine r_iast C0 hW 1 rfl rfl h10 rfl dX10_addText_40 (fun M11 H locs eM11 hW => ?_)
      have hw := hw M11 eM11
      obtain ⟨v12, ev12⟩ : ∃ y : Int32, y = x4 + 1 := ⟨_, rfl⟩
      have hw := hw v12 ev12
      refine lv_iinc (v := v12) (lv' := [(4, .int v12), (0, .ref (ad 0)), (1, .int x1), (2, .int x2), (3, .int x3)]) hx hb dX10_addText_41 hl (k := 4) rfl (by rw [ev12]; rfl) (by decide) rfl (fun ls hl => ?_)
      refine lv_goto (tgt := 10) hx hb dX10_addText_44 (by decide) ?_
      exact ih x1 x2 x3 v12 M11 hw _ _ _ hW (lv_sub hl [1, 2, 3, 4, 0] rfl)
set_option maxHeartbeats 4000000 in
set_option maxRecDepth 100000 in
theorem t_addText_0 (C0 : rX p s m args c cX10_addText 5 RX10 wsX10_addText D ((cI, .int) :: (cZ, .boolean) :: ty') A) (post : RM → Prop) (hret : ∀ (M' : RM) (pc : Nat) (lv : List (Nat × Value)) (k n : Nat), k ≤ 0 → n ≤ 0 → post M' → decode cX10_addText pc = .ok (.return_, 1) → gG p l e rm_addText s m args below meth c Q D A 5 k n (rcells cI cZ ad M' Y) pc lv [])  : ∀  (a1 a2 : Int32) (M : RM), w_addText post   a1 a2 M → gG p l e rm_addText s m args below meth c Q D A 5 0 0 (rcells cI cZ ad M Y) 0 [(0, .ref (ad 0)), (1, .int a1), (2, .int a2)] [] := by
  obtain ⟨hx, hb, hml, ho, hts, hK, hA⟩ := id C0
  have hin := in_addText
  intro a1 a2 M hw H locs ls hW hl
  rw [w_addText] at hw
  refine lv_aload_n hx hb dX10_addText_0 rfl (lv_at hl 0 rfl) ?_
  refine r_get C0 hin hW 0 (by decide) (v := .ref (ad 1)) rfl (List.mem_of_getElem? (i := 1) rfl) rfl dX10_addText_1 ?_
  refine lv_iload_n hx hb dX10_addText_4 rfl (lv_at hl 2 rfl) ?_
  obtain ⟨h1, hw⟩ := hw
  refine r_iald C0 hW 1 rfl rfl h1 dX10_addText_5 ?_
  refine lv_topi (fun v2 ev2 => ?_)
  have hw := hw v2 ev2
  refine lv_istore_n (lv' := [(3, .int v2), (0, .ref (ad 0)), (1, .int a1), (2, .int a2)]) hx hb dX10_addText_6 rfl hl (by decide) rfl (fun ls hl => ?_)
  refine lv_iconst (v := 1) hx hb dX10_addText_7 (by decide) ?_
  refine lv_istore (lv' := [(4, .int 1), (3, .int v2), (0, .ref (ad 0)), (1, .int a1), (2, .int a2)]) hx hb dX10_addText_8 hl (by decide) rfl (fun ls hl => ?_)
  obtain ⟨n3, hw⟩ := hw
  exact t_addText_10 C0 post hret  n3 a1 a2 v2 1 M hw _ _ _ hW (lv_sub hl [2, 3, 4, 1, 0] rfl)
set_option maxHeartbeats 4000000 in
set_option maxRecDepth 100000 in
theorem k_addText {l : Launch} {D : va_G} {cI cZ : ClassId} {ty' : List (ClassId × FieldType)} {ad : Nat → Nat} {Y : va_W} {sz : Nat} (post : RM → Prop) (a1 a2 : Int32) (M : RM) (hw : w_addText post a1 a2 M) : gMv l yX10_addText wsX10_addText rm_addText D ((cI, .int) :: (cZ, .boolean) :: ty') sz (fun M => rcells cI cZ ad M Y) M [.ref (ad 0), .int a1, .int a2] post 0 0 := by
  refine gMv_of (cc := cX10_addText) (nL := 5) (own := RX10) (by decide) rfl rfl (Nat.le_of_ble_eq_true rfl) ?_
  intro p e s m args below meth c A Q C0 hret
  exact t_addText_0 C0 post hret a1 a2 M hw
abbrev rm_addSign : Room := { frames := 0, cells := 0, slots := 0, locals := 0 }
theorem in_addSign : ∀ w ∈ wsX100, w ∈ wsX10_addSign := fun w hw => List.mem_cons_of_mem _ (List.mem_append_right _ hw)
set_option maxHeartbeats 4000000 in
set_option maxRecDepth 100000 in
theorem t_addSign_0 (C0 : rX p s m args c cX10_addSign 3 RX10 wsX10_addSign D ((cI, .int) :: (cZ, .boolean) :: ty') A) (post : RM → Prop) (hret : ∀ (M' : RM) (pc : Nat) (lv : List (Nat × Value)) (k n : Nat), k ≤ 0 → n ≤ 0 → post M' → decode cX10_addSign pc = .ok (.return_, 1) → gG p l e rm_addSign s m args below meth c Q D A 3 k n (rcells cI cZ ad M' Y) pc lv [])  : ∀  (a1 a2 : Int32) (M : RM), w_addSign post   a1 a2 M → gG p l e rm_addSign s m args below meth c Q D A 3 0 0 (rcells cI cZ ad M Y) 0 [(0, .ref (ad 0)), (1, .int a1), (2, .int a2)] [] := by
  obtain ⟨hx, hb, hml, ho, hts, hK, hA⟩ := id C0
  have hin := in_addSign
  intro a1 a2 M hw H locs ls hW hl
  rw [w_addSign] at hw
  refine lv_aload_n hx hb dX10_addSign_0 rfl (lv_at hl 0 rfl) ?_
  refine r_get C0 hin hW 0 (by decide) (v := .ref (ad 1)) rfl (List.mem_of_getElem? (i := 1) rfl) rfl dX10_addSign_1 ?_
  refine lv_iload_n hx hb dX10_addSign_4 rfl (lv_at hl 1 rfl) ?_
  refine lv_dup2_11 hx hb dX10_addSign_5 rfl rfl ?_
  obtain ⟨h1, hw⟩ := hw
  refine r_iald C0 hW 1 rfl rfl h1 dX10_addSign_6 ?_
  refine lv_iconst (v := 1) hx hb dX10_addSign_7 (by decide) ?_
  refine lv_iadd hx hb dX10_addSign_8 ?_
  obtain ⟨h2, hw⟩ := hw
  refine r_iast C0 hW 1 rfl rfl h2 rfl dX10_addSign_9 (fun M3 H locs eM3 hW => ?_)
  have hw := hw M3 eM3
  refine lv_aload_n hx hb dX10_addSign_10 rfl (lv_at hl 0 rfl) ?_
  refine r_get C0 hin hW 0 (by decide) (v := .ref (ad 1)) rfl (List.mem_of_getElem? (i := 1) rfl) rfl dX10_addSign_11 ?_
  refine lv_iload_n hx hb dX10_addSign_14 rfl (lv_at hl 1 rfl) ?_
  refine lv_aload_n hx hb dX10_addSign_15 rfl (lv_at hl 0 rfl) ?_
  refine r_get C0 hin hW 0 (by decide) (v := .ref (ad 1)) rfl (List.mem_of_getElem? (i := 1) rfl) rfl dX10_addSign_16 ?_
  refine lv_iload_n hx hb dX10_addSign_19 rfl (lv_at hl 1 rfl) ?_
  obtain ⟨h4, hw⟩ := hw
  refine r_iald C0 hW 1 rfl rfl h4 dX10_addSign_20 ?_
  refine lv_iadd hx hb dX10_addSign_21 ?_
  refine lv_iload_n hx hb dX10_addSign_22 rfl (lv_at hl 2 rfl) ?_
  obtain ⟨h5, hw⟩ := hw
  refine r_iast C0 hW 1 rfl rfl h5 rfl dX10_addSign_23 (fun M6 H locs eM6 hW => ?_)
  have hw := hw M6 eM6
  exact hret M6 _ _ 0 0 (Nat.le_refl _) (Nat.le_refl _) hw dX10_addSign_24 _ _ _ hW hl
set_option maxHeartbeats 4000000 in
set_option maxRecDepth 100000 in
theorem k_addSign {l : Launch} {D : va_G} {cI cZ : ClassId} {ty' : List (ClassId × FieldType)} {ad : Nat → Nat} {Y : va_W} {sz : Nat} (post : RM → Prop) (a1 a2 : Int32) (M : RM) (hw : w_addSign post a1 a2 M) : gMv l yX10_addSign wsX10_addSign rm_addSign D ((cI, .int) :: (cZ, .boolean) :: ty') sz (fun M => rcells cI cZ ad M Y) M [.ref (ad 0), .int a1, .int a2] post 0 0 := by
  refine gMv_of (cc := cX10_addSign) (nL := 3) (own := RX10) (by decide) rfl rfl (Nat.le_of_ble_eq_true rfl) ?_
  intro p e s m args below meth c A Q C0 hret
  exact t_addSign_0 C0 post hret a1 a2 M hw
abbrev rm_compare : Room := { frames := 0, cells := 0, slots := 0, locals := 0 }
theorem in_compare : ∀ w ∈ wsX100, w ∈ wsX10_compare := fun w hw => List.mem_cons_of_mem _ (List.mem_append_right _ hw)
set_option maxHeartbeats 4000000 in
set_option maxRecDepth 100000 in
theorem t_compare_34 (C0 : rX p s m args c cX10_compare 5 RX10 wsX10_compare D ((cI, .int) :: (cZ, .boolean) :: ty') A) (post : Int32 → RM → Prop) (hret : ∀ (r : Int32) (M' : RM) (pc : Nat) (lv : List (Nat × Value)) (k n : Nat), k ≤ 0 → n ≤ 0 → post r M' → narrow .int (.int r) = .int r → decode cX10_compare pc = .ok (.ireturn, 1) → gG p l e rm_compare s m args below meth c Q D A 5 k n (rcells cI cZ ad M' Y) pc lv [.int r])  : ∀ (nf : Nat) (x1 x2 x3 x4 : Int32) (M : RM), w_compare_34 post  nf x1 x2 x3 x4 M → gG p l e rm_compare s m args below meth c Q D A 5 0 0 (rcells cI cZ ad M Y) 34 [(0, .ref (ad 0)), (1, .int x1), (2, .int x2), (3, .int x3), (4, .int x4)] [] := by
  obtain ⟨hx, hb, hml, ho, hts, hK, hA⟩ := id C0
  have hin := in_compare
  intro nf
  induction nf with
  | zero => intro x1 x2 x3 x4 M hw; exact hw.elim
  | succ nf ih =>
    intro x1 x2 x3 x4 M hw H locs ls hW hl
    rw [w_compare_34] at hw
    refine lv_iload hx hb dX10_compare_34 (lv_at hl 4 rfl) ?_
    refine lv_iload_n hx hb dX10_compare_36 rfl (lv_at hl 3 rfl) ?_
    refine lv_icmp_gt (tgt := 87) hx hb dX10_compare_37 (by decide) (fun c10 => ?_) (fun c10 => ?_)
    · have hw := hw.1 c10
      try dsimp only at hw
      refine lv_aload_n hx hb dX10_compare_87 rfl (lv_at hl 0 rfl) ?_
      refine r_get C0 hin hW 0 (by decide) (v := .ref (ad 1)) rfl (List.mem_of_getElem? (i := 1) rfl) rfl dX10_compare_88 ?_
      refine lv_iload_n hx hb dX10_compare_91 rfl (lv_at hl 1 rfl) ?_
      obtain ⟨h11, hw⟩ := hw
      refine r_iald C0 hW 1 rfl rfl h11 dX10_compare_92 ?_
      refine lv_aload_n hx hb dX10_compare_93 rfl (lv_at hl 0 rfl) ?_
      refine r_get C0 hin hW 0 (by decide) (v := .ref (ad 1)) rfl (List.mem_of_getElem? (i := 1) rfl) rfl dX10_compare_94 ?_
      refine lv_iload_n hx hb dX10_compare_97 rfl (lv_at hl 2 rfl) ?_
      obtain ⟨h12, hw⟩ := hw
      refine r_iald C0 hW 1 rfl rfl h12 dX10_compare_98 ?_
      refine lv_isub hx hb dX10_compare_99 ?_
      exact hret ((M 1 x1.toNatClampNeg) - (M 1 x2.toNatClampNeg)) M _ _ 0 0 (Nat.le_refl _) (Nat.le_refl _) hw rfl dX10_compare_100 _ _ _ hW hl
    · have hw := hw.2 c10
      try dsimp only at hw
      refine lv_aload_n hx hb dX10_compare_40 rfl (lv_at hl 0 rfl) ?_
      refine r_get C0 hin hW 0 (by decide) (v := .ref (ad 1)) rfl (List.mem_of_getElem? (i := 1) rfl) rfl dX10_compare_41 ?_
      refine lv_iload_n hx hb dX10_compare_44 rfl (lv_at hl 1 rfl) ?_
      refine lv_iload hx hb dX10_compare_45 (lv_at hl 4 rfl) ?_
      refine lv_iadd hx hb dX10_compare_47 ?_
      obtain ⟨h13, hw⟩ := hw
      refine r_iald C0 hW 1 rfl rfl h13 dX10_compare_48 ?_
      refine lv_aload_n hx hb dX10_compare_49 rfl (lv_at hl 0 rfl) ?_
      refine r_get C0 hin hW 0 (by decide) (v := .ref (ad 1)) rfl (List.mem_of_getElem? (i := 1) rfl) rfl dX10_compare_50 ?_
      refine lv_iload_n hx hb dX10_compare_53 rfl (lv_at hl 2 rfl) ?_
      refine lv_iload hx hb dX10_compare_54 (lv_at hl 4 rfl) ?_
      refine lv_iadd hx hb dX10_compare_56 ?_
      obtain ⟨h14, hw⟩ := hw
      refine r_iald C0 hW 1 rfl rfl h14 dX10_compare_57 ?_
      refine lv_icmp_eq (tgt := 81) hx hb dX10_compare_58 (by decide) (fun c15 => ?_) (fun c15 => ?_)
      · have hw := hw.1 c15
        try dsimp only at hw
        obtain ⟨v16, ev16⟩ : ∃ y : Int32, y = x4 + 1 := ⟨_, rfl⟩
        have hw := hw v16 ev16
        refine lv_iinc (v := v16) (lv' := [(4, .int v16), (0, .ref (ad 0)), (1, .int x1), (2, .int x2), (3, .int x3)]) hx hb dX10_compare_81 hl (k := 4) rfl (by rw [ev16]; rfl) (by decide) rfl (fun ls hl => ?_)
        refine lv_goto (tgt := 34) hx hb dX10_compare_84 (by decide) ?_
        exact ih x1 x2 x3 v16 M hw _ _ _ hW (lv_sub hl [1, 2, 3, 4, 0] rfl)
      · have hw := hw.2 c15
        try dsimp only at hw
        refine lv_aload_n hx hb dX10_compare_61 rfl (lv_at hl 0 rfl) ?_
        refine r_get C0 hin hW 0 (by decide) (v := .ref (ad 1)) rfl (List.mem_of_getElem? (i := 1) rfl) rfl dX10_compare_62 ?_
        refine lv_iload_n hx hb dX10_compare_65 rfl (lv_at hl 1 rfl) ?_
        refine lv_iload hx hb dX10_compare_66 (lv_at hl 4 rfl) ?_
        refine lv_iadd hx hb dX10_compare_68 ?_
        obtain ⟨h17, hw⟩ := hw
        refine r_iald C0 hW 1 rfl rfl h17 dX10_compare_69 ?_
        refine lv_aload_n hx hb dX10_compare_70 rfl (lv_at hl 0 rfl) ?_
        refine r_get C0 hin hW 0 (by decide) (v := .ref (ad 1)) rfl (List.mem_of_getElem? (i := 1) rfl) rfl dX10_compare_71 ?_
        refine lv_iload_n hx hb dX10_compare_74 rfl (lv_at hl 2 rfl) ?_
        refine lv_iload hx hb dX10_compare_75 (lv_at hl 4 rfl) ?_
        refine lv_iadd hx hb dX10_compare_77 ?_
        obtain ⟨h18, hw⟩ := hw
        refine r_iald C0 hW 1 rfl rfl h18 dX10_compare_78 ?_
        refine lv_isub hx hb dX10_compare_79 ?_
        exact hret ((M 1 ((x1 + x4) : Int32).toNatClampNeg) - (M 1 ((x2 + x4) : Int32).toNatClampNeg)) M _ _ 0 0 (Nat.le_refl _) (Nat.le_refl _) hw rfl dX10_compare_80 _ _ _ hW hl
set_option maxHeartbeats 4000000 in
set_option maxRecDepth 100000 in
theorem t_compare_0 (C0 : rX p s m args c cX10_compare 5 RX10 wsX10_compare D ((cI, .int) :: (cZ, .boolean) :: ty') A) (post : Int32 → RM → Prop) (hret : ∀ (r : Int32) (M' : RM) (pc : Nat) (lv : List (Nat × Value)) (k n : Nat), k ≤ 0 → n ≤ 0 → post r M' → narrow .int (.int r) = .int r → decode cX10_compare pc = .ok (.ireturn, 1) → gG p l e rm_compare s m args below meth c Q D A 5 k n (rcells cI cZ ad M' Y) pc lv [.int r])  : ∀  (a1 a2 : Int32) (M : RM), w_compare post   a1 a2 M → gG p l e rm_compare s m args below meth c Q D A 5 0 0 (rcells cI cZ ad M Y) 0 [(0, .ref (ad 0)), (1, .int a1), (2, .int a2)] [] := by
  obtain ⟨hx, hb, hml, ho, hts, hK, hA⟩ := id C0
  have hin := in_compare
  intro a1 a2 M hw H locs ls hW hl
  rw [w_compare] at hw
  refine lv_aload_n hx hb dX10_compare_0 rfl (lv_at hl 0 rfl) ?_
  refine r_get C0 hin hW 0 (by decide) (v := .ref (ad 1)) rfl (List.mem_of_getElem? (i := 1) rfl) rfl dX10_compare_1 ?_
  refine lv_iload_n hx hb dX10_compare_4 rfl (lv_at hl 1 rfl) ?_
  obtain ⟨h1, hw⟩ := hw
  refine r_iald C0 hW 1 rfl rfl h1 dX10_compare_5 ?_
  refine lv_aload_n hx hb dX10_compare_6 rfl (lv_at hl 0 rfl) ?_
  refine r_get C0 hin hW 0 (by decide) (v := .ref (ad 1)) rfl (List.mem_of_getElem? (i := 1) rfl) rfl dX10_compare_7 ?_
  refine lv_iload_n hx hb dX10_compare_10 rfl (lv_at hl 2 rfl) ?_
  obtain ⟨h2, hw⟩ := hw
  refine r_iald C0 hW 1 rfl rfl h2 dX10_compare_11 ?_
  refine lv_icmp_ge (tgt := 24) hx hb dX10_compare_12 (by decide) (fun c3 => ?_) (fun c3 => ?_)
  · have hw := hw.1 c3
    try dsimp only at hw
    refine lv_aload_n hx hb dX10_compare_24 rfl (lv_at hl 0 rfl) ?_
    refine r_get C0 hin hW 0 (by decide) (v := .ref (ad 1)) rfl (List.mem_of_getElem? (i := 1) rfl) rfl dX10_compare_25 ?_
    refine lv_iload_n hx hb dX10_compare_28 rfl (lv_at hl 2 rfl) ?_
    obtain ⟨h4, hw⟩ := hw
    refine r_iald C0 hW 1 rfl rfl h4 dX10_compare_29 ?_
    refine lv_topi (fun v5 ev5 => ?_)
    have hw := hw v5 ev5
    refine lv_istore_n (lv' := [(3, .int v5), (0, .ref (ad 0)), (1, .int a1), (2, .int a2)]) hx hb dX10_compare_30 rfl hl (by decide) rfl (fun ls hl => ?_)
    refine lv_iconst (v := 1) hx hb dX10_compare_31 (by decide) ?_
    refine lv_istore (lv' := [(4, .int 1), (3, .int v5), (0, .ref (ad 0)), (1, .int a1), (2, .int a2)]) hx hb dX10_compare_32 hl (by decide) rfl (fun ls hl => ?_)
    obtain ⟨n6, hw⟩ := hw
    exact t_compare_34 C0 post hret  n6 a1 a2 v5 1 M hw _ _ _ hW (lv_sub hl [2, 3, 4, 1, 0] rfl)
  · have hw := hw.2 c3
    try dsimp only at hw
    refine lv_aload_n hx hb dX10_compare_15 rfl (lv_at hl 0 rfl) ?_
    refine r_get C0 hin hW 0 (by decide) (v := .ref (ad 1)) rfl (List.mem_of_getElem? (i := 1) rfl) rfl dX10_compare_16 ?_
    refine lv_iload_n hx hb dX10_compare_19 rfl (lv_at hl 1 rfl) ?_
    obtain ⟨h7, hw⟩ := hw
    refine r_iald C0 hW 1 rfl rfl h7 dX10_compare_20 ?_
    refine lv_goto (tgt := 30) hx hb dX10_compare_21 (by decide) ?_
    refine lv_topi (fun v8 ev8 => ?_)
    have hw := hw v8 ev8
    refine lv_istore_n (lv' := [(3, .int v8), (0, .ref (ad 0)), (1, .int a1), (2, .int a2)]) hx hb dX10_compare_30 rfl hl (by decide) rfl (fun ls hl => ?_)
    refine lv_iconst (v := 1) hx hb dX10_compare_31 (by decide) ?_
    refine lv_istore (lv' := [(4, .int 1), (3, .int v8), (0, .ref (ad 0)), (1, .int a1), (2, .int a2)]) hx hb dX10_compare_32 hl (by decide) rfl (fun ls hl => ?_)
    obtain ⟨n9, hw⟩ := hw
    exact t_compare_34 C0 post hret  n9 a1 a2 v8 1 M hw _ _ _ hW (lv_sub hl [2, 3, 4, 1, 0] rfl)
set_option maxHeartbeats 4000000 in
set_option maxRecDepth 100000 in
theorem k_compare {l : Launch} {D : va_G} {cI cZ : ClassId} {ty' : List (ClassId × FieldType)} {ad : Nat → Nat} {Y : va_W} {sz : Nat} (post : Int32 → RM → Prop) (a1 a2 : Int32) (M : RM) (hw : w_compare post a1 a2 M) : gMi l yX10_compare wsX10_compare rm_compare D ((cI, .int) :: (cZ, .boolean) :: ty') sz (fun M => rcells cI cZ ad M Y) M [.ref (ad 0), .int a1, .int a2] post 0 0 := by
  refine gMi_of (cc := cX10_compare) (nL := 5) (ty := .int) (own := RX10) (by decide) rfl rfl (Nat.le_of_ble_eq_true rfl) ?_
  intro p e s m args below meth c A Q C0 hret
  exact t_compare_0 C0 post hret a1 a2 M hw
abbrev rm_refusedNull : Room := { frames := 0, cells := 0, slots := 0, locals := 0 }
theorem in_refusedNull : ∀ w ∈ wsX100, w ∈ wsX10_refusedNull := fun w hw => List.mem_cons_of_mem _ (List.mem_append_right _ hw)
set_option maxHeartbeats 4000000 in
set_option maxRecDepth 100000 in
theorem t_refusedNull_0 (C0 : rX p s m args c cX10_refusedNull 1 RX10 wsX10_refusedNull D ((cI, .int) :: (cZ, .boolean) :: ty') A) (post : Int32 → RM → Prop) (hret : ∀ (r : Int32) (M' : RM) (pc : Nat) (lv : List (Nat × Value)) (k n : Nat), k ≤ 0 → n ≤ 0 → post r M' → narrow .int (.int r) = .int r → decode cX10_refusedNull pc = .ok (.ireturn, 1) → gG p l e rm_refusedNull s m args below meth c Q D A 1 k n (rcells cI cZ ad M' Y) pc lv [.int r])  : ∀  (M : RM), w_refusedNull post    M → gG p l e rm_refusedNull s m args below meth c Q D A 1 0 0 (rcells cI cZ ad M Y) 0 [(0, .ref (ad 0))] [] := by
  obtain ⟨hx, hb, hml, ho, hts, hK, hA⟩ := id C0
  have hin := in_refusedNull
  intro  M hw H locs ls hW hl
  rw [w_refusedNull] at hw
  refine lv_aload_n hx hb dX10_refusedNull_0 rfl (lv_at hl 0 rfl) ?_
  refine lv_dup hx hb dX10_refusedNull_1 rfl ?_
  refine r_get C0 hin hW 12 (by decide) (v := .int (M 0 2)) rfl (List.mem_of_getElem? (i := 1) rfl) rfl dX10_refusedNull_2 ?_
  refine lv_iconst (v := 1) hx hb dX10_refusedNull_5 (by decide) ?_
  refine lv_iadd hx hb dX10_refusedNull_6 ?_
  refine r_put C0 hin hW 12 2 (by decide) (List.mem_of_getElem? (i := 1) rfl) rfl rfl (by decide +kernel) rfl dX10_refusedNull_7 (fun M1 H locs eM1 hW => ?_)
  have hw := hw M1 eM1
  refine lv_bipush (v := (-7)) hx hb dX10_refusedNull_10 (by decide) ?_
  exact hret (-7) M1 _ _ 0 0 (Nat.le_refl _) (Nat.le_refl _) hw rfl dX10_refusedNull_12 _ _ _ hW hl
set_option maxHeartbeats 4000000 in
set_option maxRecDepth 100000 in
theorem k_refusedNull {l : Launch} {D : va_G} {cI cZ : ClassId} {ty' : List (ClassId × FieldType)} {ad : Nat → Nat} {Y : va_W} {sz : Nat} (post : Int32 → RM → Prop) (M : RM) (hw : w_refusedNull post  M) : gMi l yX10_refusedNull wsX10_refusedNull rm_refusedNull D ((cI, .int) :: (cZ, .boolean) :: ty') sz (fun M => rcells cI cZ ad M Y) M [.ref (ad 0)] post 0 0 := by
  refine gMi_of (cc := cX10_refusedNull) (nL := 1) (ty := .int) (own := RX10) (by decide) rfl rfl (Nat.le_of_ble_eq_true rfl) ?_
  intro p e s m args below meth c A Q C0 hret
  exact t_refusedNull_0 C0 post hret  M hw
abbrev rm_erase : Room := { frames := 1, cells := 0, slots := 0, locals := 20 }
theorem in_erase : ∀ w ∈ wsX100, w ∈ wsX10_erase := fun w hw => List.mem_cons_of_mem _ (List.mem_append_right _ hw)
set_option maxHeartbeats 4000000 in
set_option maxRecDepth 100000 in
theorem t_erase_0 (C0 : rX p s m args c cX10_erase 3 RX10 wsX10_erase D ((cI, .int) :: (cZ, .boolean) :: ty') A) (post : Int32 → RM → Prop) (hret : ∀ (r : Int32) (M' : RM) (pc : Nat) (lv : List (Nat × Value)) (k n : Nat), k ≤ 0 → n ≤ 0 → post r M' → narrow .int (.int r) = .int r → decode cX10_erase pc = .ok (.ireturn, 1) → gG p l e rm_erase s m args below meth c Q D A 3 k n (rcells cI cZ ad M' Y) pc lv [.int r])  : ∀  (a1 : Int32) (M : RM), w_erase post   a1 M → gG p l e rm_erase s m args below meth c Q D A 3 0 0 (rcells cI cZ ad M Y) 0 [(0, .ref (ad 0)), (1, .int a1)] [] := by
  obtain ⟨hx, hb, hml, ho, hts, hK, hA⟩ := id C0
  have hin := in_erase
  intro a1 M hw H locs ls hW hl
  rw [w_erase] at hw
  refine lv_iload_n hx hb dX10_erase_0 rfl (lv_at hl 1 rfl) ?_
  refine g_calls (As := [.int a1]) (rest := []) ⟨hx, hb, hml, ho, hts⟩ hl.1 (k_isSlot (l := l) _ a1 hw) (va_cwS 1 hts gX10_erase_X10_isSlot rfl rfl rfl (by decide +kernel) ⟨Nat.le_of_ble_eq_true rfl, Nat.le_of_ble_eq_true rfl⟩) (Nat.le_of_ble_eq_true rfl) dX10_erase_1 rfl ⟨Nat.le_of_ble_eq_true rfl, Nat.le_of_ble_eq_true rfl⟩ (fun r1 hw => ?_)
  try dsimp only at hw
  refine lv_if_ne (tgt := 9) hx hb dX10_erase_4 (by decide) (fun c2 => ?_) (fun c2 => ?_)
  · have hw := hw.1 c2
    try dsimp only at hw
    refine lv_aload_n hx hb dX10_erase_9 rfl (lv_at hl 0 rfl) ?_
    refine r_get C0 hin hW 0 (by decide) (v := .ref (ad 1)) rfl (List.mem_of_getElem? (i := 1) rfl) rfl dX10_erase_10 ?_
    refine lv_iload_n hx hb dX10_erase_13 rfl (lv_at hl 1 rfl) ?_
    refine g_calls (As := [.int a1]) (rest := [.ref (ad 1)]) ⟨hx, hb, hml, ho, hts⟩ hl.1 (k_at (l := l) _ a1 hw) (va_cwS 1 hts gX10_erase_X10_at rfl rfl rfl (by decide +kernel) ⟨Nat.le_of_ble_eq_true rfl, Nat.le_of_ble_eq_true rfl⟩) (Nat.le_of_ble_eq_true rfl) dX10_erase_14 rfl ⟨Nat.le_of_ble_eq_true rfl, Nat.le_of_ble_eq_true rfl⟩ (fun r3 hw => ?_)
    try dsimp only at hw
    obtain ⟨h4, hw⟩ := hw
    refine r_iald C0 hW 1 rfl rfl h4 dX10_erase_17 ?_
    refine lv_topi (fun v5 ev5 => ?_)
    have hw := hw v5 ev5
    refine lv_istore_n (lv' := [(2, .int v5), (0, .ref (ad 0)), (1, .int a1)]) hx hb dX10_erase_18 rfl hl (by decide) rfl (fun ls hl => ?_)
    refine lv_aload_n hx hb dX10_erase_19 rfl (lv_at hl 1 rfl) ?_
    refine r_get C0 hin hW 0 (by decide) (v := .ref (ad 1)) rfl (List.mem_of_getElem? (i := 1) rfl) rfl dX10_erase_20 ?_
    refine lv_iload_n hx hb dX10_erase_23 rfl (lv_at hl 2 rfl) ?_
    refine g_calls (As := [.int a1]) (rest := [.ref (ad 1)]) ⟨hx, hb, hml, ho, hts⟩ hl.1 (k_at (l := l) _ a1 hw) (va_cwS 1 hts gX10_erase_X10_at rfl rfl rfl (by decide +kernel) ⟨Nat.le_of_ble_eq_true rfl, Nat.le_of_ble_eq_true rfl⟩) (Nat.le_of_ble_eq_true rfl) dX10_erase_24 rfl ⟨Nat.le_of_ble_eq_true rfl, Nat.le_of_ble_eq_true rfl⟩ (fun r6 hw => ?_)
    try dsimp only at hw
    refine lv_iconst (v := 0) hx hb dX10_erase_27 (by decide) ?_
    obtain ⟨h7, hw⟩ := hw
    refine r_iast C0 hW 1 rfl rfl h7 rfl dX10_erase_28 (fun M8 H locs eM8 hW => ?_)
    have hw := hw M8 eM8
    refine lv_iload_n hx hb dX10_erase_29 rfl (lv_at hl 0 rfl) ?_
    refine lv_if_ge (tgt := 38) hx hb dX10_erase_30 (by decide) (fun c9 => ?_) (fun c9 => ?_)
    · have hw := hw.1 c9
      try dsimp only at hw
      refine lv_iload_n hx hb dX10_erase_38 rfl (lv_at hl 0 rfl) ?_
      exact hret v5 M8 _ _ 0 0 (Nat.le_refl _) (Nat.le_refl _) hw rfl dX10_erase_39 _ _ _ hW hl
    · have hw := hw.2 c9
      try dsimp only at hw
      refine lv_bipush (v := (-2)) hx hb dX10_erase_33 (by decide) ?_
      refine lv_goto (tgt := 39) hx hb dX10_erase_35 (by decide) ?_
      exact hret (-2) M8 _ _ 0 0 (Nat.le_refl _) (Nat.le_refl _) hw rfl dX10_erase_39 _ _ _ hW hl
  · have hw := hw.2 c2
    try dsimp only at hw
    refine lv_iconst (v := (-1)) hx hb dX10_erase_7 (by decide) ?_
    exact hret (-1) M _ _ 0 0 (Nat.le_refl _) (Nat.le_refl _) hw rfl dX10_erase_8 _ _ _ hW hl
set_option maxHeartbeats 4000000 in
set_option maxRecDepth 100000 in
theorem k_erase {l : Launch} {D : va_G} {cI cZ : ClassId} {ty' : List (ClassId × FieldType)} {ad : Nat → Nat} {Y : va_W} {sz : Nat} (post : Int32 → RM → Prop) (a1 : Int32) (M : RM) (hw : w_erase post a1 M) : gMi l yX10_erase wsX10_erase rm_erase D ((cI, .int) :: (cZ, .boolean) :: ty') sz (fun M => rcells cI cZ ad M Y) M [.ref (ad 0), .int a1] post 0 0 := by
  refine gMi_of (cc := cX10_erase) (nL := 3) (ty := .int) (own := RX10) (by decide) rfl rfl (Nat.le_of_ble_eq_true rfl) ?_
  intro p e s m args below meth c A Q C0 hret
  exact t_erase_0 C0 post hret a1 M hw
abbrev rm_forget : Room := { frames := 1, cells := 0, slots := 0, locals := 20 }
theorem in_forget : ∀ w ∈ wsX100, w ∈ wsX10_forget := fun w hw => List.mem_cons_of_mem _ (List.mem_append_right _ hw)
set_option maxHeartbeats 4000000 in
set_option maxRecDepth 100000 in
theorem t_forget_0 (C0 : rX p s m args c cX10_forget 3 RX10 wsX10_forget D ((cI, .int) :: (cZ, .boolean) :: ty') A) (post : Int32 → RM → Prop) (hret : ∀ (r : Int32) (M' : RM) (pc : Nat) (lv : List (Nat × Value)) (k n : Nat), k ≤ 0 → n ≤ 0 → post r M' → narrow .int (.int r) = .int r → decode cX10_forget pc = .ok (.ireturn, 1) → gG p l e rm_forget s m args below meth c Q D A 3 k n (rcells cI cZ ad M' Y) pc lv [.int r])  : ∀  (a1 : Int32) (M : RM), w_forget post   a1 M → gG p l e rm_forget s m args below meth c Q D A 3 0 0 (rcells cI cZ ad M Y) 0 [(0, .ref (ad 0)), (1, .int a1)] [] := by
  obtain ⟨hx, hb, hml, ho, hts, hK, hA⟩ := id C0
  have hin := in_forget
  intro a1 M hw H locs ls hW hl
  rw [w_forget] at hw
  refine lv_iload_n hx hb dX10_forget_0 rfl (lv_at hl 1 rfl) ?_
  refine g_calls (As := [.int a1]) (rest := []) ⟨hx, hb, hml, ho, hts⟩ hl.1 (k_isSlot (l := l) _ a1 hw) (va_cwS 1 hts gX10_forget_X10_isSlot rfl rfl rfl (by decide +kernel) ⟨Nat.le_of_ble_eq_true rfl, Nat.le_of_ble_eq_true rfl⟩) (Nat.le_of_ble_eq_true rfl) dX10_forget_1 rfl ⟨Nat.le_of_ble_eq_true rfl, Nat.le_of_ble_eq_true rfl⟩ (fun r1 hw => ?_)
  try dsimp only at hw
  refine lv_if_ne (tgt := 9) hx hb dX10_forget_4 (by decide) (fun c2 => ?_) (fun c2 => ?_)
  · have hw := hw.1 c2
    try dsimp only at hw
    refine lv_aload_n hx hb dX10_forget_9 rfl (lv_at hl 0 rfl) ?_
    refine r_get C0 hin hW 0 (by decide) (v := .ref (ad 1)) rfl (List.mem_of_getElem? (i := 1) rfl) rfl dX10_forget_10 ?_
    refine lv_iload_n hx hb dX10_forget_13 rfl (lv_at hl 1 rfl) ?_
    refine g_calls (As := [.int a1]) (rest := [.ref (ad 1)]) ⟨hx, hb, hml, ho, hts⟩ hl.1 (k_at (l := l) _ a1 hw) (va_cwS 1 hts gX10_forget_X10_at rfl rfl rfl (by decide +kernel) ⟨Nat.le_of_ble_eq_true rfl, Nat.le_of_ble_eq_true rfl⟩) (Nat.le_of_ble_eq_true rfl) dX10_forget_14 rfl ⟨Nat.le_of_ble_eq_true rfl, Nat.le_of_ble_eq_true rfl⟩ (fun r3 hw => ?_)
    try dsimp only at hw
    obtain ⟨h4, hw⟩ := hw
    refine r_iald C0 hW 1 rfl rfl h4 dX10_forget_17 ?_
    refine lv_topi (fun v5 ev5 => ?_)
    have hw := hw v5 ev5
    refine lv_istore_n (lv' := [(2, .int v5), (0, .ref (ad 0)), (1, .int a1)]) hx hb dX10_forget_18 rfl hl (by decide) rfl (fun ls hl => ?_)
    refine lv_aload_n hx hb dX10_forget_19 rfl (lv_at hl 1 rfl) ?_
    refine r_get C0 hin hW 0 (by decide) (v := .ref (ad 1)) rfl (List.mem_of_getElem? (i := 1) rfl) rfl dX10_forget_20 ?_
    refine lv_iload_n hx hb dX10_forget_23 rfl (lv_at hl 2 rfl) ?_
    refine g_calls (As := [.int a1]) (rest := [.ref (ad 1)]) ⟨hx, hb, hml, ho, hts⟩ hl.1 (k_at (l := l) _ a1 hw) (va_cwS 1 hts gX10_forget_X10_at rfl rfl rfl (by decide +kernel) ⟨Nat.le_of_ble_eq_true rfl, Nat.le_of_ble_eq_true rfl⟩) (Nat.le_of_ble_eq_true rfl) dX10_forget_24 rfl ⟨Nat.le_of_ble_eq_true rfl, Nat.le_of_ble_eq_true rfl⟩ (fun r6 hw => ?_)
    try dsimp only at hw
    refine lv_bipush (v := (-5)) hx hb dX10_forget_27 (by decide) ?_
    obtain ⟨h7, hw⟩ := hw
    refine r_iast C0 hW 1 rfl rfl h7 rfl dX10_forget_29 (fun M8 H locs eM8 hW => ?_)
    have hw := hw M8 eM8
    refine lv_iload_n hx hb dX10_forget_30 rfl (lv_at hl 0 rfl) ?_
    refine lv_if_ge (tgt := 39) hx hb dX10_forget_31 (by decide) (fun c9 => ?_) (fun c9 => ?_)
    · have hw := hw.1 c9
      try dsimp only at hw
      refine lv_iload_n hx hb dX10_forget_39 rfl (lv_at hl 0 rfl) ?_
      exact hret v5 M8 _ _ 0 0 (Nat.le_refl _) (Nat.le_refl _) hw rfl dX10_forget_40 _ _ _ hW hl
    · have hw := hw.2 c9
      try dsimp only at hw
      refine lv_bipush (v := (-2)) hx hb dX10_forget_34 (by decide) ?_
      refine lv_goto (tgt := 40) hx hb dX10_forget_36 (by decide) ?_
      exact hret (-2) M8 _ _ 0 0 (Nat.le_refl _) (Nat.le_refl _) hw rfl dX10_forget_40 _ _ _ hW hl
  · have hw := hw.2 c2
    try dsimp only at hw
    refine lv_iconst (v := (-1)) hx hb dX10_forget_7 (by decide) ?_
    exact hret (-1) M _ _ 0 0 (Nat.le_refl _) (Nat.le_refl _) hw rfl dX10_forget_8 _ _ _ hW hl
set_option maxHeartbeats 4000000 in
set_option maxRecDepth 100000 in
theorem k_forget {l : Launch} {D : va_G} {cI cZ : ClassId} {ty' : List (ClassId × FieldType)} {ad : Nat → Nat} {Y : va_W} {sz : Nat} (post : Int32 → RM → Prop) (a1 : Int32) (M : RM) (hw : w_forget post a1 M) : gMi l yX10_forget wsX10_forget rm_forget D ((cI, .int) :: (cZ, .boolean) :: ty') sz (fun M => rcells cI cZ ad M Y) M [.ref (ad 0), .int a1] post 0 0 := by
  refine gMi_of (cc := cX10_forget) (nL := 3) (ty := .int) (own := RX10) (by decide) rfl rfl (Nat.le_of_ble_eq_true rfl) ?_
  intro p e s m args below meth c A Q C0 hret
  exact t_forget_0 C0 post hret a1 M hw
abbrev rm_append : Room := { frames := 2, cells := 0, slots := 0, locals := 41 }
theorem in_append : ∀ w ∈ wsX100, w ∈ wsX10_append := fun w hw => List.mem_cons_of_mem _ (List.mem_append_right _ hw)
set_option maxHeartbeats 4000000 in
set_option maxRecDepth 100000 in
theorem t_append_0 (C0 : rX p s m args c cX10_append 3 RX10 wsX10_append D ((cI, .int) :: (cZ, .boolean) :: ty') A) (post : Int32 → RM → Prop) (hret : ∀ (r : Int32) (M' : RM) (pc : Nat) (lv : List (Nat × Value)) (k n : Nat), k ≤ 0 → n ≤ 0 → post r M' → narrow .int (.int r) = .int r → decode cX10_append pc = .ok (.ireturn, 1) → gG p l e rm_append s m args below meth c Q D A 3 k n (rcells cI cZ ad M' Y) pc lv [.int r])  : ∀  (a1 a2 : Int32) (M : RM), w_append post   a1 a2 M → gG p l e rm_append s m args below meth c Q D A 3 0 0 (rcells cI cZ ad M Y) 0 [(0, .ref (ad 0)), (1, .int a1), (2, .int a2)] [] := by
  obtain ⟨hx, hb, hml, ho, hts, hK, hA⟩ := id C0
  have hin := in_append
  intro a1 a2 M hw H locs ls hW hl
  rw [w_append] at hw
  refine lv_iload_n hx hb dX10_append_0 rfl (lv_at hl 1 rfl) ?_
  refine g_calls (As := [.int a1]) (rest := []) ⟨hx, hb, hml, ho, hts⟩ hl.1 (k_isSlot (l := l) _ a1 hw) (va_cwS 1 hts gX10_append_X10_isSlot rfl rfl rfl (by decide +kernel) ⟨Nat.le_of_ble_eq_true rfl, Nat.le_of_ble_eq_true rfl⟩) (Nat.le_of_ble_eq_true rfl) dX10_append_1 rfl ⟨Nat.le_of_ble_eq_true rfl, Nat.le_of_ble_eq_true rfl⟩ (fun r1 hw => ?_)
  try dsimp only at hw
  refine lv_if_eq (tgt := 18) hx hb dX10_append_4 (by decide) (fun c2 => ?_) (fun c2 => ?_)
  · have hw := hw.1 c2
    try dsimp only at hw
    refine lv_iconst (v := (-1)) hx hb dX10_append_18 (by decide) ?_
    exact hret (-1) M _ _ 0 0 (Nat.le_refl _) (Nat.le_refl _) hw rfl dX10_append_19 _ _ _ hW hl
  · have hw := hw.2 c2
    try dsimp only at hw
    refine lv_iload_n hx hb dX10_append_7 rfl (lv_at hl 2 rfl) ?_
    refine lv_if_lt (tgt := 18) hx hb dX10_append_8 (by decide) (fun c3 => ?_) (fun c3 => ?_)
    · have hw := hw.1 c3
      try dsimp only at hw
      refine lv_iconst (v := (-1)) hx hb dX10_append_18 (by decide) ?_
      exact hret (-1) M _ _ 0 0 (Nat.le_refl _) (Nat.le_refl _) hw rfl dX10_append_19 _ _ _ hW hl
    · have hw := hw.2 c3
      try dsimp only at hw
      refine lv_iload_n hx hb dX10_append_11 rfl (lv_at hl 2 rfl) ?_
      refine lv_sipush (v := 255) hx hb dX10_append_12 (by decide) ?_
      refine lv_icmp_le (tgt := 20) hx hb dX10_append_15 (by decide) (fun c4 => ?_) (fun c4 => ?_)
      · have hw := hw.1 c4
        try dsimp only at hw
        refine lv_aload_n hx hb dX10_append_20 rfl (lv_at hl 0 rfl) ?_
        refine lv_iload_n hx hb dX10_append_21 rfl (lv_at hl 1 rfl) ?_
        refine g_calli (cw0 := fun M => rcells cI cZ ad M Y) (M := M) (As := [.int a1]) (rest := []) C0 hW hl.1 (k_hasNothing (l := l) _ a1 _ hw) (cwV 1 hts gX10_append_X10_hasNothing rfl rfl rfl (by decide +kernel) ⟨Nat.le_of_ble_eq_true rfl, Nat.le_of_ble_eq_true rfl⟩) (r_recv C0 hW) (Nat.le_of_ble_eq_true rfl) dX10_append_22 rfl ⟨Nat.le_of_ble_eq_true rfl, Nat.le_of_ble_eq_true rfl⟩ (fun r6 M5 H locs hw hW => ?_)
        try dsimp only at hw
        refine lv_if_eq (tgt := 31) hx hb dX10_append_25 (by decide) (fun c7 => ?_) (fun c7 => ?_)
        · have hw := hw.1 c7
          try dsimp only at hw
          refine lv_aload_n hx hb dX10_append_31 rfl (lv_at hl 0 rfl) ?_
          refine r_get C0 hin hW 0 (by decide) (v := .ref (ad 1)) rfl (List.mem_of_getElem? (i := 1) rfl) rfl dX10_append_32 ?_
          refine lv_iload_n hx hb dX10_append_35 rfl (lv_at hl 1 rfl) ?_
          refine g_calls (As := [.int a1]) (rest := [.ref (ad 1)]) ⟨hx, hb, hml, ho, hts⟩ hl.1 (k_at (l := l) _ a1 hw) (va_cwS 1 hts gX10_append_X10_at rfl rfl rfl (by decide +kernel) ⟨Nat.le_of_ble_eq_true rfl, Nat.le_of_ble_eq_true rfl⟩) (Nat.le_of_ble_eq_true rfl) dX10_append_36 rfl ⟨Nat.le_of_ble_eq_true rfl, Nat.le_of_ble_eq_true rfl⟩ (fun r8 hw => ?_)
          try dsimp only at hw
          obtain ⟨h9, hw⟩ := hw
          refine r_iald C0 hW 1 rfl rfl h9 dX10_append_39 ?_
          refine lv_sipush (v := 300) hx hb dX10_append_40 (by decide) ?_
          refine lv_icmp_ne (tgt := 49) hx hb dX10_append_43 (by decide) (fun c10 => ?_) (fun c10 => ?_)
          · have hw := hw.1 c10
            try dsimp only at hw
            refine lv_aload_n hx hb dX10_append_49 rfl (lv_at hl 0 rfl) ?_
            refine lv_iload_n hx hb dX10_append_50 rfl (lv_at hl 1 rfl) ?_
            refine g_calls (As := [.int a1]) (rest := [.ref (ad 0)]) ⟨hx, hb, hml, ho, hts⟩ hl.1 (k_at (l := l) _ a1 hw) (va_cwS 1 hts gX10_append_X10_at rfl rfl rfl (by decide +kernel) ⟨Nat.le_of_ble_eq_true rfl, Nat.le_of_ble_eq_true rfl⟩) (Nat.le_of_ble_eq_true rfl) dX10_append_51 rfl ⟨Nat.le_of_ble_eq_true rfl, Nat.le_of_ble_eq_true rfl⟩ (fun r11 hw => ?_)
            try dsimp only at hw
            refine lv_iload_n hx hb dX10_append_54 rfl (lv_at hl 2 rfl) ?_
            refine g_callv (cw0 := fun M => rcells cI cZ ad M Y) (M := M5) (As := [.int r11, .int a2]) (rest := []) C0 hW hl.1 (k_addSign (l := l) _ r11 a2 _ hw) (cwV 2 hts gX10_append_X10_addSign rfl rfl rfl (by decide +kernel) ⟨Nat.le_of_ble_eq_true rfl, Nat.le_of_ble_eq_true rfl⟩) (r_recv C0 hW) (Nat.le_of_ble_eq_true rfl) dX10_append_55 rfl ⟨Nat.le_of_ble_eq_true rfl, Nat.le_of_ble_eq_true rfl⟩ (fun M12 H locs hw hW => ?_)
            try dsimp only at hw
            refine lv_aload_n hx hb dX10_append_58 rfl (lv_at hl 0 rfl) ?_
            refine r_get C0 hin hW 0 (by decide) (v := .ref (ad 1)) rfl (List.mem_of_getElem? (i := 1) rfl) rfl dX10_append_59 ?_
            refine lv_iload_n hx hb dX10_append_62 rfl (lv_at hl 1 rfl) ?_
            refine g_calls (As := [.int a1]) (rest := [.ref (ad 1)]) ⟨hx, hb, hml, ho, hts⟩ hl.1 (k_at (l := l) _ a1 hw) (va_cwS 1 hts gX10_append_X10_at rfl rfl rfl (by decide +kernel) ⟨Nat.le_of_ble_eq_true rfl, Nat.le_of_ble_eq_true rfl⟩) (Nat.le_of_ble_eq_true rfl) dX10_append_63 rfl ⟨Nat.le_of_ble_eq_true rfl, Nat.le_of_ble_eq_true rfl⟩ (fun r13 hw => ?_)
            try dsimp only at hw
            obtain ⟨h14, hw⟩ := hw
            refine r_iald C0 hW 1 rfl rfl h14 dX10_append_66 ?_
            exact hret (M12 1 r13.toNatClampNeg) M12 _ _ 0 0 (Nat.le_refl _) (Nat.le_refl _) hw rfl dX10_append_67 _ _ _ hW hl
          · have hw := hw.2 c10
            try dsimp only at hw
            refine lv_bipush (v := (-3)) hx hb dX10_append_46 (by decide) ?_
            exact hret (-3) M5 _ _ 0 0 (Nat.le_refl _) (Nat.le_refl _) hw rfl dX10_append_48 _ _ _ hW hl
        · have hw := hw.2 c7
          try dsimp only at hw
          refine lv_bipush (v := (-2)) hx hb dX10_append_28 (by decide) ?_
          exact hret (-2) M5 _ _ 0 0 (Nat.le_refl _) (Nat.le_refl _) hw rfl dX10_append_30 _ _ _ hW hl
      · have hw := hw.2 c4
        try dsimp only at hw
        refine lv_iconst (v := (-1)) hx hb dX10_append_18 (by decide) ?_
        exact hret (-1) M _ _ 0 0 (Nat.le_refl _) (Nat.le_refl _) hw rfl dX10_append_19 _ _ _ hW hl
set_option maxHeartbeats 4000000 in
set_option maxRecDepth 100000 in
theorem k_append {l : Launch} {D : va_G} {cI cZ : ClassId} {ty' : List (ClassId × FieldType)} {ad : Nat → Nat} {Y : va_W} {sz : Nat} (post : Int32 → RM → Prop) (a1 a2 : Int32) (M : RM) (hw : w_append post a1 a2 M) : gMi l yX10_append wsX10_append rm_append D ((cI, .int) :: (cZ, .boolean) :: ty') sz (fun M => rcells cI cZ ad M Y) M [.ref (ad 0), .int a1, .int a2] post 0 0 := by
  refine gMi_of (cc := cX10_append) (nL := 3) (ty := .int) (own := RX10) (by decide) rfl rfl (Nat.le_of_ble_eq_true rfl) ?_
  intro p e s m args below meth c A Q C0 hret
  exact t_append_0 C0 post hret a1 a2 M hw
abbrev rm_length : Room := { frames := 2, cells := 0, slots := 0, locals := 41 }
theorem in_length : ∀ w ∈ wsX100, w ∈ wsX10_length := fun w hw => List.mem_cons_of_mem _ (List.mem_append_right _ hw)
set_option maxHeartbeats 4000000 in
set_option maxRecDepth 100000 in
theorem t_length_0 (C0 : rX p s m args c cX10_length 2 RX10 wsX10_length D ((cI, .int) :: (cZ, .boolean) :: ty') A) (post : Int32 → RM → Prop) (hret : ∀ (r : Int32) (M' : RM) (pc : Nat) (lv : List (Nat × Value)) (k n : Nat), k ≤ 0 → n ≤ 0 → post r M' → narrow .int (.int r) = .int r → decode cX10_length pc = .ok (.ireturn, 1) → gG p l e rm_length s m args below meth c Q D A 2 k n (rcells cI cZ ad M' Y) pc lv [.int r])  : ∀  (a1 : Int32) (M : RM), w_length post   a1 M → gG p l e rm_length s m args below meth c Q D A 2 0 0 (rcells cI cZ ad M Y) 0 [(0, .ref (ad 0)), (1, .int a1)] [] := by
  obtain ⟨hx, hb, hml, ho, hts, hK, hA⟩ := id C0
  have hin := in_length
  intro a1 M hw H locs ls hW hl
  rw [w_length] at hw
  refine lv_iload_n hx hb dX10_length_0 rfl (lv_at hl 1 rfl) ?_
  refine g_calls (As := [.int a1]) (rest := []) ⟨hx, hb, hml, ho, hts⟩ hl.1 (k_isSlot (l := l) _ a1 hw) (va_cwS 1 hts gX10_length_X10_isSlot rfl rfl rfl (by decide +kernel) ⟨Nat.le_of_ble_eq_true rfl, Nat.le_of_ble_eq_true rfl⟩) (Nat.le_of_ble_eq_true rfl) dX10_length_1 rfl ⟨Nat.le_of_ble_eq_true rfl, Nat.le_of_ble_eq_true rfl⟩ (fun r1 hw => ?_)
  try dsimp only at hw
  refine lv_if_ne (tgt := 11) hx hb dX10_length_4 (by decide) (fun c2 => ?_) (fun c2 => ?_)
  · have hw := hw.1 c2
    try dsimp only at hw
    refine lv_aload_n hx hb dX10_length_11 rfl (lv_at hl 0 rfl) ?_
    refine lv_iload_n hx hb dX10_length_12 rfl (lv_at hl 1 rfl) ?_
    refine g_calli (cw0 := fun M => rcells cI cZ ad M Y) (M := M) (As := [.int a1]) (rest := []) C0 hW hl.1 (k_hasNothing (l := l) _ a1 _ hw) (cwV 1 hts gX10_length_X10_hasNothing rfl rfl rfl (by decide +kernel) ⟨Nat.le_of_ble_eq_true rfl, Nat.le_of_ble_eq_true rfl⟩) (r_recv C0 hW) (Nat.le_of_ble_eq_true rfl) dX10_length_13 rfl ⟨Nat.le_of_ble_eq_true rfl, Nat.le_of_ble_eq_true rfl⟩ (fun r4 M3 H locs hw hW => ?_)
    try dsimp only at hw
    refine lv_if_eq (tgt := 24) hx hb dX10_length_16 (by decide) (fun c5 => ?_) (fun c5 => ?_)
    · have hw := hw.1 c5
      try dsimp only at hw
      refine lv_aload_n hx hb dX10_length_24 rfl (lv_at hl 0 rfl) ?_
      refine r_get C0 hin hW 0 (by decide) (v := .ref (ad 1)) rfl (List.mem_of_getElem? (i := 1) rfl) rfl dX10_length_25 ?_
      refine lv_iload_n hx hb dX10_length_28 rfl (lv_at hl 1 rfl) ?_
      refine g_calls (As := [.int a1]) (rest := [.ref (ad 1)]) ⟨hx, hb, hml, ho, hts⟩ hl.1 (k_at (l := l) _ a1 hw) (va_cwS 1 hts gX10_length_X10_at rfl rfl rfl (by decide +kernel) ⟨Nat.le_of_ble_eq_true rfl, Nat.le_of_ble_eq_true rfl⟩) (Nat.le_of_ble_eq_true rfl) dX10_length_29 rfl ⟨Nat.le_of_ble_eq_true rfl, Nat.le_of_ble_eq_true rfl⟩ (fun r6 hw => ?_)
      try dsimp only at hw
      obtain ⟨h7, hw⟩ := hw
      refine r_iald C0 hW 1 rfl rfl h7 dX10_length_32 ?_
      exact hret (M3 1 r6.toNatClampNeg) M3 _ _ 0 0 (Nat.le_refl _) (Nat.le_refl _) hw rfl dX10_length_33 _ _ _ hW hl
    · have hw := hw.2 c5
      try dsimp only at hw
      refine lv_bipush (v := (-2)) hx hb dX10_length_19 (by decide) ?_
      refine lv_goto (tgt := 33) hx hb dX10_length_21 (by decide) ?_
      exact hret (-2) M3 _ _ 0 0 (Nat.le_refl _) (Nat.le_refl _) hw rfl dX10_length_33 _ _ _ hW hl
  · have hw := hw.2 c2
    try dsimp only at hw
    refine lv_iconst (v := (-1)) hx hb dX10_length_7 (by decide) ?_
    refine lv_goto (tgt := 33) hx hb dX10_length_8 (by decide) ?_
    exact hret (-1) M _ _ 0 0 (Nat.le_refl _) (Nat.le_refl _) hw rfl dX10_length_33 _ _ _ hW hl
set_option maxHeartbeats 4000000 in
set_option maxRecDepth 100000 in
theorem k_length {l : Launch} {D : va_G} {cI cZ : ClassId} {ty' : List (ClassId × FieldType)} {ad : Nat → Nat} {Y : va_W} {sz : Nat} (post : Int32 → RM → Prop) (a1 : Int32) (M : RM) (hw : w_length post a1 M) : gMi l yX10_length wsX10_length rm_length D ((cI, .int) :: (cZ, .boolean) :: ty') sz (fun M => rcells cI cZ ad M Y) M [.ref (ad 0), .int a1] post 0 0 := by
  refine gMi_of (cc := cX10_length) (nL := 2) (ty := .int) (own := RX10) (by decide) rfl rfl (Nat.le_of_ble_eq_true rfl) ?_
  intro p e s m args below meth c A Q C0 hret
  exact t_length_0 C0 post hret a1 M hw
abbrev rm_characterAt : Room := { frames := 2, cells := 0, slots := 0, locals := 41 }
theorem in_characterAt : ∀ w ∈ wsX100, w ∈ wsX10_characterAt := fun w hw => List.mem_cons_of_mem _ (List.mem_append_right _ hw)
set_option maxHeartbeats 4000000 in
set_option maxRecDepth 100000 in
theorem t_characterAt_0 (C0 : rX p s m args c cX10_characterAt 3 RX10 wsX10_characterAt D ((cI, .int) :: (cZ, .boolean) :: ty') A) (post : Int32 → RM → Prop) (hret : ∀ (r : Int32) (M' : RM) (pc : Nat) (lv : List (Nat × Value)) (k n : Nat), k ≤ 0 → n ≤ 0 → post r M' → narrow .int (.int r) = .int r → decode cX10_characterAt pc = .ok (.ireturn, 1) → gG p l e rm_characterAt s m args below meth c Q D A 3 k n (rcells cI cZ ad M' Y) pc lv [.int r])  : ∀  (a1 a2 : Int32) (M : RM), w_characterAt post   a1 a2 M → gG p l e rm_characterAt s m args below meth c Q D A 3 0 0 (rcells cI cZ ad M Y) 0 [(0, .ref (ad 0)), (1, .int a1), (2, .int a2)] [] := by
  obtain ⟨hx, hb, hml, ho, hts, hK, hA⟩ := id C0
  have hin := in_characterAt
  intro a1 a2 M hw H locs ls hW hl
  rw [w_characterAt] at hw
  refine lv_iload_n hx hb dX10_characterAt_0 rfl (lv_at hl 1 rfl) ?_
  refine g_calls (As := [.int a1]) (rest := []) ⟨hx, hb, hml, ho, hts⟩ hl.1 (k_isSlot (l := l) _ a1 hw) (va_cwS 1 hts gX10_characterAt_X10_isSlot rfl rfl rfl (by decide +kernel) ⟨Nat.le_of_ble_eq_true rfl, Nat.le_of_ble_eq_true rfl⟩) (Nat.le_of_ble_eq_true rfl) dX10_characterAt_1 rfl ⟨Nat.le_of_ble_eq_true rfl, Nat.le_of_ble_eq_true rfl⟩ (fun r1 hw => ?_)
  try dsimp only at hw
  refine lv_if_ne (tgt := 9) hx hb dX10_characterAt_4 (by decide) (fun c2 => ?_) (fun c2 => ?_)
  · have hw := hw.1 c2
    try dsimp only at hw
    refine lv_aload_n hx hb dX10_characterAt_9 rfl (lv_at hl 0 rfl) ?_
    refine lv_iload_n hx hb dX10_characterAt_10 rfl (lv_at hl 1 rfl) ?_
    refine g_calli (cw0 := fun M => rcells cI cZ ad M Y) (M := M) (As := [.int a1]) (rest := []) C0 hW hl.1 (k_hasNothing (l := l) _ a1 _ hw) (cwV 1 hts gX10_characterAt_X10_hasNothing rfl rfl rfl (by decide +kernel) ⟨Nat.le_of_ble_eq_true rfl, Nat.le_of_ble_eq_true rfl⟩) (r_recv C0 hW) (Nat.le_of_ble_eq_true rfl) dX10_characterAt_11 rfl ⟨Nat.le_of_ble_eq_true rfl, Nat.le_of_ble_eq_true rfl⟩ (fun r4 M3 H locs hw hW => ?_)
    try dsimp only at hw
    refine lv_if_eq (tgt := 20) hx hb dX10_characterAt_14 (by decide) (fun c5 => ?_) (fun c5 => ?_)
    · have hw := hw.1 c5
      try dsimp only at hw
      refine lv_iload_n hx hb dX10_characterAt_20 rfl (lv_at hl 2 rfl) ?_
      refine lv_if_lt (tgt := 37) hx hb dX10_characterAt_21 (by decide) (fun c6 => ?_) (fun c6 => ?_)
      · have hw := hw.1 c6
        try dsimp only at hw
        refine lv_bipush (v := (-5)) hx hb dX10_characterAt_37 (by decide) ?_
        refine lv_goto (tgt := 55) hx hb dX10_characterAt_39 (by decide) ?_
        exact hret (-5) M3 _ _ 0 0 (Nat.le_refl _) (Nat.le_refl _) hw rfl dX10_characterAt_55 _ _ _ hW hl
      · have hw := hw.2 c6
        try dsimp only at hw
        refine lv_iload_n hx hb dX10_characterAt_24 rfl (lv_at hl 2 rfl) ?_
        refine lv_aload_n hx hb dX10_characterAt_25 rfl (lv_at hl 0 rfl) ?_
        refine r_get C0 hin hW 0 (by decide) (v := .ref (ad 1)) rfl (List.mem_of_getElem? (i := 1) rfl) rfl dX10_characterAt_26 ?_
        refine lv_iload_n hx hb dX10_characterAt_29 rfl (lv_at hl 1 rfl) ?_
        refine g_calls (As := [.int a1]) (rest := [.ref (ad 1), .int a2]) ⟨hx, hb, hml, ho, hts⟩ hl.1 (k_at (l := l) _ a1 hw) (va_cwS 1 hts gX10_characterAt_X10_at rfl rfl rfl (by decide +kernel) ⟨Nat.le_of_ble_eq_true rfl, Nat.le_of_ble_eq_true rfl⟩) (Nat.le_of_ble_eq_true rfl) dX10_characterAt_30 rfl ⟨Nat.le_of_ble_eq_true rfl, Nat.le_of_ble_eq_true rfl⟩ (fun r7 hw => ?_)
        try dsimp only at hw
        obtain ⟨h8, hw⟩ := hw
        refine r_iald C0 hW 1 rfl rfl h8 dX10_characterAt_33 ?_
        refine lv_icmp_lt (tgt := 42) hx hb dX10_characterAt_34 (by decide) (fun c9 => ?_) (fun c9 => ?_)
        · have hw := hw.1 c9
          try dsimp only at hw
          refine lv_aload_n hx hb dX10_characterAt_42 rfl (lv_at hl 0 rfl) ?_
          refine r_get C0 hin hW 0 (by decide) (v := .ref (ad 1)) rfl (List.mem_of_getElem? (i := 1) rfl) rfl dX10_characterAt_43 ?_
          refine lv_iload_n hx hb dX10_characterAt_46 rfl (lv_at hl 1 rfl) ?_
          refine g_calls (As := [.int a1]) (rest := [.ref (ad 1)]) ⟨hx, hb, hml, ho, hts⟩ hl.1 (k_at (l := l) _ a1 hw) (va_cwS 1 hts gX10_characterAt_X10_at rfl rfl rfl (by decide +kernel) ⟨Nat.le_of_ble_eq_true rfl, Nat.le_of_ble_eq_true rfl⟩) (Nat.le_of_ble_eq_true rfl) dX10_characterAt_47 rfl ⟨Nat.le_of_ble_eq_true rfl, Nat.le_of_ble_eq_true rfl⟩ (fun r10 hw => ?_)
          try dsimp only at hw
          refine lv_iconst (v := 1) hx hb dX10_characterAt_50 (by decide) ?_
          refine lv_iadd hx hb dX10_characterAt_51 ?_
          refine lv_iload_n hx hb dX10_characterAt_52 rfl (lv_at hl 2 rfl) ?_
          refine lv_iadd hx hb dX10_characterAt_53 ?_
          obtain ⟨h11, hw⟩ := hw
          refine r_iald C0 hW 1 rfl rfl h11 dX10_characterAt_54 ?_
          exact hret (M3 1 (((r10 + 1) + a2) : Int32).toNatClampNeg) M3 _ _ 0 0 (Nat.le_refl _) (Nat.le_refl _) hw rfl dX10_characterAt_55 _ _ _ hW hl
        · have hw := hw.2 c9
          try dsimp only at hw
          refine lv_bipush (v := (-5)) hx hb dX10_characterAt_37 (by decide) ?_
          refine lv_goto (tgt := 55) hx hb dX10_characterAt_39 (by decide) ?_
          exact hret (-5) M3 _ _ 0 0 (Nat.le_refl _) (Nat.le_refl _) hw rfl dX10_characterAt_55 _ _ _ hW hl
    · have hw := hw.2 c5
      try dsimp only at hw
      refine lv_bipush (v := (-2)) hx hb dX10_characterAt_17 (by decide) ?_
      exact hret (-2) M3 _ _ 0 0 (Nat.le_refl _) (Nat.le_refl _) hw rfl dX10_characterAt_19 _ _ _ hW hl
  · have hw := hw.2 c2
    try dsimp only at hw
    refine lv_iconst (v := (-1)) hx hb dX10_characterAt_7 (by decide) ?_
    exact hret (-1) M _ _ 0 0 (Nat.le_refl _) (Nat.le_refl _) hw rfl dX10_characterAt_8 _ _ _ hW hl
set_option maxHeartbeats 4000000 in
set_option maxRecDepth 100000 in
theorem k_characterAt {l : Launch} {D : va_G} {cI cZ : ClassId} {ty' : List (ClassId × FieldType)} {ad : Nat → Nat} {Y : va_W} {sz : Nat} (post : Int32 → RM → Prop) (a1 a2 : Int32) (M : RM) (hw : w_characterAt post a1 a2 M) : gMi l yX10_characterAt wsX10_characterAt rm_characterAt D ((cI, .int) :: (cZ, .boolean) :: ty') sz (fun M => rcells cI cZ ad M Y) M [.ref (ad 0), .int a1, .int a2] post 0 0 := by
  refine gMi_of (cc := cX10_characterAt) (nL := 3) (ty := .int) (own := RX10) (by decide) rfl rfl (Nat.le_of_ble_eq_true rfl) ?_
  intro p e s m args below meth c A Q C0 hret
  exact t_characterAt_0 C0 post hret a1 a2 M hw
abbrev rm_copy : Room := { frames := 2, cells := 0, slots := 0, locals := 41 }
theorem in_copy : ∀ w ∈ wsX100, w ∈ wsX10_copy := fun w hw => List.mem_cons_of_mem _ (List.mem_append_right _ hw)
set_option maxHeartbeats 4000000 in
set_option maxRecDepth 100000 in
theorem t_copy_0 (C0 : rX p s m args c cX10_copy 4 RX10 wsX10_copy D ((cI, .int) :: (cZ, .boolean) :: ty') A) (post : Int32 → RM → Prop) (hret : ∀ (r : Int32) (M' : RM) (pc : Nat) (lv : List (Nat × Value)) (k n : Nat), k ≤ 0 → n ≤ 0 → post r M' → narrow .int (.int r) = .int r → decode cX10_copy pc = .ok (.ireturn, 1) → gG p l e rm_copy s m args below meth c Q D A 4 k n (rcells cI cZ ad M' Y) pc lv [.int r])  : ∀  (a1 a2 : Int32) (M : RM), w_copy post   a1 a2 M → gG p l e rm_copy s m args below meth c Q D A 4 0 0 (rcells cI cZ ad M Y) 0 [(0, .ref (ad 0)), (1, .int a1), (2, .int a2)] [] := by
  obtain ⟨hx, hb, hml, ho, hts, hK, hA⟩ := id C0
  have hin := in_copy
  intro a1 a2 M hw H locs ls hW hl
  rw [w_copy] at hw
  refine lv_iload_n hx hb dX10_copy_0 rfl (lv_at hl 1 rfl) ?_
  refine g_calls (As := [.int a1]) (rest := []) ⟨hx, hb, hml, ho, hts⟩ hl.1 (k_isSlot (l := l) _ a1 hw) (va_cwS 1 hts gX10_copy_X10_isSlot rfl rfl rfl (by decide +kernel) ⟨Nat.le_of_ble_eq_true rfl, Nat.le_of_ble_eq_true rfl⟩) (Nat.le_of_ble_eq_true rfl) dX10_copy_1 rfl ⟨Nat.le_of_ble_eq_true rfl, Nat.le_of_ble_eq_true rfl⟩ (fun r1 hw => ?_)
  try dsimp only at hw
  refine lv_if_eq (tgt := 14) hx hb dX10_copy_4 (by decide) (fun c2 => ?_) (fun c2 => ?_)
  · have hw := hw.1 c2
    try dsimp only at hw
    refine lv_iconst (v := (-1)) hx hb dX10_copy_14 (by decide) ?_
    exact hret (-1) M _ _ 0 0 (Nat.le_refl _) (Nat.le_refl _) hw rfl dX10_copy_15 _ _ _ hW hl
  · have hw := hw.2 c2
    try dsimp only at hw
    refine lv_iload_n hx hb dX10_copy_7 rfl (lv_at hl 2 rfl) ?_
    refine g_calls (As := [.int a2]) (rest := []) ⟨hx, hb, hml, ho, hts⟩ hl.1 (k_isSlot (l := l) _ a2 hw) (va_cwS 1 hts gX10_copy_X10_isSlot rfl rfl rfl (by decide +kernel) ⟨Nat.le_of_ble_eq_true rfl, Nat.le_of_ble_eq_true rfl⟩) (Nat.le_of_ble_eq_true rfl) dX10_copy_8 rfl ⟨Nat.le_of_ble_eq_true rfl, Nat.le_of_ble_eq_true rfl⟩ (fun r3 hw => ?_)
    try dsimp only at hw
    refine lv_if_ne (tgt := 16) hx hb dX10_copy_11 (by decide) (fun c4 => ?_) (fun c4 => ?_)
    · have hw := hw.1 c4
      try dsimp only at hw
      refine lv_aload_n hx hb dX10_copy_16 rfl (lv_at hl 0 rfl) ?_
      refine lv_iload_n hx hb dX10_copy_17 rfl (lv_at hl 1 rfl) ?_
      refine g_calli (cw0 := fun M => rcells cI cZ ad M Y) (M := M) (As := [.int a1]) (rest := []) C0 hW hl.1 (k_hasNothing (l := l) _ a1 _ hw) (cwV 1 hts gX10_copy_X10_hasNothing rfl rfl rfl (by decide +kernel) ⟨Nat.le_of_ble_eq_true rfl, Nat.le_of_ble_eq_true rfl⟩) (r_recv C0 hW) (Nat.le_of_ble_eq_true rfl) dX10_copy_18 rfl ⟨Nat.le_of_ble_eq_true rfl, Nat.le_of_ble_eq_true rfl⟩ (fun r6 M5 H locs hw hW => ?_)
      try dsimp only at hw
      refine lv_istore_n (lv' := [(3, .int r6), (0, .ref (ad 0)), (1, .int a1), (2, .int a2)]) hx hb dX10_copy_21 rfl hl (by decide) rfl (fun ls hl => ?_)
      refine lv_aload_n hx hb dX10_copy_22 rfl (lv_at hl 1 rfl) ?_
      refine lv_iload_n hx hb dX10_copy_23 rfl (lv_at hl 2 rfl) ?_
      refine g_calls (As := [.int a1]) (rest := [.ref (ad 0)]) ⟨hx, hb, hml, ho, hts⟩ hl.1 (k_at (l := l) _ a1 hw) (va_cwS 1 hts gX10_copy_X10_at rfl rfl rfl (by decide +kernel) ⟨Nat.le_of_ble_eq_true rfl, Nat.le_of_ble_eq_true rfl⟩) (Nat.le_of_ble_eq_true rfl) dX10_copy_24 rfl ⟨Nat.le_of_ble_eq_true rfl, Nat.le_of_ble_eq_true rfl⟩ (fun r7 hw => ?_)
      try dsimp only at hw
      refine lv_iload_n hx hb dX10_copy_27 rfl (lv_at hl 3 rfl) ?_
      refine g_calls (As := [.int a2]) (rest := [.int r7, .ref (ad 0)]) ⟨hx, hb, hml, ho, hts⟩ hl.1 (k_at (l := l) _ a2 hw) (va_cwS 1 hts gX10_copy_X10_at rfl rfl rfl (by decide +kernel) ⟨Nat.le_of_ble_eq_true rfl, Nat.le_of_ble_eq_true rfl⟩) (Nat.le_of_ble_eq_true rfl) dX10_copy_28 rfl ⟨Nat.le_of_ble_eq_true rfl, Nat.le_of_ble_eq_true rfl⟩ (fun r8 hw => ?_)
      try dsimp only at hw
      refine g_callv (cw0 := fun M => rcells cI cZ ad M Y) (M := M5) (As := [.int r7, .int r8]) (rest := []) C0 hW hl.1 (k_copyText (l := l) _ r7 r8 _ hw) (cwV 2 hts gX10_copy_X10_copyText rfl rfl rfl (by decide +kernel) ⟨Nat.le_of_ble_eq_true rfl, Nat.le_of_ble_eq_true rfl⟩) (r_recv C0 hW) (Nat.le_of_ble_eq_true rfl) dX10_copy_31 rfl ⟨Nat.le_of_ble_eq_true rfl, Nat.le_of_ble_eq_true rfl⟩ (fun M9 H locs hw hW => ?_)
      try dsimp only at hw
      refine lv_iload_n hx hb dX10_copy_34 rfl (lv_at hl 0 rfl) ?_
      refine lv_if_eq (tgt := 43) hx hb dX10_copy_35 (by decide) (fun c10 => ?_) (fun c10 => ?_)
      · have hw := hw.1 c10
        try dsimp only at hw
        refine lv_aload_n hx hb dX10_copy_43 rfl (lv_at hl 1 rfl) ?_
        refine r_get C0 hin hW 0 (by decide) (v := .ref (ad 1)) rfl (List.mem_of_getElem? (i := 1) rfl) rfl dX10_copy_44 ?_
        refine lv_iload_n hx hb dX10_copy_47 rfl (lv_at hl 3 rfl) ?_
        refine g_calls (As := [.int a2]) (rest := [.ref (ad 1)]) ⟨hx, hb, hml, ho, hts⟩ hl.1 (k_at (l := l) _ a2 hw) (va_cwS 1 hts gX10_copy_X10_at rfl rfl rfl (by decide +kernel) ⟨Nat.le_of_ble_eq_true rfl, Nat.le_of_ble_eq_true rfl⟩) (Nat.le_of_ble_eq_true rfl) dX10_copy_48 rfl ⟨Nat.le_of_ble_eq_true rfl, Nat.le_of_ble_eq_true rfl⟩ (fun r11 hw => ?_)
        try dsimp only at hw
        obtain ⟨h12, hw⟩ := hw
        refine r_iald C0 hW 1 rfl rfl h12 dX10_copy_51 ?_
        exact hret (M9 1 r11.toNatClampNeg) M9 _ _ 0 0 (Nat.le_refl _) (Nat.le_refl _) hw rfl dX10_copy_52 _ _ _ hW hl
      · have hw := hw.2 c10
        try dsimp only at hw
        refine lv_bipush (v := (-2)) hx hb dX10_copy_38 (by decide) ?_
        refine lv_goto (tgt := 52) hx hb dX10_copy_40 (by decide) ?_
        exact hret (-2) M9 _ _ 0 0 (Nat.le_refl _) (Nat.le_refl _) hw rfl dX10_copy_52 _ _ _ hW hl
    · have hw := hw.2 c4
      try dsimp only at hw
      refine lv_iconst (v := (-1)) hx hb dX10_copy_14 (by decide) ?_
      exact hret (-1) M _ _ 0 0 (Nat.le_refl _) (Nat.le_refl _) hw rfl dX10_copy_15 _ _ _ hW hl
set_option maxHeartbeats 4000000 in
set_option maxRecDepth 100000 in
theorem k_copy {l : Launch} {D : va_G} {cI cZ : ClassId} {ty' : List (ClassId × FieldType)} {ad : Nat → Nat} {Y : va_W} {sz : Nat} (post : Int32 → RM → Prop) (a1 a2 : Int32) (M : RM) (hw : w_copy post a1 a2 M) : gMi l yX10_copy wsX10_copy rm_copy D ((cI, .int) :: (cZ, .boolean) :: ty') sz (fun M => rcells cI cZ ad M Y) M [.ref (ad 0), .int a1, .int a2] post 0 0 := by
  refine gMi_of (cc := cX10_copy) (nL := 4) (ty := .int) (own := RX10) (by decide) rfl rfl (Nat.le_of_ble_eq_true rfl) ?_
  intro p e s m args below meth c A Q C0 hret
  exact t_copy_0 C0 post hret a1 a2 M hw
abbrev rm_same : Room := { frames := 2, cells := 0, slots := 0, locals := 41 }
theorem in_same : ∀ w ∈ wsX100, w ∈ wsX10_same := fun w hw => List.mem_cons_of_mem _ (List.mem_append_right _ hw)
set_option maxHeartbeats 4000000 in
set_option maxRecDepth 100000 in
theorem t_same_86 (C0 : rX p s m args c cX10_same 5 RX10 wsX10_same D ((cI, .int) :: (cZ, .boolean) :: ty') A) (post : Int32 → RM → Prop) (hret : ∀ (r : Int32) (M' : RM) (pc : Nat) (lv : List (Nat × Value)) (k n : Nat), k ≤ 0 → n ≤ 0 → post r M' → narrow .int (.int r) = .int r → decode cX10_same pc = .ok (.ireturn, 1) → gG p l e rm_same s m args below meth c Q D A 5 k n (rcells cI cZ ad M' Y) pc lv [.int r])  : ∀  (s0 : Int32) (M : RM), w_same_86 post   s0 M → gG p l e rm_same s m args below meth c Q D A 5 0 0 (rcells cI cZ ad M Y) 86 [(0, .ref (ad 0))] [.int s0] := by
  obtain ⟨hx, hb, hml, ho, hts, hK, hA⟩ := id C0
  have hin := in_same
  intro s0 M hw H locs ls hW hl
  rw [w_same_86] at hw
  refine lv_istore (lv' := [(4, .int s0), (0, .ref (ad 0))]) hx hb dX10_same_86 hl (by decide) rfl (fun ls hl => ?_)
  refine lv_iload hx hb dX10_same_88 (lv_at hl 0 rfl) ?_
  refine lv_if_eq (tgt := 97) hx hb dX10_same_90 (by decide) (fun c23 => ?_) (fun c23 => ?_)
  · have hw := hw.1 c23
    try dsimp only at hw
    refine lv_iconst (v := 0) hx hb dX10_same_97 (by decide) ?_
    exact hret 0 M _ _ 0 0 (Nat.le_refl _) (Nat.le_refl _) hw rfl dX10_same_98 _ _ _ hW hl
  · have hw := hw.2 c23
    try dsimp only at hw
    refine lv_iconst (v := 1) hx hb dX10_same_93 (by decide) ?_
    refine lv_goto (tgt := 98) hx hb dX10_same_94 (by decide) ?_
    exact hret 1 M _ _ 0 0 (Nat.le_refl _) (Nat.le_refl _) hw rfl dX10_same_98 _ _ _ hW hl
set_option maxHeartbeats 4000000 in
set_option maxRecDepth 100000 in
theorem t_same_62 (C0 : rX p s m args c cX10_same 5 RX10 wsX10_same D ((cI, .int) :: (cZ, .boolean) :: ty') A) (post : Int32 → RM → Prop) (hret : ∀ (r : Int32) (M' : RM) (pc : Nat) (lv : List (Nat × Value)) (k n : Nat), k ≤ 0 → n ≤ 0 → post r M' → narrow .int (.int r) = .int r → decode cX10_same pc = .ok (.ireturn, 1) → gG p l e rm_same s m args below meth c Q D A 5 k n (rcells cI cZ ad M' Y) pc lv [.int r])  : ∀  (M : RM), w_same_62 post    M → gG p l e rm_same s m args below meth c Q D A 5 0 0 (rcells cI cZ ad M Y) 62 [(0, .ref (ad 0))] [] := by
  obtain ⟨hx, hb, hml, ho, hts, hK, hA⟩ := id C0
  have hin := in_same
  intro  M hw H locs ls hW hl
  rw [w_same_62] at hw
  refine lv_iconst (v := 0) hx hb dX10_same_62 (by decide) ?_
  refine lv_goto (tgt := 86) hx hb dX10_same_63 (by decide) ?_
  exact t_same_86 C0 post hret  0 M hw _ _ _ hW (lv_sub hl [0] rfl)
set_option maxHeartbeats 4000000 in
set_option maxRecDepth 100000 in
theorem t_same_37 (C0 : rX p s m args c cX10_same 5 RX10 wsX10_same D ((cI, .int) :: (cZ, .boolean) :: ty') A) (post : Int32 → RM → Prop) (hret : ∀ (r : Int32) (M' : RM) (pc : Nat) (lv : List (Nat × Value)) (k n : Nat), k ≤ 0 → n ≤ 0 → post r M' → narrow .int (.int r) = .int r → decode cX10_same pc = .ok (.ireturn, 1) → gG p l e rm_same s m args below meth c Q D A 5 k n (rcells cI cZ ad M' Y) pc lv [.int r])  : ∀  (x1 x2 s0 : Int32) (M : RM), w_same_37 post   x1 x2 s0 M → gG p l e rm_same s m args below meth c Q D A 5 0 0 (rcells cI cZ ad M Y) 37 [(0, .ref (ad 0)), (1, .int x1), (2, .int x2)] [.int s0] := by
  obtain ⟨hx, hb, hml, ho, hts, hK, hA⟩ := id C0
  have hin := in_same
  intro x1 x2 s0 M hw H locs ls hW hl
  rw [w_same_37] at hw
  refine lv_istore_n (lv' := [(3, .int s0), (0, .ref (ad 0)), (1, .int x1), (2, .int x2)]) hx hb dX10_same_37 rfl hl (by decide) rfl (fun ls hl => ?_)
  refine lv_iload_n hx hb dX10_same_38 rfl (lv_at hl 0 rfl) ?_
  refine lv_if_eq (tgt := 66) hx hb dX10_same_39 (by decide) (fun c11 => ?_) (fun c11 => ?_)
  · have hw := hw.1 c11
    try dsimp only at hw
    refine lv_aload_n hx hb dX10_same_66 rfl (lv_at hl 1 rfl) ?_
    refine lv_iload_n hx hb dX10_same_67 rfl (lv_at hl 2 rfl) ?_
    refine g_calls (As := [.int x1]) (rest := [.ref (ad 0)]) ⟨hx, hb, hml, ho, hts⟩ hl.1 (k_at (l := l) _ x1 hw) (va_cwS 1 hts gX10_same_X10_at rfl rfl rfl (by decide +kernel) ⟨Nat.le_of_ble_eq_true rfl, Nat.le_of_ble_eq_true rfl⟩) (Nat.le_of_ble_eq_true rfl) dX10_same_68 rfl ⟨Nat.le_of_ble_eq_true rfl, Nat.le_of_ble_eq_true rfl⟩ (fun r12 hw => ?_)
    try dsimp only at hw
    refine lv_iload_n hx hb dX10_same_71 rfl (lv_at hl 3 rfl) ?_
    refine g_calls (As := [.int x2]) (rest := [.int r12, .ref (ad 0)]) ⟨hx, hb, hml, ho, hts⟩ hl.1 (k_at (l := l) _ x2 hw) (va_cwS 1 hts gX10_same_X10_at rfl rfl rfl (by decide +kernel) ⟨Nat.le_of_ble_eq_true rfl, Nat.le_of_ble_eq_true rfl⟩) (Nat.le_of_ble_eq_true rfl) dX10_same_72 rfl ⟨Nat.le_of_ble_eq_true rfl, Nat.le_of_ble_eq_true rfl⟩ (fun r13 hw => ?_)
    try dsimp only at hw
    refine g_calli (cw0 := fun M => rcells cI cZ ad M Y) (M := M) (As := [.int r12, .int r13]) (rest := []) C0 hW hl.1 (k_compare (l := l) _ r12 r13 _ hw) (cwV 2 hts gX10_same_X10_compare rfl rfl rfl (by decide +kernel) ⟨Nat.le_of_ble_eq_true rfl, Nat.le_of_ble_eq_true rfl⟩) (r_recv C0 hW) (Nat.le_of_ble_eq_true rfl) dX10_same_75 rfl ⟨Nat.le_of_ble_eq_true rfl, Nat.le_of_ble_eq_true rfl⟩ (fun r15 M14 H locs hw hW => ?_)
    try dsimp only at hw
    refine lv_if_ne (tgt := 85) hx hb dX10_same_78 (by decide) (fun c16 => ?_) (fun c16 => ?_)
    · have hw := hw.1 c16
      try dsimp only at hw
      refine lv_iconst (v := 0) hx hb dX10_same_85 (by decide) ?_
      exact t_same_86 C0 post hret  0 M14 hw _ _ _ hW (lv_sub hl [1] rfl)
    · have hw := hw.2 c16
      try dsimp only at hw
      refine lv_iconst (v := 1) hx hb dX10_same_81 (by decide) ?_
      refine lv_goto (tgt := 86) hx hb dX10_same_82 (by decide) ?_
      exact t_same_86 C0 post hret  1 M14 hw _ _ _ hW (lv_sub hl [1] rfl)
  · have hw := hw.2 c11
    try dsimp only at hw
    refine lv_aload_n hx hb dX10_same_42 rfl (lv_at hl 1 rfl) ?_
    refine lv_iload_n hx hb dX10_same_43 rfl (lv_at hl 2 rfl) ?_
    refine g_calli (cw0 := fun M => rcells cI cZ ad M Y) (M := M) (As := [.int x1]) (rest := []) C0 hW hl.1 (k_hasNothing (l := l) _ x1 _ hw) (cwV 1 hts gX10_same_X10_hasNothing rfl rfl rfl (by decide +kernel) ⟨Nat.le_of_ble_eq_true rfl, Nat.le_of_ble_eq_true rfl⟩) (r_recv C0 hW) (Nat.le_of_ble_eq_true rfl) dX10_same_44 rfl ⟨Nat.le_of_ble_eq_true rfl, Nat.le_of_ble_eq_true rfl⟩ (fun r18 M17 H locs hw hW => ?_)
    try dsimp only at hw
    refine lv_if_eq (tgt := 62) hx hb dX10_same_47 (by decide) (fun c19 => ?_) (fun c19 => ?_)
    · have hw := hw.1 c19
      try dsimp only at hw
      exact t_same_62 C0 post hret   M17 hw _ _ _ hW (lv_sub hl [1] rfl)
    · have hw := hw.2 c19
      try dsimp only at hw
      refine lv_aload_n hx hb dX10_same_50 rfl (lv_at hl 1 rfl) ?_
      refine lv_iload_n hx hb dX10_same_51 rfl (lv_at hl 3 rfl) ?_
      refine g_calli (cw0 := fun M => rcells cI cZ ad M Y) (M := M17) (As := [.int x2]) (rest := []) C0 hW hl.1 (k_hasNothing (l := l) _ x2 _ hw) (cwV 1 hts gX10_same_X10_hasNothing rfl rfl rfl (by decide +kernel) ⟨Nat.le_of_ble_eq_true rfl, Nat.le_of_ble_eq_true rfl⟩) (r_recv C0 hW) (Nat.le_of_ble_eq_true rfl) dX10_same_52 rfl ⟨Nat.le_of_ble_eq_true rfl, Nat.le_of_ble_eq_true rfl⟩ (fun r21 M20 H locs hw hW => ?_)
      try dsimp only at hw
      refine lv_if_eq (tgt := 62) hx hb dX10_same_55 (by decide) (fun c22 => ?_) (fun c22 => ?_)
      · have hw := hw.1 c22
        try dsimp only at hw
        exact t_same_62 C0 post hret   M20 hw _ _ _ hW (lv_sub hl [1] rfl)
      · have hw := hw.2 c22
        try dsimp only at hw
        refine lv_iconst (v := 1) hx hb dX10_same_58 (by decide) ?_
        refine lv_goto (tgt := 86) hx hb dX10_same_59 (by decide) ?_
        exact t_same_86 C0 post hret  1 M20 hw _ _ _ hW (lv_sub hl [1] rfl)
set_option maxHeartbeats 4000000 in
set_option maxRecDepth 100000 in
theorem t_same_32 (C0 : rX p s m args c cX10_same 5 RX10 wsX10_same D ((cI, .int) :: (cZ, .boolean) :: ty') A) (post : Int32 → RM → Prop) (hret : ∀ (r : Int32) (M' : RM) (pc : Nat) (lv : List (Nat × Value)) (k n : Nat), k ≤ 0 → n ≤ 0 → post r M' → narrow .int (.int r) = .int r → decode cX10_same pc = .ok (.ireturn, 1) → gG p l e rm_same s m args below meth c Q D A 5 k n (rcells cI cZ ad M' Y) pc lv [.int r])  : ∀  (x1 x2 : Int32) (M : RM), w_same_32 post   x1 x2 M → gG p l e rm_same s m args below meth c Q D A 5 0 0 (rcells cI cZ ad M Y) 32 [(0, .ref (ad 0)), (1, .int x1), (2, .int x2)] [] := by
  obtain ⟨hx, hb, hml, ho, hts, hK, hA⟩ := id C0
  have hin := in_same
  intro x1 x2 M hw H locs ls hW hl
  rw [w_same_32] at hw
  refine lv_iconst (v := 1) hx hb dX10_same_32 (by decide) ?_
  refine lv_goto (tgt := 37) hx hb dX10_same_33 (by decide) ?_
  exact t_same_37 C0 post hret  x1 x2 1 M hw _ _ _ hW (lv_sub hl [0, 1, 2] rfl)
set_option maxHeartbeats 4000000 in
set_option maxRecDepth 100000 in
theorem t_same_0 (C0 : rX p s m args c cX10_same 5 RX10 wsX10_same D ((cI, .int) :: (cZ, .boolean) :: ty') A) (post : Int32 → RM → Prop) (hret : ∀ (r : Int32) (M' : RM) (pc : Nat) (lv : List (Nat × Value)) (k n : Nat), k ≤ 0 → n ≤ 0 → post r M' → narrow .int (.int r) = .int r → decode cX10_same pc = .ok (.ireturn, 1) → gG p l e rm_same s m args below meth c Q D A 5 k n (rcells cI cZ ad M' Y) pc lv [.int r])  : ∀  (a1 a2 : Int32) (M : RM), w_same post   a1 a2 M → gG p l e rm_same s m args below meth c Q D A 5 0 0 (rcells cI cZ ad M Y) 0 [(0, .ref (ad 0)), (1, .int a1), (2, .int a2)] [] := by
  obtain ⟨hx, hb, hml, ho, hts, hK, hA⟩ := id C0
  have hin := in_same
  intro a1 a2 M hw H locs ls hW hl
  rw [w_same] at hw
  refine lv_iload_n hx hb dX10_same_0 rfl (lv_at hl 1 rfl) ?_
  refine g_calls (As := [.int a1]) (rest := []) ⟨hx, hb, hml, ho, hts⟩ hl.1 (k_isSlot (l := l) _ a1 hw) (va_cwS 1 hts gX10_same_X10_isSlot rfl rfl rfl (by decide +kernel) ⟨Nat.le_of_ble_eq_true rfl, Nat.le_of_ble_eq_true rfl⟩) (Nat.le_of_ble_eq_true rfl) dX10_same_1 rfl ⟨Nat.le_of_ble_eq_true rfl, Nat.le_of_ble_eq_true rfl⟩ (fun r1 hw => ?_)
  try dsimp only at hw
  refine lv_if_eq (tgt := 14) hx hb dX10_same_4 (by decide) (fun c2 => ?_) (fun c2 => ?_)
  · have hw := hw.1 c2
    try dsimp only at hw
    refine lv_iconst (v := (-1)) hx hb dX10_same_14 (by decide) ?_
    exact hret (-1) M _ _ 0 0 (Nat.le_refl _) (Nat.le_refl _) hw rfl dX10_same_15 _ _ _ hW hl
  · have hw := hw.2 c2
    try dsimp only at hw
    refine lv_iload_n hx hb dX10_same_7 rfl (lv_at hl 2 rfl) ?_
    refine g_calls (As := [.int a2]) (rest := []) ⟨hx, hb, hml, ho, hts⟩ hl.1 (k_isSlot (l := l) _ a2 hw) (va_cwS 1 hts gX10_same_X10_isSlot rfl rfl rfl (by decide +kernel) ⟨Nat.le_of_ble_eq_true rfl, Nat.le_of_ble_eq_true rfl⟩) (Nat.le_of_ble_eq_true rfl) dX10_same_8 rfl ⟨Nat.le_of_ble_eq_true rfl, Nat.le_of_ble_eq_true rfl⟩ (fun r3 hw => ?_)
    try dsimp only at hw
    refine lv_if_ne (tgt := 16) hx hb dX10_same_11 (by decide) (fun c4 => ?_) (fun c4 => ?_)
    · have hw := hw.1 c4
      try dsimp only at hw
      refine lv_aload_n hx hb dX10_same_16 rfl (lv_at hl 0 rfl) ?_
      refine lv_iload_n hx hb dX10_same_17 rfl (lv_at hl 1 rfl) ?_
      refine g_calli (cw0 := fun M => rcells cI cZ ad M Y) (M := M) (As := [.int a1]) (rest := []) C0 hW hl.1 (k_hasNothing (l := l) _ a1 _ hw) (cwV 1 hts gX10_same_X10_hasNothing rfl rfl rfl (by decide +kernel) ⟨Nat.le_of_ble_eq_true rfl, Nat.le_of_ble_eq_true rfl⟩) (r_recv C0 hW) (Nat.le_of_ble_eq_true rfl) dX10_same_18 rfl ⟨Nat.le_of_ble_eq_true rfl, Nat.le_of_ble_eq_true rfl⟩ (fun r6 M5 H locs hw hW => ?_)
      try dsimp only at hw
      refine lv_if_ne (tgt := 32) hx hb dX10_same_21 (by decide) (fun c7 => ?_) (fun c7 => ?_)
      · have hw := hw.1 c7
        try dsimp only at hw
        exact t_same_32 C0 post hret  a1 a2 M5 hw _ _ _ hW (lv_sub hl [0, 1, 2] rfl)
      · have hw := hw.2 c7
        try dsimp only at hw
        refine lv_aload_n hx hb dX10_same_24 rfl (lv_at hl 0 rfl) ?_
        refine lv_iload_n hx hb dX10_same_25 rfl (lv_at hl 2 rfl) ?_
        refine g_calli (cw0 := fun M => rcells cI cZ ad M Y) (M := M5) (As := [.int a2]) (rest := []) C0 hW hl.1 (k_hasNothing (l := l) _ a2 _ hw) (cwV 1 hts gX10_same_X10_hasNothing rfl rfl rfl (by decide +kernel) ⟨Nat.le_of_ble_eq_true rfl, Nat.le_of_ble_eq_true rfl⟩) (r_recv C0 hW) (Nat.le_of_ble_eq_true rfl) dX10_same_26 rfl ⟨Nat.le_of_ble_eq_true rfl, Nat.le_of_ble_eq_true rfl⟩ (fun r9 M8 H locs hw hW => ?_)
        try dsimp only at hw
        refine lv_if_eq (tgt := 36) hx hb dX10_same_29 (by decide) (fun c10 => ?_) (fun c10 => ?_)
        · have hw := hw.1 c10
          try dsimp only at hw
          refine lv_iconst (v := 0) hx hb dX10_same_36 (by decide) ?_
          exact t_same_37 C0 post hret  a1 a2 0 M8 hw _ _ _ hW (lv_sub hl [0, 1, 2] rfl)
        · have hw := hw.2 c10
          try dsimp only at hw
          exact t_same_32 C0 post hret  a1 a2 M8 hw _ _ _ hW (lv_sub hl [0, 1, 2] rfl)
    · have hw := hw.2 c4
      try dsimp only at hw
      refine lv_iconst (v := (-1)) hx hb dX10_same_14 (by decide) ?_
      exact hret (-1) M _ _ 0 0 (Nat.le_refl _) (Nat.le_refl _) hw rfl dX10_same_15 _ _ _ hW hl
set_option maxHeartbeats 4000000 in
set_option maxRecDepth 100000 in
theorem k_same {l : Launch} {D : va_G} {cI cZ : ClassId} {ty' : List (ClassId × FieldType)} {ad : Nat → Nat} {Y : va_W} {sz : Nat} (post : Int32 → RM → Prop) (a1 a2 : Int32) (M : RM) (hw : w_same post a1 a2 M) : gMi l yX10_same wsX10_same rm_same D ((cI, .int) :: (cZ, .boolean) :: ty') sz (fun M => rcells cI cZ ad M Y) M [.ref (ad 0), .int a1, .int a2] post 0 0 := by
  refine gMi_of (cc := cX10_same) (nL := 5) (ty := .int) (own := RX10) (by decide) rfl rfl (Nat.le_of_ble_eq_true rfl) ?_
  intro p e s m args below meth c A Q C0 hret
  exact t_same_0 C0 post hret a1 a2 M hw
abbrev rm_mayBeTyped : Room := { frames := 0, cells := 0, slots := 0, locals := 0 }
set_option maxHeartbeats 4000000 in
set_option maxRecDepth 100000 in
theorem k_mayBeTyped {l : Launch} (post : Int32 → Prop) (a1 : Int32) (hw : q_mayBeTyped post a1) : gMs l yX10_mayBeTyped wsX10_mayBeTyped rm_mayBeTyped [.int a1] post := by
  refine gMs_of (cc := cX10_mayBeTyped) (nL := 1) (ty := .boolean) (own := RX10) (by decide) rfl rfl (Nat.le_of_ble_eq_true rfl) ?_
  intro p e s m args below meth c Q hx hb hml ho hts hret ls hl
  rw [q_mayBeTyped] at hw
  refine lv_iload_n hx hb dX10_mayBeTyped_0 rfl (lv_at hl 0 rfl) ?_
  refine lv_bipush (v := 9) hx hb dX10_mayBeTyped_1 (by decide) ?_
  refine lv_icmp_eq (tgt := 30) hx hb dX10_mayBeTyped_3 (by decide) (fun c1 => ?_) (fun c1 => ?_)
  · have hw := hw.1 c1
    try dsimp only at hw
    refine lv_iconst (v := 1) hx hb dX10_mayBeTyped_30 (by decide) ?_
    refine lv_goto (tgt := 35) hx hb dX10_mayBeTyped_31 (by decide) ?_
    exact hret 1 _ _ hw (by decide) dX10_mayBeTyped_35
  · have hw := hw.2 c1
    try dsimp only at hw
    refine lv_iload_n hx hb dX10_mayBeTyped_6 rfl (lv_at hl 0 rfl) ?_
    refine lv_bipush (v := 10) hx hb dX10_mayBeTyped_7 (by decide) ?_
    refine lv_icmp_eq (tgt := 30) hx hb dX10_mayBeTyped_9 (by decide) (fun c2 => ?_) (fun c2 => ?_)
    · have hw := hw.1 c2
      try dsimp only at hw
      refine lv_iconst (v := 1) hx hb dX10_mayBeTyped_30 (by decide) ?_
      refine lv_goto (tgt := 35) hx hb dX10_mayBeTyped_31 (by decide) ?_
      exact hret 1 _ _ hw (by decide) dX10_mayBeTyped_35
    · have hw := hw.2 c2
      try dsimp only at hw
      refine lv_iload_n hx hb dX10_mayBeTyped_12 rfl (lv_at hl 0 rfl) ?_
      refine lv_bipush (v := 13) hx hb dX10_mayBeTyped_13 (by decide) ?_
      refine lv_icmp_eq (tgt := 30) hx hb dX10_mayBeTyped_15 (by decide) (fun c3 => ?_) (fun c3 => ?_)
      · have hw := hw.1 c3
        try dsimp only at hw
        refine lv_iconst (v := 1) hx hb dX10_mayBeTyped_30 (by decide) ?_
        refine lv_goto (tgt := 35) hx hb dX10_mayBeTyped_31 (by decide) ?_
        exact hret 1 _ _ hw (by decide) dX10_mayBeTyped_35
      · have hw := hw.2 c3
        try dsimp only at hw
        refine lv_iload_n hx hb dX10_mayBeTyped_18 rfl (lv_at hl 0 rfl) ?_
        refine lv_bipush (v := 32) hx hb dX10_mayBeTyped_19 (by decide) ?_
        refine lv_icmp_lt (tgt := 34) hx hb dX10_mayBeTyped_21 (by decide) (fun c4 => ?_) (fun c4 => ?_)
        · have hw := hw.1 c4
          try dsimp only at hw
          refine lv_iconst (v := 0) hx hb dX10_mayBeTyped_34 (by decide) ?_
          exact hret 0 _ _ hw (by decide) dX10_mayBeTyped_35
        · have hw := hw.2 c4
          try dsimp only at hw
          refine lv_iload_n hx hb dX10_mayBeTyped_24 rfl (lv_at hl 0 rfl) ?_
          refine lv_bipush (v := 126) hx hb dX10_mayBeTyped_25 (by decide) ?_
          refine lv_icmp_gt (tgt := 34) hx hb dX10_mayBeTyped_27 (by decide) (fun c5 => ?_) (fun c5 => ?_)
          · have hw := hw.1 c5
            try dsimp only at hw
            refine lv_iconst (v := 0) hx hb dX10_mayBeTyped_34 (by decide) ?_
            exact hret 0 _ _ hw (by decide) dX10_mayBeTyped_35
          · have hw := hw.2 c5
            try dsimp only at hw
            refine lv_iconst (v := 1) hx hb dX10_mayBeTyped_30 (by decide) ?_
            refine lv_goto (tgt := 35) hx hb dX10_mayBeTyped_31 (by decide) ?_
            exact hret 1 _ _ hw (by decide) dX10_mayBeTyped_35
abbrev rm_type : Room := { frames := 1, cells := 0, slots := 0, locals := 20 }
theorem in_type : ∀ w ∈ wsX100, w ∈ wsX10_type := fun w hw => List.mem_cons_of_mem _ (List.mem_append_right _ hw)
set_option maxHeartbeats 4000000 in
set_option maxRecDepth 100000 in
theorem t_type_0 (C0 : rX p s m args c cX10_type 2 RX10 wsX10_type D ((cI, .int) :: (cZ, .boolean) :: ty') A) (post : Int32 → RM → Prop) (hret : ∀ (r : Int32) (M' : RM) (pc : Nat) (lv : List (Nat × Value)) (k n : Nat), k ≤ 0 → n ≤ 0 → post r M' → narrow .int (.int r) = .int r → decode cX10_type pc = .ok (.ireturn, 1) → gG p l e rm_type s m args below meth c Q D A 2 k n (rcells cI cZ ad M' Y) pc lv [.int r])  : ∀  (a1 : Int32) (M : RM), w_type post   a1 M → gG p l e rm_type s m args below meth c Q D A 2 0 0 (rcells cI cZ ad M Y) 0 [(0, .ref (ad 0)), (1, .int a1)] [] := by
  obtain ⟨hx, hb, hml, ho, hts, hK, hA⟩ := id C0
  have hin := in_type
  intro a1 M hw H locs ls hW hl
  rw [w_type] at hw
  refine lv_iload_n hx hb dX10_type_0 rfl (lv_at hl 1 rfl) ?_
  refine g_calls (As := [.int a1]) (rest := []) ⟨hx, hb, hml, ho, hts⟩ hl.1 (k_mayBeTyped (l := l) _ a1 hw) (va_cwS 1 hts gX10_type_X10_mayBeTyped rfl rfl rfl (by decide +kernel) ⟨Nat.le_of_ble_eq_true rfl, Nat.le_of_ble_eq_true rfl⟩) (Nat.le_of_ble_eq_true rfl) dX10_type_1 rfl ⟨Nat.le_of_ble_eq_true rfl, Nat.le_of_ble_eq_true rfl⟩ (fun r1 hw => ?_)
  try dsimp only at hw
  refine lv_if_ne (tgt := 9) hx hb dX10_type_4 (by decide) (fun c2 => ?_) (fun c2 => ?_)
  · have hw := hw.1 c2
    try dsimp only at hw
    refine lv_aload_n hx hb dX10_type_9 rfl (lv_at hl 0 rfl) ?_
    refine r_get C0 hin hW 4 (by decide) (v := .int (M 0 0)) rfl (List.mem_of_getElem? (i := 1) rfl) rfl dX10_type_10 ?_
    refine lv_sipush (v := 300) hx hb dX10_type_13 (by decide) ?_
    refine lv_icmp_ne (tgt := 22) hx hb dX10_type_16 (by decide) (fun c3 => ?_) (fun c3 => ?_)
    · have hw := hw.1 c3
      try dsimp only at hw
      refine lv_aload_n hx hb dX10_type_22 rfl (lv_at hl 0 rfl) ?_
      refine r_get C0 hin hW 3 (by decide) (v := .ref (ad 4)) rfl (List.mem_of_getElem? (i := 2) rfl) rfl dX10_type_23 ?_
      refine lv_aload_n hx hb dX10_type_26 rfl (lv_at hl 0 rfl) ?_
      refine r_get C0 hin hW 4 (by decide) (v := .int (M 0 0)) rfl (List.mem_of_getElem? (i := 1) rfl) rfl dX10_type_27 ?_
      refine lv_iload_n hx hb dX10_type_30 rfl (lv_at hl 1 rfl) ?_
      obtain ⟨h4, hw⟩ := hw
      refine r_iast C0 hW 4 rfl rfl h4 rfl dX10_type_31 (fun M5 H locs eM5 hW => ?_)
      have hw := hw M5 eM5
      refine lv_aload_n hx hb dX10_type_32 rfl (lv_at hl 0 rfl) ?_
      refine lv_dup hx hb dX10_type_33 rfl ?_
      refine r_get C0 hin hW 4 (by decide) (v := .int (M5 0 0)) rfl (List.mem_of_getElem? (i := 1) rfl) rfl dX10_type_34 ?_
      refine lv_iconst (v := 1) hx hb dX10_type_37 (by decide) ?_
      refine lv_iadd hx hb dX10_type_38 ?_
      refine r_put C0 hin hW 4 0 (by decide) (List.mem_of_getElem? (i := 1) rfl) rfl rfl (by decide +kernel) rfl dX10_type_39 (fun M6 H locs eM6 hW => ?_)
      have hw := hw M6 eM6
      refine lv_aload_n hx hb dX10_type_42 rfl (lv_at hl 0 rfl) ?_
      refine r_get C0 hin hW 4 (by decide) (v := .int (M6 0 0)) rfl (List.mem_of_getElem? (i := 1) rfl) rfl dX10_type_43 ?_
      exact hret (M6 0 0) M6 _ _ 0 0 (Nat.le_refl _) (Nat.le_refl _) hw rfl dX10_type_46 _ _ _ hW hl
    · have hw := hw.2 c3
      try dsimp only at hw
      refine lv_bipush (v := (-3)) hx hb dX10_type_19 (by decide) ?_
      exact hret (-3) M _ _ 0 0 (Nat.le_refl _) (Nat.le_refl _) hw rfl dX10_type_21 _ _ _ hW hl
  · have hw := hw.2 c2
    try dsimp only at hw
    refine lv_iconst (v := (-1)) hx hb dX10_type_7 (by decide) ?_
    exact hret (-1) M _ _ 0 0 (Nat.le_refl _) (Nat.le_refl _) hw rfl dX10_type_8 _ _ _ hW hl
set_option maxHeartbeats 4000000 in
set_option maxRecDepth 100000 in
theorem k_type {l : Launch} {D : va_G} {cI cZ : ClassId} {ty' : List (ClassId × FieldType)} {ad : Nat → Nat} {Y : va_W} {sz : Nat} (post : Int32 → RM → Prop) (a1 : Int32) (M : RM) (hw : w_type post a1 M) : gMi l yX10_type wsX10_type rm_type D ((cI, .int) :: (cZ, .boolean) :: ty') sz (fun M => rcells cI cZ ad M Y) M [.ref (ad 0), .int a1] post 0 0 := by
  refine gMi_of (cc := cX10_type) (nL := 2) (ty := .int) (own := RX10) (by decide) rfl rfl (Nat.le_of_ble_eq_true rfl) ?_
  intro p e s m args below meth c A Q C0 hret
  exact t_type_0 C0 post hret a1 M hw
abbrev rm_tapeLength : Room := { frames := 0, cells := 0, slots := 0, locals := 0 }
theorem in_tapeLength : ∀ w ∈ wsX100, w ∈ wsX10_tapeLength := fun w hw => List.mem_cons_of_mem _ (List.mem_append_right _ hw)
set_option maxHeartbeats 4000000 in
set_option maxRecDepth 100000 in
theorem t_tapeLength_0 (C0 : rX p s m args c cX10_tapeLength 1 RX10 wsX10_tapeLength D ((cI, .int) :: (cZ, .boolean) :: ty') A) (post : Int32 → RM → Prop) (hret : ∀ (r : Int32) (M' : RM) (pc : Nat) (lv : List (Nat × Value)) (k n : Nat), k ≤ 0 → n ≤ 0 → post r M' → narrow .int (.int r) = .int r → decode cX10_tapeLength pc = .ok (.ireturn, 1) → gG p l e rm_tapeLength s m args below meth c Q D A 1 k n (rcells cI cZ ad M' Y) pc lv [.int r])  : ∀  (M : RM), w_tapeLength post    M → gG p l e rm_tapeLength s m args below meth c Q D A 1 0 0 (rcells cI cZ ad M Y) 0 [(0, .ref (ad 0))] [] := by
  obtain ⟨hx, hb, hml, ho, hts, hK, hA⟩ := id C0
  have hin := in_tapeLength
  intro  M hw H locs ls hW hl
  rw [w_tapeLength] at hw
  refine lv_aload_n hx hb dX10_tapeLength_0 rfl (lv_at hl 0 rfl) ?_
  refine r_get C0 hin hW 4 (by decide) (v := .int (M 0 0)) rfl (List.mem_of_getElem? (i := 1) rfl) rfl dX10_tapeLength_1 ?_
  exact hret (M 0 0) M _ _ 0 0 (Nat.le_refl _) (Nat.le_refl _) hw rfl dX10_tapeLength_4 _ _ _ hW hl
set_option maxHeartbeats 4000000 in
set_option maxRecDepth 100000 in
theorem k_tapeLength {l : Launch} {D : va_G} {cI cZ : ClassId} {ty' : List (ClassId × FieldType)} {ad : Nat → Nat} {Y : va_W} {sz : Nat} (post : Int32 → RM → Prop) (M : RM) (hw : w_tapeLength post  M) : gMi l yX10_tapeLength wsX10_tapeLength rm_tapeLength D ((cI, .int) :: (cZ, .boolean) :: ty') sz (fun M => rcells cI cZ ad M Y) M [.ref (ad 0)] post 0 0 := by
  refine gMi_of (cc := cX10_tapeLength) (nL := 1) (ty := .int) (own := RX10) (by decide) rfl rfl (Nat.le_of_ble_eq_true rfl) ?_
  intro p e s m args below meth c A Q C0 hret
  exact t_tapeLength_0 C0 post hret  M hw
abbrev rm_tapeAt : Room := { frames := 0, cells := 0, slots := 0, locals := 0 }
theorem in_tapeAt : ∀ w ∈ wsX100, w ∈ wsX10_tapeAt := fun w hw => List.mem_cons_of_mem _ (List.mem_append_right _ hw)
set_option maxHeartbeats 4000000 in
set_option maxRecDepth 100000 in
theorem t_tapeAt_0 (C0 : rX p s m args c cX10_tapeAt 2 RX10 wsX10_tapeAt D ((cI, .int) :: (cZ, .boolean) :: ty') A) (post : Int32 → RM → Prop) (hret : ∀ (r : Int32) (M' : RM) (pc : Nat) (lv : List (Nat × Value)) (k n : Nat), k ≤ 0 → n ≤ 0 → post r M' → narrow .int (.int r) = .int r → decode cX10_tapeAt pc = .ok (.ireturn, 1) → gG p l e rm_tapeAt s m args below meth c Q D A 2 k n (rcells cI cZ ad M' Y) pc lv [.int r])  : ∀  (a1 : Int32) (M : RM), w_tapeAt post   a1 M → gG p l e rm_tapeAt s m args below meth c Q D A 2 0 0 (rcells cI cZ ad M Y) 0 [(0, .ref (ad 0)), (1, .int a1)] [] := by
  obtain ⟨hx, hb, hml, ho, hts, hK, hA⟩ := id C0
  have hin := in_tapeAt
  intro a1 M hw H locs ls hW hl
  rw [w_tapeAt] at hw
  refine lv_iload_n hx hb dX10_tapeAt_0 rfl (lv_at hl 1 rfl) ?_
  refine lv_if_lt (tgt := 12) hx hb dX10_tapeAt_1 (by decide) (fun c1 => ?_) (fun c1 => ?_)
  · have hw := hw.1 c1
    try dsimp only at hw
    refine lv_bipush (v := (-5)) hx hb dX10_tapeAt_12 (by decide) ?_
    refine lv_goto (tgt := 23) hx hb dX10_tapeAt_14 (by decide) ?_
    exact hret (-5) M _ _ 0 0 (Nat.le_refl _) (Nat.le_refl _) hw rfl dX10_tapeAt_23 _ _ _ hW hl
  · have hw := hw.2 c1
    try dsimp only at hw
    refine lv_iload_n hx hb dX10_tapeAt_4 rfl (lv_at hl 1 rfl) ?_
    refine lv_aload_n hx hb dX10_tapeAt_5 rfl (lv_at hl 0 rfl) ?_
    refine r_get C0 hin hW 4 (by decide) (v := .int (M 0 0)) rfl (List.mem_of_getElem? (i := 1) rfl) rfl dX10_tapeAt_6 ?_
    refine lv_icmp_lt (tgt := 17) hx hb dX10_tapeAt_9 (by decide) (fun c2 => ?_) (fun c2 => ?_)
    · have hw := hw.1 c2
      try dsimp only at hw
      refine lv_aload_n hx hb dX10_tapeAt_17 rfl (lv_at hl 0 rfl) ?_
      refine r_get C0 hin hW 3 (by decide) (v := .ref (ad 4)) rfl (List.mem_of_getElem? (i := 2) rfl) rfl dX10_tapeAt_18 ?_
      refine lv_iload_n hx hb dX10_tapeAt_21 rfl (lv_at hl 1 rfl) ?_
      obtain ⟨h3, hw⟩ := hw
      refine r_iald C0 hW 4 rfl rfl h3 dX10_tapeAt_22 ?_
      exact hret (M 4 a1.toNatClampNeg) M _ _ 0 0 (Nat.le_refl _) (Nat.le_refl _) hw rfl dX10_tapeAt_23 _ _ _ hW hl
    · have hw := hw.2 c2
      try dsimp only at hw
      refine lv_bipush (v := (-5)) hx hb dX10_tapeAt_12 (by decide) ?_
      refine lv_goto (tgt := 23) hx hb dX10_tapeAt_14 (by decide) ?_
      exact hret (-5) M _ _ 0 0 (Nat.le_refl _) (Nat.le_refl _) hw rfl dX10_tapeAt_23 _ _ _ hW hl
set_option maxHeartbeats 4000000 in
set_option maxRecDepth 100000 in
theorem k_tapeAt {l : Launch} {D : va_G} {cI cZ : ClassId} {ty' : List (ClassId × FieldType)} {ad : Nat → Nat} {Y : va_W} {sz : Nat} (post : Int32 → RM → Prop) (a1 : Int32) (M : RM) (hw : w_tapeAt post a1 M) : gMi l yX10_tapeAt wsX10_tapeAt rm_tapeAt D ((cI, .int) :: (cZ, .boolean) :: ty') sz (fun M => rcells cI cZ ad M Y) M [.ref (ad 0), .int a1] post 0 0 := by
  refine gMi_of (cc := cX10_tapeAt) (nL := 2) (ty := .int) (own := RX10) (by decide) rfl rfl (Nat.le_of_ble_eq_true rfl) ?_
  intro p e s m args below meth c A Q C0 hret
  exact t_tapeAt_0 C0 post hret a1 M hw
abbrev rm_wipe : Room := { frames := 0, cells := 0, slots := 0, locals := 0 }
theorem in_wipe : ∀ w ∈ wsX100, w ∈ wsX10_wipe := fun w hw => List.mem_cons_of_mem _ (List.mem_append_right _ hw)
set_option maxHeartbeats 4000000 in
set_option maxRecDepth 100000 in
theorem t_wipe_0 (C0 : rX p s m args c cX10_wipe 2 RX10 wsX10_wipe D ((cI, .int) :: (cZ, .boolean) :: ty') A) (post : Int32 → RM → Prop) (hret : ∀ (r : Int32) (M' : RM) (pc : Nat) (lv : List (Nat × Value)) (k n : Nat), k ≤ 0 → n ≤ 0 → post r M' → narrow .int (.int r) = .int r → decode cX10_wipe pc = .ok (.ireturn, 1) → gG p l e rm_wipe s m args below meth c Q D A 2 k n (rcells cI cZ ad M' Y) pc lv [.int r])  : ∀  (M : RM), w_wipe post    M → gG p l e rm_wipe s m args below meth c Q D A 2 0 0 (rcells cI cZ ad M Y) 0 [(0, .ref (ad 0))] [] := by
  obtain ⟨hx, hb, hml, ho, hts, hK, hA⟩ := id C0
  have hin := in_wipe
  intro  M hw H locs ls hW hl
  rw [w_wipe] at hw
  refine lv_aload_n hx hb dX10_wipe_0 rfl (lv_at hl 0 rfl) ?_
  refine r_get C0 hin hW 4 (by decide) (v := .int (M 0 0)) rfl (List.mem_of_getElem? (i := 1) rfl) rfl dX10_wipe_1 ?_
  refine lv_topi (fun v1 ev1 => ?_)
  have hw := hw v1 ev1
  refine lv_istore_n (lv' := [(1, .int v1), (0, .ref (ad 0))]) hx hb dX10_wipe_4 rfl hl (by decide) rfl (fun ls hl => ?_)
  refine lv_aload_n hx hb dX10_wipe_5 rfl (lv_at hl 1 rfl) ?_
  refine lv_iconst (v := 0) hx hb dX10_wipe_6 (by decide) ?_
  refine r_put C0 hin hW 4 0 (by decide) (List.mem_of_getElem? (i := 1) rfl) rfl rfl (by decide +kernel) rfl dX10_wipe_7 (fun M2 H locs eM2 hW => ?_)
  have hw := hw M2 eM2
  refine lv_iload_n hx hb dX10_wipe_10 rfl (lv_at hl 0 rfl) ?_
  exact hret v1 M2 _ _ 0 0 (Nat.le_refl _) (Nat.le_refl _) hw rfl dX10_wipe_11 _ _ _ hW hl
set_option maxHeartbeats 4000000 in
set_option maxRecDepth 100000 in
theorem k_wipe {l : Launch} {D : va_G} {cI cZ : ClassId} {ty' : List (ClassId × FieldType)} {ad : Nat → Nat} {Y : va_W} {sz : Nat} (post : Int32 → RM → Prop) (M : RM) (hw : w_wipe post  M) : gMi l yX10_wipe wsX10_wipe rm_wipe D ((cI, .int) :: (cZ, .boolean) :: ty') sz (fun M => rcells cI cZ ad M Y) M [.ref (ad 0)] post 0 0 := by
  refine gMi_of (cc := cX10_wipe) (nL := 2) (ty := .int) (own := RX10) (by decide) rfl rfl (Nat.le_of_ble_eq_true rfl) ?_
  intro p e s m args below meth c A Q C0 hret
  exact t_wipe_0 C0 post hret  M hw
abbrev rm_isBlank : Room := { frames := 0, cells := 0, slots := 0, locals := 0 }
set_option maxHeartbeats 4000000 in
set_option maxRecDepth 100000 in
theorem k_isBlank {l : Launch} (post : Int32 → Prop) (a1 : Int32) (hw : q_isBlank post a1) : gMs l yX10_isBlank wsX10_isBlank rm_isBlank [.int a1] post := by
  refine gMs_of (cc := cX10_isBlank) (nL := 1) (ty := .boolean) (own := RX10) (by decide) rfl rfl (Nat.le_of_ble_eq_true rfl) ?_
  intro p e s m args below meth c Q hx hb hml ho hts hret ls hl
  rw [q_isBlank] at hw
  refine lv_iload_n hx hb dX10_isBlank_0 rfl (lv_at hl 0 rfl) ?_
  refine lv_bipush (v := 32) hx hb dX10_isBlank_1 (by decide) ?_
  refine lv_icmp_eq (tgt := 12) hx hb dX10_isBlank_3 (by decide) (fun c1 => ?_) (fun c1 => ?_)
  · have hw := hw.1 c1
    try dsimp only at hw
    refine lv_iconst (v := 1) hx hb dX10_isBlank_12 (by decide) ?_
    refine lv_goto (tgt := 17) hx hb dX10_isBlank_13 (by decide) ?_
    exact hret 1 _ _ hw (by decide) dX10_isBlank_17
  · have hw := hw.2 c1
    try dsimp only at hw
    refine lv_iload_n hx hb dX10_isBlank_6 rfl (lv_at hl 0 rfl) ?_
    refine lv_bipush (v := 9) hx hb dX10_isBlank_7 (by decide) ?_
    refine lv_icmp_ne (tgt := 16) hx hb dX10_isBlank_9 (by decide) (fun c2 => ?_) (fun c2 => ?_)
    · have hw := hw.1 c2
      try dsimp only at hw
      refine lv_iconst (v := 0) hx hb dX10_isBlank_16 (by decide) ?_
      exact hret 0 _ _ hw (by decide) dX10_isBlank_17
    · have hw := hw.2 c2
      try dsimp only at hw
      refine lv_iconst (v := 1) hx hb dX10_isBlank_12 (by decide) ?_
      refine lv_goto (tgt := 17) hx hb dX10_isBlank_13 (by decide) ?_
      exact hret 1 _ _ hw (by decide) dX10_isBlank_17
abbrev rm_layLine : Room := { frames := 1, cells := 0, slots := 0, locals := 20 }
theorem in_layLine : ∀ w ∈ wsX100, w ∈ wsX10_layLine := fun w hw => List.mem_cons_of_mem _ (List.mem_append_right _ hw)
set_option maxHeartbeats 4000000 in
set_option maxRecDepth 100000 in
theorem t_layLine_145 (C0 : rX p s m args c cX10_layLine 3 RX10 wsX10_layLine D ((cI, .int) :: (cZ, .boolean) :: ty') A) (post : RM → Prop) (hret : ∀ (M' : RM) (pc : Nat) (lv : List (Nat × Value)) (k n : Nat), k ≤ 0 → n ≤ 0 → post M' → decode cX10_layLine pc = .ok (.return_, 1) → gG p l e rm_layLine s m args below meth c Q D A 3 k n (rcells cI cZ ad M' Y) pc lv [])  : ∀ (nf : Nat) (M : RM), w_layLine_145 post  nf  M → gG p l e rm_layLine s m args below meth c Q D A 3 0 0 (rcells cI cZ ad M Y) 145 [(0, .ref (ad 0))] [] := by
  obtain ⟨hx, hb, hml, ho, hts, hK, hA⟩ := id C0
  have hin := in_layLine
  intro nf
  induction nf with
  | zero => intro  M hw; exact hw.elim
  | succ nf ih =>
    intro  M hw H locs ls hW hl
    rw [w_layLine_145] at hw
    refine lv_aload_n hx hb dX10_layLine_145 rfl (lv_at hl 0 rfl) ?_
    refine r_get C0 hin hW 14 (by decide) (v := .int (M 0 4)) rfl (List.mem_of_getElem? (i := 5) rfl) rfl dX10_layLine_146 ?_
    refine lv_aload_n hx hb dX10_layLine_149 rfl (lv_at hl 0 rfl) ?_
    refine r_get C0 hin hW 15 (by decide) (v := .int (M 0 5)) rfl (List.mem_of_getElem? (i := 1) rfl) rfl dX10_layLine_150 ?_
    refine lv_icmp_ge (tgt := 184) hx hb dX10_layLine_153 (by decide) (fun c25 => ?_) (fun c25 => ?_)
    · have hw := hw.1 c25
      try dsimp only at hw
      exact hret M _ _ 0 0 (Nat.le_refl _) (Nat.le_refl _) hw dX10_layLine_184 _ _ _ hW hl
    · have hw := hw.2 c25
      try dsimp only at hw
      refine lv_aload_n hx hb dX10_layLine_156 rfl (lv_at hl 0 rfl) ?_
      refine r_get C0 hin hW 3 (by decide) (v := .ref (ad 4)) rfl (List.mem_of_getElem? (i := 3) rfl) rfl dX10_layLine_157 ?_
      refine lv_aload_n hx hb dX10_layLine_160 rfl (lv_at hl 0 rfl) ?_
      refine r_get C0 hin hW 14 (by decide) (v := .int (M 0 4)) rfl (List.mem_of_getElem? (i := 5) rfl) rfl dX10_layLine_161 ?_
      obtain ⟨h26, hw⟩ := hw
      refine r_iald C0 hW 4 rfl rfl h26 dX10_layLine_164 ?_
      refine g_calls (As := [.int (M 4 ((M 0 4) : Int32).toNatClampNeg)]) (rest := []) ⟨hx, hb, hml, ho, hts⟩ hl.1 (k_isBlank (l := l) _ (M 4 ((M 0 4) : Int32).toNatClampNeg) hw) (va_cwS 1 hts gX10_layLine_X10_isBlank rfl rfl rfl (by decide +kernel) ⟨Nat.le_of_ble_eq_true rfl, Nat.le_of_ble_eq_true rfl⟩) (Nat.le_of_ble_eq_true rfl) dX10_layLine_165 rfl ⟨Nat.le_of_ble_eq_true rfl, Nat.le_of_ble_eq_true rfl⟩ (fun r27 hw => ?_)
      try dsimp only at hw
      refine lv_if_eq (tgt := 184) hx hb dX10_layLine_168 (by decide) (fun c28 => ?_) (fun c28 => ?_)
      · have hw := hw.1 c28
        try dsimp only at hw
        exact hret M _ _ 0 0 (Nat.le_refl _) (Nat.le_refl _) hw dX10_layLine_184 _ _ _ hW hl
      · have hw := hw.2 c28
        try dsimp only at hw
        refine lv_aload_n hx hb dX10_layLine_171 rfl (lv_at hl 0 rfl) ?_
        refine lv_dup hx hb dX10_layLine_172 rfl ?_
        refine r_get C0 hin hW 14 (by decide) (v := .int (M 0 4)) rfl (List.mem_of_getElem? (i := 5) rfl) rfl dX10_layLine_173 ?_
        refine lv_iconst (v := 1) hx hb dX10_layLine_176 (by decide) ?_
        refine lv_iadd hx hb dX10_layLine_177 ?_
        refine r_put C0 hin hW 14 4 (by decide) (List.mem_of_getElem? (i := 5) rfl) rfl rfl (by decide +kernel) rfl dX10_layLine_178 (fun M29 H locs eM29 hW => ?_)
        have hw := hw M29 eM29
        refine lv_goto (tgt := 145) hx hb dX10_layLine_181 (by decide) ?_
        exact ih  M29 hw _ _ _ hW (lv_sub hl [0] rfl)
set_option maxHeartbeats 4000000 in
set_option maxRecDepth 100000 in
theorem t_layLine_105 (C0 : rX p s m args c cX10_layLine 3 RX10 wsX10_layLine D ((cI, .int) :: (cZ, .boolean) :: ty') A) (post : RM → Prop) (hret : ∀ (M' : RM) (pc : Nat) (lv : List (Nat × Value)) (k n : Nat), k ≤ 0 → n ≤ 0 → post M' → decode cX10_layLine pc = .ok (.return_, 1) → gG p l e rm_layLine s m args below meth c Q D A 3 k n (rcells cI cZ ad M' Y) pc lv [])  : ∀  (x1 s0 : Int32) (M : RM), w_layLine_105 post   x1 s0 M → gG p l e rm_layLine s m args below meth c Q D A 3 0 0 (rcells cI cZ ad M Y) 105 [(0, .ref (ad 0)), (1, .int x1)] [.int s0] := by
  obtain ⟨hx, hb, hml, ho, hts, hK, hA⟩ := id C0
  have hin := in_layLine
  intro x1 s0 M hw H locs ls hW hl
  rw [w_layLine_105] at hw
  refine lv_istore_n (lv' := [(2, .int s0), (0, .ref (ad 0)), (1, .int x1)]) hx hb dX10_layLine_105 rfl hl (by decide) rfl (fun ls hl => ?_)
  refine lv_aload_n hx hb dX10_layLine_106 rfl (lv_at hl 1 rfl) ?_
  refine lv_aload_n hx hb dX10_layLine_107 rfl (lv_at hl 1 rfl) ?_
  refine r_get C0 hin hW 15 (by decide) (v := .int (M 0 5)) rfl (List.mem_of_getElem? (i := 1) rfl) rfl dX10_layLine_108 ?_
  refine lv_aload_n hx hb dX10_layLine_111 rfl (lv_at hl 1 rfl) ?_
  refine r_get C0 hin hW 4 (by decide) (v := .int (M 0 0)) rfl (List.mem_of_getElem? (i := 2) rfl) rfl dX10_layLine_112 ?_
  refine lv_icmp_ne (tgt := 123) hx hb dX10_layLine_115 (by decide) (fun c14 => ?_) (fun c14 => ?_)
  · have hw := hw.1 c14
    try dsimp only at hw
    refine lv_aload_n hx hb dX10_layLine_123 rfl (lv_at hl 1 rfl) ?_
    refine r_get C0 hin hW 15 (by decide) (v := .int (M 0 5)) rfl (List.mem_of_getElem? (i := 1) rfl) rfl dX10_layLine_124 ?_
    refine lv_iload_n hx hb dX10_layLine_127 rfl (lv_at hl 0 rfl) ?_
    refine lv_if_eq (tgt := 135) hx hb dX10_layLine_128 (by decide) (fun c15 => ?_) (fun c15 => ?_)
    · have hw := hw.1 c15
      try dsimp only at hw
      refine lv_iconst (v := 1) hx hb dX10_layLine_135 (by decide) ?_
      refine lv_iadd hx hb dX10_layLine_136 ?_
      refine r_put C0 hin hW 16 6 (by decide) (List.mem_of_getElem? (i := 4) rfl) rfl rfl (by decide +kernel) rfl dX10_layLine_137 (fun M16 H locs eM16 hW => ?_)
      have hw := hw M16 eM16
      refine lv_aload_n hx hb dX10_layLine_140 rfl (lv_at hl 1 rfl) ?_
      refine lv_iload_n hx hb dX10_layLine_141 rfl (lv_at hl 2 rfl) ?_
      refine r_put C0 hin hW 14 4 (by decide) (List.mem_of_getElem? (i := 5) rfl) rfl rfl (by decide +kernel) rfl dX10_layLine_142 (fun M17 H locs eM17 hW => ?_)
      have hw := hw M17 eM17
      obtain ⟨n18, hw⟩ := hw
      exact t_layLine_145 C0 post hret  n18  M17 hw _ _ _ hW (lv_sub hl [1] rfl)
    · have hw := hw.2 c15
      try dsimp only at hw
      refine lv_iconst (v := 2) hx hb dX10_layLine_131 (by decide) ?_
      refine lv_goto (tgt := 136) hx hb dX10_layLine_132 (by decide) ?_
      refine lv_iadd hx hb dX10_layLine_136 ?_
      refine r_put C0 hin hW 16 6 (by decide) (List.mem_of_getElem? (i := 4) rfl) rfl rfl (by decide +kernel) rfl dX10_layLine_137 (fun M19 H locs eM19 hW => ?_)
      have hw := hw M19 eM19
      refine lv_aload_n hx hb dX10_layLine_140 rfl (lv_at hl 1 rfl) ?_
      refine lv_iload_n hx hb dX10_layLine_141 rfl (lv_at hl 2 rfl) ?_
      refine r_put C0 hin hW 14 4 (by decide) (List.mem_of_getElem? (i := 5) rfl) rfl rfl (by decide +kernel) rfl dX10_layLine_142 (fun M20 H locs eM20 hW => ?_)
      have hw := hw M20 eM20
      obtain ⟨n21, hw⟩ := hw
      exact t_layLine_145 C0 post hret  n21  M20 hw _ _ _ hW (lv_sub hl [1] rfl)
  · have hw := hw.2 c14
    try dsimp only at hw
    refine lv_bipush (v := (-5)) hx hb dX10_layLine_118 (by decide) ?_
    refine lv_goto (tgt := 137) hx hb dX10_layLine_120 (by decide) ?_
    refine r_put C0 hin hW 16 6 (by decide) (List.mem_of_getElem? (i := 4) rfl) rfl rfl (by decide +kernel) rfl dX10_layLine_137 (fun M22 H locs eM22 hW => ?_)
    have hw := hw M22 eM22
    refine lv_aload_n hx hb dX10_layLine_140 rfl (lv_at hl 1 rfl) ?_
    refine lv_iload_n hx hb dX10_layLine_141 rfl (lv_at hl 2 rfl) ?_
    refine r_put C0 hin hW 14 4 (by decide) (List.mem_of_getElem? (i := 5) rfl) rfl rfl (by decide +kernel) rfl dX10_layLine_142 (fun M23 H locs eM23 hW => ?_)
    have hw := hw M23 eM23
    obtain ⟨n24, hw⟩ := hw
    exact t_layLine_145 C0 post hret  n24  M23 hw _ _ _ hW (lv_sub hl [1] rfl)
set_option maxHeartbeats 4000000 in
set_option maxRecDepth 100000 in
theorem t_layLine_104 (C0 : rX p s m args c cX10_layLine 3 RX10 wsX10_layLine D ((cI, .int) :: (cZ, .boolean) :: ty') A) (post : RM → Prop) (hret : ∀ (M' : RM) (pc : Nat) (lv : List (Nat × Value)) (k n : Nat), k ≤ 0 → n ≤ 0 → post M' → decode cX10_layLine pc = .ok (.return_, 1) → gG p l e rm_layLine s m args below meth c Q D A 3 k n (rcells cI cZ ad M' Y) pc lv [])  : ∀  (x1 : Int32) (M : RM), w_layLine_104 post   x1 M → gG p l e rm_layLine s m args below meth c Q D A 3 0 0 (rcells cI cZ ad M Y) 104 [(0, .ref (ad 0)), (1, .int x1)] [] := by
  obtain ⟨hx, hb, hml, ho, hts, hK, hA⟩ := id C0
  have hin := in_layLine
  intro x1 M hw H locs ls hW hl
  rw [w_layLine_104] at hw
  refine lv_iconst (v := 0) hx hb dX10_layLine_104 (by decide) ?_
  exact t_layLine_105 C0 post hret  x1 0 M hw _ _ _ hW (lv_sub hl [0, 1] rfl)
set_option maxHeartbeats 4000000 in
set_option maxRecDepth 100000 in
theorem t_layLine_57 (C0 : rX p s m args c cX10_layLine 3 RX10 wsX10_layLine D ((cI, .int) :: (cZ, .boolean) :: ty') A) (post : RM → Prop) (hret : ∀ (M' : RM) (pc : Nat) (lv : List (Nat × Value)) (k n : Nat), k ≤ 0 → n ≤ 0 → post M' → decode cX10_layLine pc = .ok (.return_, 1) → gG p l e rm_layLine s m args below meth c Q D A 3 k n (rcells cI cZ ad M' Y) pc lv [])  : ∀  (x1 : Int32) (M : RM), w_layLine_57 post   x1 M → gG p l e rm_layLine s m args below meth c Q D A 3 0 0 (rcells cI cZ ad M Y) 57 [(0, .ref (ad 0)), (1, .int x1)] [] := by
  obtain ⟨hx, hb, hml, ho, hts, hK, hA⟩ := id C0
  have hin := in_layLine
  intro x1 M hw H locs ls hW hl
  rw [w_layLine_57] at hw
  refine lv_aload_n hx hb dX10_layLine_57 rfl (lv_at hl 0 rfl) ?_
  refine r_get C0 hin hW 15 (by decide) (v := .int (M 0 5)) rfl (List.mem_of_getElem? (i := 1) rfl) rfl dX10_layLine_58 ?_
  refine lv_iconst (v := 1) hx hb dX10_layLine_61 (by decide) ?_
  refine lv_iadd hx hb dX10_layLine_62 ?_
  refine lv_aload_n hx hb dX10_layLine_63 rfl (lv_at hl 0 rfl) ?_
  refine r_get C0 hin hW 4 (by decide) (v := .int (M 0 0)) rfl (List.mem_of_getElem? (i := 2) rfl) rfl dX10_layLine_64 ?_
  refine lv_icmp_ge (tgt := 104) hx hb dX10_layLine_67 (by decide) (fun c9 => ?_) (fun c9 => ?_)
  · have hw := hw.1 c9
    try dsimp only at hw
    exact t_layLine_104 C0 post hret  x1 M hw _ _ _ hW (lv_sub hl [0, 1] rfl)
  · have hw := hw.2 c9
    try dsimp only at hw
    refine lv_aload_n hx hb dX10_layLine_70 rfl (lv_at hl 0 rfl) ?_
    refine r_get C0 hin hW 3 (by decide) (v := .ref (ad 4)) rfl (List.mem_of_getElem? (i := 3) rfl) rfl dX10_layLine_71 ?_
    refine lv_aload_n hx hb dX10_layLine_74 rfl (lv_at hl 0 rfl) ?_
    refine r_get C0 hin hW 15 (by decide) (v := .int (M 0 5)) rfl (List.mem_of_getElem? (i := 1) rfl) rfl dX10_layLine_75 ?_
    obtain ⟨h10, hw⟩ := hw
    refine r_iald C0 hW 4 rfl rfl h10 dX10_layLine_78 ?_
    refine lv_bipush (v := 13) hx hb dX10_layLine_79 (by decide) ?_
    refine lv_icmp_ne (tgt := 104) hx hb dX10_layLine_81 (by decide) (fun c11 => ?_) (fun c11 => ?_)
    · have hw := hw.1 c11
      try dsimp only at hw
      exact t_layLine_104 C0 post hret  x1 M hw _ _ _ hW (lv_sub hl [0, 1] rfl)
    · have hw := hw.2 c11
      try dsimp only at hw
      refine lv_aload_n hx hb dX10_layLine_84 rfl (lv_at hl 0 rfl) ?_
      refine r_get C0 hin hW 3 (by decide) (v := .ref (ad 4)) rfl (List.mem_of_getElem? (i := 3) rfl) rfl dX10_layLine_85 ?_
      refine lv_aload_n hx hb dX10_layLine_88 rfl (lv_at hl 0 rfl) ?_
      refine r_get C0 hin hW 15 (by decide) (v := .int (M 0 5)) rfl (List.mem_of_getElem? (i := 1) rfl) rfl dX10_layLine_89 ?_
      refine lv_iconst (v := 1) hx hb dX10_layLine_92 (by decide) ?_
      refine lv_iadd hx hb dX10_layLine_93 ?_
      obtain ⟨h12, hw⟩ := hw
      refine r_iald C0 hW 4 rfl rfl h12 dX10_layLine_94 ?_
      refine lv_bipush (v := 10) hx hb dX10_layLine_95 (by decide) ?_
      refine lv_icmp_ne (tgt := 104) hx hb dX10_layLine_97 (by decide) (fun c13 => ?_) (fun c13 => ?_)
      · have hw := hw.1 c13
        try dsimp only at hw
        exact t_layLine_104 C0 post hret  x1 M hw _ _ _ hW (lv_sub hl [0, 1] rfl)
      · have hw := hw.2 c13
        try dsimp only at hw
        refine lv_iconst (v := 1) hx hb dX10_layLine_100 (by decide) ?_
        refine lv_goto (tgt := 105) hx hb dX10_layLine_101 (by decide) ?_
        exact t_layLine_105 C0 post hret  x1 1 M hw _ _ _ hW (lv_sub hl [0, 1] rfl)
set_option maxHeartbeats 4000000 in
set_option maxRecDepth 100000 in
theorem t_layLine_5 (C0 : rX p s m args c cX10_layLine 3 RX10 wsX10_layLine D ((cI, .int) :: (cZ, .boolean) :: ty') A) (post : RM → Prop) (hret : ∀ (M' : RM) (pc : Nat) (lv : List (Nat × Value)) (k n : Nat), k ≤ 0 → n ≤ 0 → post M' → decode cX10_layLine pc = .ok (.return_, 1) → gG p l e rm_layLine s m args below meth c Q D A 3 k n (rcells cI cZ ad M' Y) pc lv [])  : ∀ (nf : Nat) (x1 : Int32) (M : RM), w_layLine_5 post  nf x1 M → gG p l e rm_layLine s m args below meth c Q D A 3 0 0 (rcells cI cZ ad M Y) 5 [(0, .ref (ad 0)), (1, .int x1)] [] := by
  obtain ⟨hx, hb, hml, ho, hts, hK, hA⟩ := id C0
  have hin := in_layLine
  intro nf
  induction nf with
  | zero => intro x1 M hw; exact hw.elim
  | succ nf ih =>
    intro x1 M hw H locs ls hW hl
    rw [w_layLine_5] at hw
    refine lv_aload_n hx hb dX10_layLine_5 rfl (lv_at hl 0 rfl) ?_
    refine r_get C0 hin hW 15 (by decide) (v := .int (M 0 5)) rfl (List.mem_of_getElem? (i := 1) rfl) rfl dX10_layLine_6 ?_
    refine lv_aload_n hx hb dX10_layLine_9 rfl (lv_at hl 0 rfl) ?_
    refine r_get C0 hin hW 4 (by decide) (v := .int (M 0 0)) rfl (List.mem_of_getElem? (i := 2) rfl) rfl dX10_layLine_10 ?_
    refine lv_icmp_ge (tgt := 57) hx hb dX10_layLine_13 (by decide) (fun c3 => ?_) (fun c3 => ?_)
    · have hw := hw.1 c3
      try dsimp only at hw
      exact t_layLine_57 C0 post hret  x1 M hw _ _ _ hW (lv_sub hl [0, 1] rfl)
    · have hw := hw.2 c3
      try dsimp only at hw
      refine lv_aload_n hx hb dX10_layLine_16 rfl (lv_at hl 0 rfl) ?_
      refine r_get C0 hin hW 3 (by decide) (v := .ref (ad 4)) rfl (List.mem_of_getElem? (i := 3) rfl) rfl dX10_layLine_17 ?_
      refine lv_aload_n hx hb dX10_layLine_20 rfl (lv_at hl 0 rfl) ?_
      refine r_get C0 hin hW 15 (by decide) (v := .int (M 0 5)) rfl (List.mem_of_getElem? (i := 1) rfl) rfl dX10_layLine_21 ?_
      obtain ⟨h4, hw⟩ := hw
      refine r_iald C0 hW 4 rfl rfl h4 dX10_layLine_24 ?_
      refine lv_bipush (v := 10) hx hb dX10_layLine_25 (by decide) ?_
      refine lv_icmp_eq (tgt := 57) hx hb dX10_layLine_27 (by decide) (fun c5 => ?_) (fun c5 => ?_)
      · have hw := hw.1 c5
        try dsimp only at hw
        exact t_layLine_57 C0 post hret  x1 M hw _ _ _ hW (lv_sub hl [0, 1] rfl)
      · have hw := hw.2 c5
        try dsimp only at hw
        refine lv_aload_n hx hb dX10_layLine_30 rfl (lv_at hl 0 rfl) ?_
        refine r_get C0 hin hW 3 (by decide) (v := .ref (ad 4)) rfl (List.mem_of_getElem? (i := 3) rfl) rfl dX10_layLine_31 ?_
        refine lv_aload_n hx hb dX10_layLine_34 rfl (lv_at hl 0 rfl) ?_
        refine r_get C0 hin hW 15 (by decide) (v := .int (M 0 5)) rfl (List.mem_of_getElem? (i := 1) rfl) rfl dX10_layLine_35 ?_
        obtain ⟨h6, hw⟩ := hw
        refine r_iald C0 hW 4 rfl rfl h6 dX10_layLine_38 ?_
        refine lv_bipush (v := 13) hx hb dX10_layLine_39 (by decide) ?_
        refine lv_icmp_eq (tgt := 57) hx hb dX10_layLine_41 (by decide) (fun c7 => ?_) (fun c7 => ?_)
        · have hw := hw.1 c7
          try dsimp only at hw
          exact t_layLine_57 C0 post hret  x1 M hw _ _ _ hW (lv_sub hl [0, 1] rfl)
        · have hw := hw.2 c7
          try dsimp only at hw
          refine lv_aload_n hx hb dX10_layLine_44 rfl (lv_at hl 0 rfl) ?_
          refine lv_dup hx hb dX10_layLine_45 rfl ?_
          refine r_get C0 hin hW 15 (by decide) (v := .int (M 0 5)) rfl (List.mem_of_getElem? (i := 1) rfl) rfl dX10_layLine_46 ?_
          refine lv_iconst (v := 1) hx hb dX10_layLine_49 (by decide) ?_
          refine lv_iadd hx hb dX10_layLine_50 ?_
          refine r_put C0 hin hW 15 5 (by decide) (List.mem_of_getElem? (i := 1) rfl) rfl rfl (by decide +kernel) rfl dX10_layLine_51 (fun M8 H locs eM8 hW => ?_)
          have hw := hw M8 eM8
          refine lv_goto (tgt := 5) hx hb dX10_layLine_54 (by decide) ?_
          exact ih x1 M8 hw _ _ _ hW (lv_sub hl [0, 1] rfl)
set_option maxHeartbeats 4000000 in
set_option maxRecDepth 100000 in
theorem t_layLine_0 (C0 : rX p s m args c cX10_layLine 3 RX10 wsX10_layLine D ((cI, .int) :: (cZ, .boolean) :: ty') A) (post : RM → Prop) (hret : ∀ (M' : RM) (pc : Nat) (lv : List (Nat × Value)) (k n : Nat), k ≤ 0 → n ≤ 0 → post M' → decode cX10_layLine pc = .ok (.return_, 1) → gG p l e rm_layLine s m args below meth c Q D A 3 k n (rcells cI cZ ad M' Y) pc lv [])  : ∀  (a1 : Int32) (M : RM), w_layLine post   a1 M → gG p l e rm_layLine s m args below meth c Q D A 3 0 0 (rcells cI cZ ad M Y) 0 [(0, .ref (ad 0)), (1, .int a1)] [] := by
  obtain ⟨hx, hb, hml, ho, hts, hK, hA⟩ := id C0
  have hin := in_layLine
  intro a1 M hw H locs ls hW hl
  rw [w_layLine] at hw
  refine lv_aload_n hx hb dX10_layLine_0 rfl (lv_at hl 0 rfl) ?_
  refine lv_iload_n hx hb dX10_layLine_1 rfl (lv_at hl 1 rfl) ?_
  refine r_put C0 hin hW 15 5 (by decide) (List.mem_of_getElem? (i := 1) rfl) rfl rfl (by decide +kernel) rfl dX10_layLine_2 (fun M1 H locs eM1 hW => ?_)
  have hw := hw M1 eM1
  obtain ⟨n2, hw⟩ := hw
  exact t_layLine_5 C0 post hret  n2 a1 M1 hw _ _ _ hW (lv_sub hl [0, 1] rfl)
set_option maxHeartbeats 4000000 in
set_option maxRecDepth 100000 in
theorem k_layLine {l : Launch} {D : va_G} {cI cZ : ClassId} {ty' : List (ClassId × FieldType)} {ad : Nat → Nat} {Y : va_W} {sz : Nat} (post : RM → Prop) (a1 : Int32) (M : RM) (hw : w_layLine post a1 M) : gMv l yX10_layLine wsX10_layLine rm_layLine D ((cI, .int) :: (cZ, .boolean) :: ty') sz (fun M => rcells cI cZ ad M Y) M [.ref (ad 0), .int a1] post 0 0 := by
  refine gMv_of (cc := cX10_layLine) (nL := 3) (own := RX10) (by decide) rfl rfl (Nat.le_of_ble_eq_true rfl) ?_
  intro p e s m args below meth c A Q C0 hret
  exact t_layLine_0 C0 post hret a1 M hw
abbrev rm_addLine : Room := { frames := 0, cells := 0, slots := 0, locals := 0 }
theorem in_addLine : ∀ w ∈ wsX100, w ∈ wsX10_addLine := fun w hw => List.mem_cons_of_mem _ (List.mem_append_right _ hw)
set_option maxHeartbeats 4000000 in
set_option maxRecDepth 100000 in
theorem t_addLine_75 (C0 : rX p s m args c cX10_addLine 4 RX10 wsX10_addLine D ((cI, .int) :: (cZ, .boolean) :: ty') A) (post : Int32 → RM → Prop) (hret : ∀ (r : Int32) (M' : RM) (pc : Nat) (lv : List (Nat × Value)) (k n : Nat), k ≤ 0 → n ≤ 0 → post r M' → narrow .boolean (.int r) = .int r → decode cX10_addLine pc = .ok (.ireturn, 1) → gG p l e rm_addLine s m args below meth c Q D A 4 k n (rcells cI cZ ad M' Y) pc lv [.int r]) (K57 : Int32 → Int32 → RM → Prop) (hK57 : ∀ (x2 x3 : Int32) (M : RM), K57 x2 x3 M → gG p l e rm_addLine s m args below meth c Q D A 4 0 0 (rcells cI cZ ad M Y) 57 [(0, .ref (ad 0)), (2, .int x2), (3, .int x3)] []) : ∀  (x2 x3 s0 s1 : Int32) (M : RM), w_addLine_75 post K57  x2 x3 s0 s1 M → gG p l e rm_addLine s m args below meth c Q D A 4 0 0 (rcells cI cZ ad M Y) 75 [(0, .ref (ad 0)), (2, .int x2), (3, .int x3)] [.int s0, .int s1] := by
  obtain ⟨hx, hb, hml, ho, hts, hK, hA⟩ := id C0
  have hin := in_addLine
  intro x2 x3 s0 s1 M hw H locs ls hW hl
  rw [w_addLine_75] at hw
  refine lv_icmp_ge (tgt := 119) hx hb dX10_addLine_75 (by decide) (fun c12 => ?_) (fun c12 => ?_)
  · have hw := hw.1 c12
    try dsimp only at hw
    refine lv_iload_n hx hb dX10_addLine_119 rfl (lv_at hl 1 rfl) ?_
    exact hret x2 M _ _ 0 0 (Nat.le_refl _) (Nat.le_refl _) hw.2 hw.1 dX10_addLine_120 _ _ _ hW hl
  · have hw := hw.2 c12
    try dsimp only at hw
    refine lv_aload_n hx hb dX10_addLine_78 rfl (lv_at hl 0 rfl) ?_
    refine r_get C0 hin hW 17 (by decide) (v := .ref (ad 11)) rfl (List.mem_of_getElem? (i := 4) rfl) rfl dX10_addLine_79 ?_
    refine lv_aload_n hx hb dX10_addLine_82 rfl (lv_at hl 0 rfl) ?_
    refine r_get C0 hin hW 19 (by decide) (v := .int (M 0 7)) rfl (List.mem_of_getElem? (i := 5) rfl) rfl dX10_addLine_83 ?_
    refine lv_aload_n hx hb dX10_addLine_86 rfl (lv_at hl 0 rfl) ?_
    refine r_get C0 hin hW 3 (by decide) (v := .ref (ad 4)) rfl (List.mem_of_getElem? (i := 3) rfl) rfl dX10_addLine_87 ?_
    refine lv_iload_n hx hb dX10_addLine_90 rfl (lv_at hl 2 rfl) ?_
    obtain ⟨h13, hw⟩ := hw
    refine r_iald C0 hW 4 rfl rfl h13 dX10_addLine_91 ?_
    obtain ⟨h14, hw⟩ := hw
    refine r_iast C0 hW 11 rfl rfl h14 rfl dX10_addLine_92 (fun M15 H locs eM15 hW => ?_)
    have hw := hw M15 eM15
    refine lv_aload_n hx hb dX10_addLine_93 rfl (lv_at hl 0 rfl) ?_
    refine r_get C0 hin hW 18 (by decide) (v := .ref (ad 12)) rfl (List.mem_of_getElem? (i := 6) rfl) rfl dX10_addLine_94 ?_
    refine lv_aload_n hx hb dX10_addLine_97 rfl (lv_at hl 0 rfl) ?_
    refine r_get C0 hin hW 19 (by decide) (v := .int (M15 0 7)) rfl (List.mem_of_getElem? (i := 5) rfl) rfl dX10_addLine_98 ?_
    refine lv_iload_n hx hb dX10_addLine_101 rfl (lv_at hl 2 rfl) ?_
    obtain ⟨h16, hw⟩ := hw
    refine r_iast C0 hW 12 rfl rfl h16 rfl dX10_addLine_102 (fun M17 H locs eM17 hW => ?_)
    have hw := hw M17 eM17
    refine lv_aload_n hx hb dX10_addLine_103 rfl (lv_at hl 0 rfl) ?_
    refine lv_dup hx hb dX10_addLine_104 rfl ?_
    refine r_get C0 hin hW 19 (by decide) (v := .int (M17 0 7)) rfl (List.mem_of_getElem? (i := 5) rfl) rfl dX10_addLine_105 ?_
    refine lv_iconst (v := 1) hx hb dX10_addLine_108 (by decide) ?_
    refine lv_iadd hx hb dX10_addLine_109 ?_
    refine r_put C0 hin hW 19 7 (by decide) (List.mem_of_getElem? (i := 5) rfl) rfl rfl (by decide +kernel) rfl dX10_addLine_110 (fun M18 H locs eM18 hW => ?_)
    have hw := hw M18 eM18
    obtain ⟨v19, ev19⟩ : ∃ y : Int32, y = x3 + 1 := ⟨_, rfl⟩
    have hw := hw v19 ev19
    refine lv_iinc (v := v19) (lv' := [(3, .int v19), (0, .ref (ad 0)), (2, .int x2)]) hx hb dX10_addLine_113 hl (k := 2) rfl (by rw [ev19]; rfl) (by decide) rfl (fun ls hl => ?_)
    refine lv_goto (tgt := 57) hx hb dX10_addLine_116 (by decide) ?_
    exact hK57 x2 v19 M18 hw _ _ _ hW (lv_sub hl [1, 2, 0] rfl)
set_option maxHeartbeats 4000000 in
set_option maxRecDepth 100000 in
theorem t_addLine_57 (C0 : rX p s m args c cX10_addLine 4 RX10 wsX10_addLine D ((cI, .int) :: (cZ, .boolean) :: ty') A) (post : Int32 → RM → Prop) (hret : ∀ (r : Int32) (M' : RM) (pc : Nat) (lv : List (Nat × Value)) (k n : Nat), k ≤ 0 → n ≤ 0 → post r M' → narrow .boolean (.int r) = .int r → decode cX10_addLine pc = .ok (.ireturn, 1) → gG p l e rm_addLine s m args below meth c Q D A 4 k n (rcells cI cZ ad M' Y) pc lv [.int r])  : ∀ (nf : Nat) (x2 x3 : Int32) (M : RM), w_addLine_57 post  nf x2 x3 M → gG p l e rm_addLine s m args below meth c Q D A 4 0 0 (rcells cI cZ ad M Y) 57 [(0, .ref (ad 0)), (2, .int x2), (3, .int x3)] [] := by
  obtain ⟨hx, hb, hml, ho, hts, hK, hA⟩ := id C0
  have hin := in_addLine
  intro nf
  induction nf with
  | zero => intro x2 x3 M hw; exact hw.elim
  | succ nf ih =>
    intro x2 x3 M hw H locs ls hW hl
    rw [w_addLine_57] at hw
    refine lv_iload_n hx hb dX10_addLine_57 rfl (lv_at hl 2 rfl) ?_
    refine lv_iload_n hx hb dX10_addLine_58 rfl (lv_at hl 1 rfl) ?_
    refine lv_if_eq (tgt := 71) hx hb dX10_addLine_59 (by decide) (fun c11 => ?_) (fun c11 => ?_)
    · have hw := hw.1 c11
      try dsimp only at hw
      refine lv_aload_n hx hb dX10_addLine_71 rfl (lv_at hl 0 rfl) ?_
      refine r_get C0 hin hW 15 (by decide) (v := .int (M 0 5)) rfl (List.mem_of_getElem? (i := 1) rfl) rfl dX10_addLine_72 ?_
      exact t_addLine_75 C0 post hret (w_addLine_57 post  nf) ih x2 x3 (M 0 5) x3 M hw _ _ _ hW (lv_sub hl [0, 1, 2] rfl)
    · have hw := hw.2 c11
      try dsimp only at hw
      refine lv_aload_n hx hb dX10_addLine_62 rfl (lv_at hl 0 rfl) ?_
      refine r_get C0 hin hW 15 (by decide) (v := .int (M 0 5)) rfl (List.mem_of_getElem? (i := 1) rfl) rfl dX10_addLine_63 ?_
      refine lv_iconst (v := 1) hx hb dX10_addLine_66 (by decide) ?_
      refine lv_isub hx hb dX10_addLine_67 ?_
      refine lv_goto (tgt := 75) hx hb dX10_addLine_68 (by decide) ?_
      exact t_addLine_75 C0 post hret (w_addLine_57 post  nf) ih x2 x3 ((M 0 5) - 1) x3 M hw _ _ _ hW (lv_sub hl [0, 1, 2] rfl)
set_option maxHeartbeats 4000000 in
set_option maxRecDepth 100000 in
theorem t_addLine_39 (C0 : rX p s m args c cX10_addLine 4 RX10 wsX10_addLine D ((cI, .int) :: (cZ, .boolean) :: ty') A) (post : Int32 → RM → Prop) (hret : ∀ (r : Int32) (M' : RM) (pc : Nat) (lv : List (Nat × Value)) (k n : Nat), k ≤ 0 → n ≤ 0 → post r M' → narrow .boolean (.int r) = .int r → decode cX10_addLine pc = .ok (.ireturn, 1) → gG p l e rm_addLine s m args below meth c Q D A 4 k n (rcells cI cZ ad M' Y) pc lv [.int r])  : ∀  (x1 : Int32) (M : RM), w_addLine_39 post   x1 M → gG p l e rm_addLine s m args below meth c Q D A 4 0 0 (rcells cI cZ ad M Y) 39 [(0, .ref (ad 0)), (1, .int x1)] [] := by
  obtain ⟨hx, hb, hml, ho, hts, hK, hA⟩ := id C0
  have hin := in_addLine
  intro x1 M hw H locs ls hW hl
  rw [w_addLine_39] at hw
  refine lv_iload_n hx hb dX10_addLine_39 rfl (lv_at hl 1 rfl) ?_
  refine lv_iconst (v := 2) hx hb dX10_addLine_40 (by decide) ?_
  refine lv_irem hx hb dX10_addLine_41 (by decide) ?_
  refine lv_iconst (v := 1) hx hb dX10_addLine_42 (by decide) ?_
  refine lv_icmp_ne (tgt := 50) hx hb dX10_addLine_43 (by decide) (fun c6 => ?_) (fun c6 => ?_)
  · have hw := hw.1 c6
    try dsimp only at hw
    refine lv_iconst (v := 0) hx hb dX10_addLine_50 (by decide) ?_
    refine lv_istore_n (lv' := [(2, .int 0), (0, .ref (ad 0)), (1, .int x1)]) hx hb dX10_addLine_51 rfl hl (by decide) rfl (fun ls hl => ?_)
    refine lv_aload_n hx hb dX10_addLine_52 rfl (lv_at hl 1 rfl) ?_
    refine r_get C0 hin hW 14 (by decide) (v := .int (M 0 4)) rfl (List.mem_of_getElem? (i := 2) rfl) rfl dX10_addLine_53 ?_
    refine lv_topi (fun v7 ev7 => ?_)
    have hw := hw v7 ev7
    refine lv_istore_n (lv' := [(3, .int v7), (2, .int 0), (0, .ref (ad 0)), (1, .int x1)]) hx hb dX10_addLine_56 rfl hl (by decide) rfl (fun ls hl => ?_)
    obtain ⟨n8, hw⟩ := hw
    exact t_addLine_57 C0 post hret  n8 0 v7 M hw _ _ _ hW (lv_sub hl [2, 1, 0] rfl)
  · have hw := hw.2 c6
    try dsimp only at hw
    refine lv_iconst (v := 1) hx hb dX10_addLine_46 (by decide) ?_
    refine lv_goto (tgt := 51) hx hb dX10_addLine_47 (by decide) ?_
    refine lv_istore_n (lv' := [(2, .int 1), (0, .ref (ad 0)), (1, .int x1)]) hx hb dX10_addLine_51 rfl hl (by decide) rfl (fun ls hl => ?_)
    refine lv_aload_n hx hb dX10_addLine_52 rfl (lv_at hl 1 rfl) ?_
    refine r_get C0 hin hW 14 (by decide) (v := .int (M 0 4)) rfl (List.mem_of_getElem? (i := 2) rfl) rfl dX10_addLine_53 ?_
    refine lv_topi (fun v9 ev9 => ?_)
    have hw := hw v9 ev9
    refine lv_istore_n (lv' := [(3, .int v9), (2, .int 1), (0, .ref (ad 0)), (1, .int x1)]) hx hb dX10_addLine_56 rfl hl (by decide) rfl (fun ls hl => ?_)
    obtain ⟨n10, hw⟩ := hw
    exact t_addLine_57 C0 post hret  n10 1 v9 M hw _ _ _ hW (lv_sub hl [2, 1, 0] rfl)
set_option maxHeartbeats 4000000 in
set_option maxRecDepth 100000 in
theorem t_addLine_2 (C0 : rX p s m args c cX10_addLine 4 RX10 wsX10_addLine D ((cI, .int) :: (cZ, .boolean) :: ty') A) (post : Int32 → RM → Prop) (hret : ∀ (r : Int32) (M' : RM) (pc : Nat) (lv : List (Nat × Value)) (k n : Nat), k ≤ 0 → n ≤ 0 → post r M' → narrow .boolean (.int r) = .int r → decode cX10_addLine pc = .ok (.ireturn, 1) → gG p l e rm_addLine s m args below meth c Q D A 4 k n (rcells cI cZ ad M' Y) pc lv [.int r])  : ∀ (nf : Nat) (x1 : Int32) (M : RM), w_addLine_2 post  nf x1 M → gG p l e rm_addLine s m args below meth c Q D A 4 0 0 (rcells cI cZ ad M Y) 2 [(0, .ref (ad 0)), (1, .int x1)] [] := by
  obtain ⟨hx, hb, hml, ho, hts, hK, hA⟩ := id C0
  have hin := in_addLine
  intro nf
  induction nf with
  | zero => intro x1 M hw; exact hw.elim
  | succ nf ih =>
    intro x1 M hw H locs ls hW hl
    rw [w_addLine_2] at hw
    refine lv_aload_n hx hb dX10_addLine_2 rfl (lv_at hl 0 rfl) ?_
    refine r_get C0 hin hW 15 (by decide) (v := .int (M 0 5)) rfl (List.mem_of_getElem? (i := 1) rfl) rfl dX10_addLine_3 ?_
    refine lv_iload_n hx hb dX10_addLine_6 rfl (lv_at hl 1 rfl) ?_
    refine lv_isub hx hb dX10_addLine_7 ?_
    refine lv_aload_n hx hb dX10_addLine_8 rfl (lv_at hl 0 rfl) ?_
    refine r_get C0 hin hW 14 (by decide) (v := .int (M 0 4)) rfl (List.mem_of_getElem? (i := 2) rfl) rfl dX10_addLine_9 ?_
    refine lv_icmp_le (tgt := 39) hx hb dX10_addLine_12 (by decide) (fun c2 => ?_) (fun c2 => ?_)
    · have hw := hw.1 c2
      try dsimp only at hw
      exact t_addLine_39 C0 post hret  x1 M hw _ _ _ hW (lv_sub hl [0, 1] rfl)
    · have hw := hw.2 c2
      try dsimp only at hw
      refine lv_aload_n hx hb dX10_addLine_15 rfl (lv_at hl 0 rfl) ?_
      refine r_get C0 hin hW 3 (by decide) (v := .ref (ad 4)) rfl (List.mem_of_getElem? (i := 3) rfl) rfl dX10_addLine_16 ?_
      refine lv_aload_n hx hb dX10_addLine_19 rfl (lv_at hl 0 rfl) ?_
      refine r_get C0 hin hW 15 (by decide) (v := .int (M 0 5)) rfl (List.mem_of_getElem? (i := 1) rfl) rfl dX10_addLine_20 ?_
      refine lv_iload_n hx hb dX10_addLine_23 rfl (lv_at hl 1 rfl) ?_
      refine lv_isub hx hb dX10_addLine_24 ?_
      refine lv_iconst (v := 1) hx hb dX10_addLine_25 (by decide) ?_
      refine lv_isub hx hb dX10_addLine_26 ?_
      obtain ⟨h3, hw⟩ := hw
      refine r_iald C0 hW 4 rfl rfl h3 dX10_addLine_27 ?_
      refine lv_bipush (v := 92) hx hb dX10_addLine_28 (by decide) ?_
      refine lv_icmp_ne (tgt := 39) hx hb dX10_addLine_30 (by decide) (fun c4 => ?_) (fun c4 => ?_)
      · have hw := hw.1 c4
        try dsimp only at hw
        exact t_addLine_39 C0 post hret  x1 M hw _ _ _ hW (lv_sub hl [0, 1] rfl)
      · have hw := hw.2 c4
        try dsimp only at hw
        obtain ⟨v5, ev5⟩ : ∃ y : Int32, y = x1 + 1 := ⟨_, rfl⟩
        have hw := hw v5 ev5
        refine lv_iinc (v := v5) (lv' := [(1, .int v5), (0, .ref (ad 0))]) hx hb dX10_addLine_33 hl (k := 1) rfl (by rw [ev5]; rfl) (by decide) rfl (fun ls hl => ?_)
        refine lv_goto (tgt := 2) hx hb dX10_addLine_36 (by decide) ?_
        exact ih v5 M hw _ _ _ hW (lv_sub hl [1, 0] rfl)
set_option maxHeartbeats 4000000 in
set_option maxRecDepth 100000 in
theorem t_addLine_0 (C0 : rX p s m args c cX10_addLine 4 RX10 wsX10_addLine D ((cI, .int) :: (cZ, .boolean) :: ty') A) (post : Int32 → RM → Prop) (hret : ∀ (r : Int32) (M' : RM) (pc : Nat) (lv : List (Nat × Value)) (k n : Nat), k ≤ 0 → n ≤ 0 → post r M' → narrow .boolean (.int r) = .int r → decode cX10_addLine pc = .ok (.ireturn, 1) → gG p l e rm_addLine s m args below meth c Q D A 4 k n (rcells cI cZ ad M' Y) pc lv [.int r])  : ∀  (M : RM), w_addLine post    M → gG p l e rm_addLine s m args below meth c Q D A 4 0 0 (rcells cI cZ ad M Y) 0 [(0, .ref (ad 0))] [] := by
  obtain ⟨hx, hb, hml, ho, hts, hK, hA⟩ := id C0
  have hin := in_addLine
  intro  M hw H locs ls hW hl
  rw [w_addLine] at hw
  refine lv_iconst (v := 0) hx hb dX10_addLine_0 (by decide) ?_
  refine lv_istore_n (lv' := [(1, .int 0), (0, .ref (ad 0))]) hx hb dX10_addLine_1 rfl hl (by decide) rfl (fun ls hl => ?_)
  obtain ⟨n1, hw⟩ := hw
  exact t_addLine_2 C0 post hret  n1 0 M hw _ _ _ hW (lv_sub hl [1, 0] rfl)
set_option maxHeartbeats 4000000 in
set_option maxRecDepth 100000 in
theorem k_addLine {l : Launch} {D : va_G} {cI cZ : ClassId} {ty' : List (ClassId × FieldType)} {ad : Nat → Nat} {Y : va_W} {sz : Nat} (post : Int32 → RM → Prop) (M : RM) (hw : w_addLine post  M) : gMi l yX10_addLine wsX10_addLine rm_addLine D ((cI, .int) :: (cZ, .boolean) :: ty') sz (fun M => rcells cI cZ ad M Y) M [.ref (ad 0)] post 0 0 := by
  refine gMi_of (cc := cX10_addLine) (nL := 4) (ty := .boolean) (own := RX10) (by decide) rfl rfl (Nat.le_of_ble_eq_true rfl) ?_
  intro p e s m args below meth c A Q C0 hret
  exact t_addLine_0 C0 post hret  M hw
abbrev rm_layEntry : Room := { frames := 2, cells := 0, slots := 0, locals := 42 }
theorem in_layEntry : ∀ w ∈ wsX100, w ∈ wsX10_layEntry := fun w hw => List.mem_cons_of_mem _ (List.mem_append_right _ hw)
set_option maxHeartbeats 4000000 in
set_option maxRecDepth 100000 in
theorem t_layEntry_72 (C0 : rX p s m args c cX10_layEntry 4 RX10 wsX10_layEntry D ((cI, .int) :: (cZ, .boolean) :: ty') A) (post : Int32 → RM → Prop) (hret : ∀ (r : Int32) (M' : RM) (pc : Nat) (lv : List (Nat × Value)) (k n : Nat), k ≤ 0 → n ≤ 0 → post r M' → narrow .int (.int r) = .int r → decode cX10_layEntry pc = .ok (.ireturn, 1) → gG p l e rm_layEntry s m args below meth c Q D A 4 k n (rcells cI cZ ad M' Y) pc lv [.int r])  : ∀ (nf : Nat) (x3 : Int32) (M : RM), w_layEntry_72 post  nf x3 M → gG p l e rm_layEntry s m args below meth c Q D A 4 0 0 (rcells cI cZ ad M Y) 72 [(0, .ref (ad 0)), (3, .int x3)] [] := by
  obtain ⟨hx, hb, hml, ho, hts, hK, hA⟩ := id C0
  have hin := in_layEntry
  intro nf
  induction nf with
  | zero => intro x3 M hw; exact hw.elim
  | succ nf ih =>
    intro x3 M hw H locs ls hW hl
    rw [w_layEntry_72] at hw
    refine lv_iload_n hx hb dX10_layEntry_72 rfl (lv_at hl 1 rfl) ?_
    refine lv_if_eq (tgt := 101) hx hb dX10_layEntry_73 (by decide) (fun c15 => ?_) (fun c15 => ?_)
    · have hw := hw.1 c15
      try dsimp only at hw
      refine lv_aload_n hx hb dX10_layEntry_101 rfl (lv_at hl 0 rfl) ?_
      refine r_get C0 hin hW 16 (by decide) (v := .int (M 0 6)) rfl (List.mem_of_getElem? (i := 5) rfl) rfl dX10_layEntry_102 ?_
      exact hret (M 0 6) M _ _ 0 0 (Nat.le_refl _) (Nat.le_refl _) hw rfl dX10_layEntry_105 _ _ _ hW hl
    · have hw := hw.2 c15
      try dsimp only at hw
      refine lv_aload_n hx hb dX10_layEntry_76 rfl (lv_at hl 0 rfl) ?_
      refine r_get C0 hin hW 16 (by decide) (v := .int (M 0 6)) rfl (List.mem_of_getElem? (i := 5) rfl) rfl dX10_layEntry_77 ?_
      refine lv_bipush (v := (-5)) hx hb dX10_layEntry_80 (by decide) ?_
      refine lv_icmp_eq (tgt := 101) hx hb dX10_layEntry_82 (by decide) (fun c16 => ?_) (fun c16 => ?_)
      · have hw := hw.1 c16
        try dsimp only at hw
        refine lv_aload_n hx hb dX10_layEntry_101 rfl (lv_at hl 0 rfl) ?_
        refine r_get C0 hin hW 16 (by decide) (v := .int (M 0 6)) rfl (List.mem_of_getElem? (i := 5) rfl) rfl dX10_layEntry_102 ?_
        exact hret (M 0 6) M _ _ 0 0 (Nat.le_refl _) (Nat.le_refl _) hw rfl dX10_layEntry_105 _ _ _ hW hl
      · have hw := hw.2 c16
        try dsimp only at hw
        refine lv_aload_n hx hb dX10_layEntry_85 rfl (lv_at hl 0 rfl) ?_
        refine lv_aload_n hx hb dX10_layEntry_86 rfl (lv_at hl 0 rfl) ?_
        refine r_get C0 hin hW 16 (by decide) (v := .int (M 0 6)) rfl (List.mem_of_getElem? (i := 5) rfl) rfl dX10_layEntry_87 ?_
        refine g_callv (cw0 := fun M => rcells cI cZ ad M Y) (M := M) (As := [.int (M 0 6)]) (rest := []) C0 hW hl.1 (k_layLine (l := l) _ (M 0 6) _ hw) (cwV 1 hts gX10_layEntry_X10_layLine rfl rfl rfl (by decide +kernel) ⟨Nat.le_of_ble_eq_true rfl, Nat.le_of_ble_eq_true rfl⟩) (r_recv C0 hW) (Nat.le_of_ble_eq_true rfl) dX10_layEntry_90 rfl ⟨Nat.le_of_ble_eq_true rfl, Nat.le_of_ble_eq_true rfl⟩ (fun M17 H locs hw hW => ?_)
        try dsimp only at hw
        refine lv_aload_n hx hb dX10_layEntry_93 rfl (lv_at hl 0 rfl) ?_
        refine g_calli (cw0 := fun M => rcells cI cZ ad M Y) (M := M17) (As := []) (rest := []) C0 hW hl.1 (k_addLine (l := l) _  _ hw) (cwV 0 hts gX10_layEntry_X10_addLine rfl rfl rfl (by decide +kernel) ⟨Nat.le_of_ble_eq_true rfl, Nat.le_of_ble_eq_true rfl⟩) (r_recv C0 hW) (Nat.le_of_ble_eq_true rfl) dX10_layEntry_94 rfl ⟨Nat.le_of_ble_eq_true rfl, Nat.le_of_ble_eq_true rfl⟩ (fun r19 M18 H locs hw hW => ?_)
        try dsimp only at hw
        refine lv_istore_n (lv' := [(3, .int r19), (0, .ref (ad 0))]) hx hb dX10_layEntry_97 rfl hl (by decide) rfl (fun ls hl => ?_)
        refine lv_goto (tgt := 72) hx hb dX10_layEntry_98 (by decide) ?_
        exact ih r19 M18 hw _ _ _ hW (lv_sub hl [1, 0] rfl)
set_option maxHeartbeats 4000000 in
set_option maxRecDepth 100000 in
theorem t_layEntry_54 (C0 : rX p s m args c cX10_layEntry 4 RX10 wsX10_layEntry D ((cI, .int) :: (cZ, .boolean) :: ty') A) (post : Int32 → RM → Prop) (hret : ∀ (r : Int32) (M' : RM) (pc : Nat) (lv : List (Nat × Value)) (k n : Nat), k ≤ 0 → n ≤ 0 → post r M' → narrow .int (.int r) = .int r → decode cX10_layEntry pc = .ok (.ireturn, 1) → gG p l e rm_layEntry s m args below meth c Q D A 4 k n (rcells cI cZ ad M' Y) pc lv [.int r])  : ∀  (s0 : Int32) (M : RM), w_layEntry_54 post   s0 M → gG p l e rm_layEntry s m args below meth c Q D A 4 0 0 (rcells cI cZ ad M Y) 54 [(0, .ref (ad 0))] [.int s0] := by
  obtain ⟨hx, hb, hml, ho, hts, hK, hA⟩ := id C0
  have hin := in_layEntry
  intro s0 M hw H locs ls hW hl
  rw [w_layEntry_54] at hw
  refine lv_istore_n (lv' := [(2, .int s0), (0, .ref (ad 0))]) hx hb dX10_layEntry_54 rfl hl (by decide) rfl (fun ls hl => ?_)
  refine lv_iload_n hx hb dX10_layEntry_55 rfl (lv_at hl 0 rfl) ?_
  refine lv_if_ne (tgt := 70) hx hb dX10_layEntry_56 (by decide) (fun c8 => ?_) (fun c8 => ?_)
  · have hw := hw.1 c8
    try dsimp only at hw
    refine lv_iconst (v := 0) hx hb dX10_layEntry_70 (by decide) ?_
    refine lv_istore_n (lv' := [(3, .int 0), (2, .int s0), (0, .ref (ad 0))]) hx hb dX10_layEntry_71 rfl hl (by decide) rfl (fun ls hl => ?_)
    obtain ⟨n9, hw⟩ := hw
    exact t_layEntry_72 C0 post hret  n9 0 M hw _ _ _ hW (lv_sub hl [2, 0] rfl)
  · have hw := hw.2 c8
    try dsimp only at hw
    refine lv_aload_n hx hb dX10_layEntry_59 rfl (lv_at hl 1 rfl) ?_
    refine g_calli (cw0 := fun M => rcells cI cZ ad M Y) (M := M) (As := []) (rest := []) C0 hW hl.1 (k_addLine (l := l) _  _ hw) (cwV 0 hts gX10_layEntry_X10_addLine rfl rfl rfl (by decide +kernel) ⟨Nat.le_of_ble_eq_true rfl, Nat.le_of_ble_eq_true rfl⟩) (r_recv C0 hW) (Nat.le_of_ble_eq_true rfl) dX10_layEntry_60 rfl ⟨Nat.le_of_ble_eq_true rfl, Nat.le_of_ble_eq_true rfl⟩ (fun r11 M10 H locs hw hW => ?_)
    try dsimp only at hw
    refine lv_if_eq (tgt := 70) hx hb dX10_layEntry_63 (by decide) (fun c12 => ?_) (fun c12 => ?_)
    · have hw := hw.1 c12
      try dsimp only at hw
      refine lv_iconst (v := 0) hx hb dX10_layEntry_70 (by decide) ?_
      refine lv_istore_n (lv' := [(3, .int 0), (2, .int s0), (0, .ref (ad 0))]) hx hb dX10_layEntry_71 rfl hl (by decide) rfl (fun ls hl => ?_)
      obtain ⟨n13, hw⟩ := hw
      exact t_layEntry_72 C0 post hret  n13 0 M10 hw _ _ _ hW (lv_sub hl [2, 0] rfl)
    · have hw := hw.2 c12
      try dsimp only at hw
      refine lv_iconst (v := 1) hx hb dX10_layEntry_66 (by decide) ?_
      refine lv_goto (tgt := 71) hx hb dX10_layEntry_67 (by decide) ?_
      refine lv_istore_n (lv' := [(3, .int 1), (2, .int s0), (0, .ref (ad 0))]) hx hb dX10_layEntry_71 rfl hl (by decide) rfl (fun ls hl => ?_)
      obtain ⟨n14, hw⟩ := hw
      exact t_layEntry_72 C0 post hret  n14 1 M10 hw _ _ _ hW (lv_sub hl [2, 0] rfl)
set_option maxHeartbeats 4000000 in
set_option maxRecDepth 100000 in
theorem t_layEntry_49 (C0 : rX p s m args c cX10_layEntry 4 RX10 wsX10_layEntry D ((cI, .int) :: (cZ, .boolean) :: ty') A) (post : Int32 → RM → Prop) (hret : ∀ (r : Int32) (M' : RM) (pc : Nat) (lv : List (Nat × Value)) (k n : Nat), k ≤ 0 → n ≤ 0 → post r M' → narrow .int (.int r) = .int r → decode cX10_layEntry pc = .ok (.ireturn, 1) → gG p l e rm_layEntry s m args below meth c Q D A 4 k n (rcells cI cZ ad M' Y) pc lv [.int r])  : ∀  (M : RM), w_layEntry_49 post    M → gG p l e rm_layEntry s m args below meth c Q D A 4 0 0 (rcells cI cZ ad M Y) 49 [(0, .ref (ad 0))] [] := by
  obtain ⟨hx, hb, hml, ho, hts, hK, hA⟩ := id C0
  have hin := in_layEntry
  intro  M hw H locs ls hW hl
  rw [w_layEntry_49] at hw
  refine lv_iconst (v := 1) hx hb dX10_layEntry_49 (by decide) ?_
  refine lv_goto (tgt := 54) hx hb dX10_layEntry_50 (by decide) ?_
  exact t_layEntry_54 C0 post hret  1 M hw _ _ _ hW (lv_sub hl [0] rfl)
set_option maxHeartbeats 4000000 in
set_option maxRecDepth 100000 in
theorem t_layEntry_0 (C0 : rX p s m args c cX10_layEntry 4 RX10 wsX10_layEntry D ((cI, .int) :: (cZ, .boolean) :: ty') A) (post : Int32 → RM → Prop) (hret : ∀ (r : Int32) (M' : RM) (pc : Nat) (lv : List (Nat × Value)) (k n : Nat), k ≤ 0 → n ≤ 0 → post r M' → narrow .int (.int r) = .int r → decode cX10_layEntry pc = .ok (.ireturn, 1) → gG p l e rm_layEntry s m args below meth c Q D A 4 k n (rcells cI cZ ad M' Y) pc lv [.int r])  : ∀  (a1 : Int32) (M : RM), w_layEntry post   a1 M → gG p l e rm_layEntry s m args below meth c Q D A 4 0 0 (rcells cI cZ ad M Y) 0 [(0, .ref (ad 0)), (1, .int a1)] [] := by
  obtain ⟨hx, hb, hml, ho, hts, hK, hA⟩ := id C0
  have hin := in_layEntry
  intro a1 M hw H locs ls hW hl
  rw [w_layEntry] at hw
  refine lv_aload_n hx hb dX10_layEntry_0 rfl (lv_at hl 0 rfl) ?_
  refine lv_iconst (v := 0) hx hb dX10_layEntry_1 (by decide) ?_
  refine r_put C0 hin hW 19 7 (by decide) (List.mem_of_getElem? (i := 1) rfl) rfl rfl (by decide +kernel) rfl dX10_layEntry_2 (fun M1 H locs eM1 hW => ?_)
  have hw := hw M1 eM1
  refine lv_aload_n hx hb dX10_layEntry_5 rfl (lv_at hl 0 rfl) ?_
  refine lv_iload_n hx hb dX10_layEntry_6 rfl (lv_at hl 1 rfl) ?_
  refine g_callv (cw0 := fun M => rcells cI cZ ad M Y) (M := M1) (As := [.int a1]) (rest := []) C0 hW hl.1 (k_layLine (l := l) _ a1 _ hw) (cwV 1 hts gX10_layEntry_X10_layLine rfl rfl rfl (by decide +kernel) ⟨Nat.le_of_ble_eq_true rfl, Nat.le_of_ble_eq_true rfl⟩) (r_recv C0 hW) (Nat.le_of_ble_eq_true rfl) dX10_layEntry_7 rfl ⟨Nat.le_of_ble_eq_true rfl, Nat.le_of_ble_eq_true rfl⟩ (fun M2 H locs hw hW => ?_)
  try dsimp only at hw
  refine lv_aload_n hx hb dX10_layEntry_10 rfl (lv_at hl 0 rfl) ?_
  refine r_get C0 hin hW 14 (by decide) (v := .int (M2 0 4)) rfl (List.mem_of_getElem? (i := 2) rfl) rfl dX10_layEntry_11 ?_
  refine lv_aload_n hx hb dX10_layEntry_14 rfl (lv_at hl 0 rfl) ?_
  refine r_get C0 hin hW 15 (by decide) (v := .int (M2 0 5)) rfl (List.mem_of_getElem? (i := 3) rfl) rfl dX10_layEntry_15 ?_
  refine lv_icmp_eq (tgt := 49) hx hb dX10_layEntry_18 (by decide) (fun c3 => ?_) (fun c3 => ?_)
  · have hw := hw.1 c3
    try dsimp only at hw
    exact t_layEntry_49 C0 post hret   M2 hw _ _ _ hW (lv_sub hl [0] rfl)
  · have hw := hw.2 c3
    try dsimp only at hw
    refine lv_aload_n hx hb dX10_layEntry_21 rfl (lv_at hl 0 rfl) ?_
    refine r_get C0 hin hW 3 (by decide) (v := .ref (ad 4)) rfl (List.mem_of_getElem? (i := 4) rfl) rfl dX10_layEntry_22 ?_
    refine lv_aload_n hx hb dX10_layEntry_25 rfl (lv_at hl 0 rfl) ?_
    refine r_get C0 hin hW 14 (by decide) (v := .int (M2 0 4)) rfl (List.mem_of_getElem? (i := 2) rfl) rfl dX10_layEntry_26 ?_
    obtain ⟨h4, hw⟩ := hw
    refine r_iald C0 hW 4 rfl rfl h4 dX10_layEntry_29 ?_
    refine lv_bipush (v := 35) hx hb dX10_layEntry_30 (by decide) ?_
    refine lv_icmp_eq (tgt := 49) hx hb dX10_layEntry_32 (by decide) (fun c5 => ?_) (fun c5 => ?_)
    · have hw := hw.1 c5
      try dsimp only at hw
      exact t_layEntry_49 C0 post hret   M2 hw _ _ _ hW (lv_sub hl [0] rfl)
    · have hw := hw.2 c5
      try dsimp only at hw
      refine lv_aload_n hx hb dX10_layEntry_35 rfl (lv_at hl 0 rfl) ?_
      refine r_get C0 hin hW 3 (by decide) (v := .ref (ad 4)) rfl (List.mem_of_getElem? (i := 4) rfl) rfl dX10_layEntry_36 ?_
      refine lv_aload_n hx hb dX10_layEntry_39 rfl (lv_at hl 0 rfl) ?_
      refine r_get C0 hin hW 14 (by decide) (v := .int (M2 0 4)) rfl (List.mem_of_getElem? (i := 2) rfl) rfl dX10_layEntry_40 ?_
      obtain ⟨h6, hw⟩ := hw
      refine r_iald C0 hW 4 rfl rfl h6 dX10_layEntry_43 ?_
      refine lv_bipush (v := 33) hx hb dX10_layEntry_44 (by decide) ?_
      refine lv_icmp_ne (tgt := 53) hx hb dX10_layEntry_46 (by decide) (fun c7 => ?_) (fun c7 => ?_)
      · have hw := hw.1 c7
        try dsimp only at hw
        refine lv_iconst (v := 0) hx hb dX10_layEntry_53 (by decide) ?_
        exact t_layEntry_54 C0 post hret  0 M2 hw _ _ _ hW (lv_sub hl [0] rfl)
      · have hw := hw.2 c7
        try dsimp only at hw
        exact t_layEntry_49 C0 post hret   M2 hw _ _ _ hW (lv_sub hl [0] rfl)
set_option maxHeartbeats 4000000 in
set_option maxRecDepth 100000 in
theorem k_layEntry {l : Launch} {D : va_G} {cI cZ : ClassId} {ty' : List (ClassId × FieldType)} {ad : Nat → Nat} {Y : va_W} {sz : Nat} (post : Int32 → RM → Prop) (a1 : Int32) (M : RM) (hw : w_layEntry post a1 M) : gMi l yX10_layEntry wsX10_layEntry rm_layEntry D ((cI, .int) :: (cZ, .boolean) :: ty') sz (fun M => rcells cI cZ ad M Y) M [.ref (ad 0), .int a1] post 0 0 := by
  refine gMi_of (cc := cX10_layEntry) (nL := 4) (ty := .int) (own := RX10) (by decide) rfl rfl (Nat.le_of_ble_eq_true rfl) ?_
  intro p e s m args below meth c A Q C0 hret
  exact t_layEntry_0 C0 post hret a1 M hw
end REFM
