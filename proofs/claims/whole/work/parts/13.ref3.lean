section REFM
variable {p : Program} {l : Launch} {e : Env} {s : State} {m : MethodId} {args : Array Value} {below : List Frame} {meth : Method} {c : Code} {Q : State → Prop}
variable {D : va_G} {A : Nat → Prop} {cI cZ : ClassId} {ty' : List (ClassId × FieldType)} {ad : Nat → Nat} {Y : va_W}
abbrev rm_writesText : Room := { frames := 2, cells := 0, slots := 0, locals := 44 }
theorem in_writesText : ∀ w ∈ wsX100, w ∈ wsX10_writesText := fun w hw => List.mem_cons_of_mem _ (List.mem_append_right _ hw)
set_option maxHeartbeats 4000000 in
set_option maxRecDepth 100000 in
theorem t_writesText_2 (C0 : rX p s m args c cX10_writesText 3 RX10 wsX10_writesText D ((cI, .int) :: (cZ, .boolean) :: ty') A) (post : RM → Prop) (hret : ∀ (M' : RM) (pc : Nat) (lv : List (Nat × Value)) (k n : Nat), k ≤ 0 → n ≤ 0 → post M' → decode cX10_writesText pc = .ok (.return_, 1) → gG p l e rm_writesText s m args below meth c Q D A 3 k n (rcells cI cZ ad M' Y) pc lv [])  : ∀ (nf : Nat) (x1 x2 : Int32) (M : RM), w_writesText_2 post  nf x1 x2 M → gG p l e rm_writesText s m args below meth c Q D A 3 0 0 (rcells cI cZ ad M Y) 2 [(0, .ref (ad 0)), (1, .int x1), (2, .int x2)] [] := by
  obtain ⟨hx, hb, hml, ho, hts, hK, hA⟩ := id C0
  have hin := in_writesText
  intro nf
  induction nf with
  | zero => intro x1 x2 M hw; exact hw.elim
  | succ nf ih =>
    intro x1 x2 M hw H locs ls hW hl
    rw [w_writesText_2] at hw
    refine lv_iload_n hx hb dX10_writesText_2 rfl (lv_at hl 2 rfl) ?_
    refine lv_aload_n hx hb dX10_writesText_3 rfl (lv_at hl 0 rfl) ?_
    refine r_get C0 hin hW 0 (by decide) (v := .ref (ad 1)) rfl (List.mem_of_getElem? (i := 1) rfl) rfl dX10_writesText_4 ?_
    refine lv_iload_n hx hb dX10_writesText_7 rfl (lv_at hl 1 rfl) ?_
    obtain ⟨h2, hw⟩ := hw
    refine r_iald C0 hW 1 rfl rfl h2 dX10_writesText_8 ?_
    refine lv_icmp_gt (tgt := 30) hx hb dX10_writesText_9 (by decide) (fun c3 => ?_) (fun c3 => ?_)
    · have hw := hw.1 c3
      try dsimp only at hw
      exact hret M _ _ 0 0 (Nat.le_refl _) (Nat.le_refl _) hw dX10_writesText_30 _ _ _ hW hl
    · have hw := hw.2 c3
      try dsimp only at hw
      refine lv_aload_n hx hb dX10_writesText_12 rfl (lv_at hl 0 rfl) ?_
      refine lv_aload_n hx hb dX10_writesText_13 rfl (lv_at hl 0 rfl) ?_
      refine r_get C0 hin hW 0 (by decide) (v := .ref (ad 1)) rfl (List.mem_of_getElem? (i := 1) rfl) rfl dX10_writesText_14 ?_
      refine lv_iload_n hx hb dX10_writesText_17 rfl (lv_at hl 1 rfl) ?_
      refine lv_iload_n hx hb dX10_writesText_18 rfl (lv_at hl 2 rfl) ?_
      refine lv_iadd hx hb dX10_writesText_19 ?_
      obtain ⟨h4, hw⟩ := hw
      refine r_iald C0 hW 1 rfl rfl h4 dX10_writesText_20 ?_
      refine g_callv (cw0 := fun M => rcells cI cZ ad M Y) (M := M) (As := [.int (M 1 ((x1 + x2) : Int32).toNatClampNeg)]) (rest := []) C0 hW hl.1 (k_writesSign (l := l) _ (M 1 ((x1 + x2) : Int32).toNatClampNeg) _ hw) (cwV 1 hts gX10_writesText_X10_writesSign rfl rfl rfl (by decide +kernel) ⟨Nat.le_of_ble_eq_true rfl, Nat.le_of_ble_eq_true rfl⟩) (r_recv C0 hW) (Nat.le_of_ble_eq_true rfl) dX10_writesText_21 rfl ⟨Nat.le_of_ble_eq_true rfl, Nat.le_of_ble_eq_true rfl⟩ (fun M5 H locs hw hW => ?_)
      try dsimp only at hw
      obtain ⟨v6, ev6⟩ : ∃ y : Int32, y = x2 + 1 := ⟨_, rfl⟩
      have hw := hw v6 ev6
      refine lv_iinc (v := v6) (lv' := [(2, .int v6), (0, .ref (ad 0)), (1, .int x1)]) hx hb dX10_writesText_24 hl (k := 2) rfl (by rw [ev6]; rfl) (by decide) rfl (fun ls hl => ?_)
      refine lv_goto (tgt := 2) hx hb dX10_writesText_27 (by decide) ?_
      exact ih x1 v6 M5 hw _ _ _ hW (lv_sub hl [1, 2, 0] rfl)
set_option maxHeartbeats 4000000 in
set_option maxRecDepth 100000 in
theorem t_writesText_0 (C0 : rX p s m args c cX10_writesText 3 RX10 wsX10_writesText D ((cI, .int) :: (cZ, .boolean) :: ty') A) (post : RM → Prop) (hret : ∀ (M' : RM) (pc : Nat) (lv : List (Nat × Value)) (k n : Nat), k ≤ 0 → n ≤ 0 → post M' → decode cX10_writesText pc = .ok (.return_, 1) → gG p l e rm_writesText s m args below meth c Q D A 3 k n (rcells cI cZ ad M' Y) pc lv [])  : ∀  (a1 : Int32) (M : RM), w_writesText post   a1 M → gG p l e rm_writesText s m args below meth c Q D A 3 0 0 (rcells cI cZ ad M Y) 0 [(0, .ref (ad 0)), (1, .int a1)] [] := by
  obtain ⟨hx, hb, hml, ho, hts, hK, hA⟩ := id C0
  have hin := in_writesText
  intro a1 M hw H locs ls hW hl
  rw [w_writesText] at hw
  refine lv_iconst (v := 1) hx hb dX10_writesText_0 (by decide) ?_
  refine lv_istore_n (lv' := [(2, .int 1), (0, .ref (ad 0)), (1, .int a1)]) hx hb dX10_writesText_1 rfl hl (by decide) rfl (fun ls hl => ?_)
  obtain ⟨n1, hw⟩ := hw
  exact t_writesText_2 C0 post hret  n1 a1 1 M hw _ _ _ hW (lv_sub hl [1, 2, 0] rfl)
set_option maxHeartbeats 4000000 in
set_option maxRecDepth 100000 in
theorem k_writesText {l : Launch} {D : va_G} {cI cZ : ClassId} {ty' : List (ClassId × FieldType)} {ad : Nat → Nat} {Y : va_W} {sz : Nat} (post : RM → Prop) (a1 : Int32) (M : RM) (hw : w_writesText post a1 M) : gMv l yX10_writesText wsX10_writesText rm_writesText D ((cI, .int) :: (cZ, .boolean) :: ty') sz (fun M => rcells cI cZ ad M Y) M [.ref (ad 0), .int a1] post 0 0 := by
  refine gMv_of (cc := cX10_writesText) (nL := 3) (own := RX10) (by decide) rfl rfl (Nat.le_of_ble_eq_true rfl) ?_
  intro p e s m args below meth c A Q C0 hret
  exact t_writesText_0 C0 post hret a1 M hw
abbrev rm_write : Room := { frames := 3, cells := 0, slots := 0, locals := 66 }
theorem in_write : ∀ w ∈ wsX100, w ∈ wsX10_write := fun w hw => List.mem_cons_of_mem _ (List.mem_append_right _ hw)
set_option maxHeartbeats 4000000 in
set_option maxRecDepth 100000 in
theorem t_write_77 (C0 : rX p s m args c cX10_write 3 RX10 wsX10_write D ((cI, .int) :: (cZ, .boolean) :: ty') A) (post : Int32 → RM → Prop) (hret : ∀ (r : Int32) (M' : RM) (pc : Nat) (lv : List (Nat × Value)) (k n : Nat), k ≤ 0 → n ≤ 0 → post r M' → narrow .int (.int r) = .int r → decode cX10_write pc = .ok (.ireturn, 1) → gG p l e rm_write s m args below meth c Q D A 3 k n (rcells cI cZ ad M' Y) pc lv [.int r])  : ∀ (nf : Nat) (x2 : Int32) (M : RM), w_write_77 post  nf x2 M → gG p l e rm_write s m args below meth c Q D A 3 0 0 (rcells cI cZ ad M Y) 77 [(0, .ref (ad 0)), (2, .int x2)] [] := by
  obtain ⟨hx, hb, hml, ho, hts, hK, hA⟩ := id C0
  have hin := in_write
  intro nf
  induction nf with
  | zero => intro x2 M hw; exact hw.elim
  | succ nf ih =>
    intro x2 M hw H locs ls hW hl
    rw [w_write_77] at hw
    refine lv_iload_n hx hb dX10_write_77 rfl (lv_at hl 1 rfl) ?_
    refine lv_aload_n hx hb dX10_write_78 rfl (lv_at hl 0 rfl) ?_
    refine r_get C0 hin hW 6 (by decide) (v := .int (M 0 1)) rfl (List.mem_of_getElem? (i := 1) rfl) rfl dX10_write_79 ?_
    refine lv_icmp_ge (tgt := 103) hx hb dX10_write_82 (by decide) (fun c16 => ?_) (fun c16 => ?_)
    · have hw := hw.1 c16
      try dsimp only at hw
      refine lv_aload_n hx hb dX10_write_103 rfl (lv_at hl 0 rfl) ?_
      refine lv_aload_n hx hb dX10_write_104 rfl (lv_at hl 0 rfl) ?_
      refine r_get C0 hin hW 6 (by decide) (v := .int (M 0 1)) rfl (List.mem_of_getElem? (i := 1) rfl) rfl dX10_write_105 ?_
      refine r_put C0 hin hW 4 0 (by decide) (List.mem_of_getElem? (i := 5) rfl) rfl rfl (by decide +kernel) rfl dX10_write_108 (fun M17 H locs eM17 hW => ?_)
      have hw := hw M17 eM17
      refine lv_aload_n hx hb dX10_write_111 rfl (lv_at hl 0 rfl) ?_
      refine r_get C0 hin hW 4 (by decide) (v := .int (M17 0 0)) rfl (List.mem_of_getElem? (i := 5) rfl) rfl dX10_write_112 ?_
      exact hret (M17 0 0) M17 _ _ 0 0 (Nat.le_refl _) (Nat.le_refl _) hw rfl dX10_write_115 _ _ _ hW hl
    · have hw := hw.2 c16
      try dsimp only at hw
      refine lv_aload_n hx hb dX10_write_85 rfl (lv_at hl 0 rfl) ?_
      refine r_get C0 hin hW 3 (by decide) (v := .ref (ad 4)) rfl (List.mem_of_getElem? (i := 3) rfl) rfl dX10_write_86 ?_
      refine lv_iload_n hx hb dX10_write_89 rfl (lv_at hl 1 rfl) ?_
      refine lv_aload_n hx hb dX10_write_90 rfl (lv_at hl 0 rfl) ?_
      refine r_get C0 hin hW 5 (by decide) (v := .ref (ad 5)) rfl (List.mem_of_getElem? (i := 4) rfl) rfl dX10_write_91 ?_
      refine lv_iload_n hx hb dX10_write_94 rfl (lv_at hl 1 rfl) ?_
      obtain ⟨h18, hw⟩ := hw
      refine r_iald C0 hW 5 rfl rfl h18 dX10_write_95 ?_
      obtain ⟨h19, hw⟩ := hw
      refine r_iast C0 hW 4 rfl rfl h19 rfl dX10_write_96 (fun M20 H locs eM20 hW => ?_)
      have hw := hw M20 eM20
      obtain ⟨v21, ev21⟩ : ∃ y : Int32, y = x2 + 1 := ⟨_, rfl⟩
      have hw := hw v21 ev21
      refine lv_iinc (v := v21) (lv' := [(2, .int v21), (0, .ref (ad 0))]) hx hb dX10_write_97 hl (k := 1) rfl (by rw [ev21]; rfl) (by decide) rfl (fun ls hl => ?_)
      refine lv_goto (tgt := 77) hx hb dX10_write_100 (by decide) ?_
      exact ih v21 M20 hw _ _ _ hW (lv_sub hl [1, 0] rfl)
set_option maxHeartbeats 4000000 in
set_option maxRecDepth 100000 in
theorem t_write_16 (C0 : rX p s m args c cX10_write 3 RX10 wsX10_write D ((cI, .int) :: (cZ, .boolean) :: ty') A) (post : Int32 → RM → Prop) (hret : ∀ (r : Int32) (M' : RM) (pc : Nat) (lv : List (Nat × Value)) (k n : Nat), k ≤ 0 → n ≤ 0 → post r M' → narrow .int (.int r) = .int r → decode cX10_write pc = .ok (.ireturn, 1) → gG p l e rm_write s m args below meth c Q D A 3 k n (rcells cI cZ ad M' Y) pc lv [.int r])  : ∀ (nf : Nat) (x1 x2 : Int32) (M : RM), w_write_16 post  nf x1 x2 M → gG p l e rm_write s m args below meth c Q D A 3 0 0 (rcells cI cZ ad M Y) 16 [(0, .ref (ad 0)), (1, .int x1), (2, .int x2)] [] := by
  obtain ⟨hx, hb, hml, ho, hts, hK, hA⟩ := id C0
  have hin := in_write
  intro nf
  induction nf with
  | zero => intro x1 x2 M hw; exact hw.elim
  | succ nf ih =>
    intro x1 x2 M hw H locs ls hW hl
    rw [w_write_16] at hw
    refine lv_iload_n hx hb dX10_write_16 rfl (lv_at hl 2 rfl) ?_
    refine lv_aload_n hx hb dX10_write_17 rfl (lv_at hl 0 rfl) ?_
    refine r_get C0 hin hW 1 (by decide) (v := .ref (ad 2)) rfl (List.mem_of_getElem? (i := 2) rfl) rfl dX10_write_18 ?_
    refine lv_iload_n hx hb dX10_write_21 rfl (lv_at hl 1 rfl) ?_
    obtain ⟨h5, hw⟩ := hw
    refine r_iald C0 hW 2 rfl rfl h5 dX10_write_22 ?_
    refine lv_icmp_ge (tgt := 62) hx hb dX10_write_23 (by decide) (fun c6 => ?_) (fun c6 => ?_)
    · have hw := hw.1 c6
      try dsimp only at hw
      refine lv_aload_n hx hb dX10_write_62 rfl (lv_at hl 0 rfl) ?_
      refine r_get C0 hin hW 6 (by decide) (v := .int (M 0 1)) rfl (List.mem_of_getElem? (i := 1) rfl) rfl dX10_write_63 ?_
      refine lv_sipush (v := 300) hx hb dX10_write_66 (by decide) ?_
      refine lv_icmp_le (tgt := 75) hx hb dX10_write_69 (by decide) (fun c7 => ?_) (fun c7 => ?_)
      · have hw := hw.1 c7
        try dsimp only at hw
        refine lv_iconst (v := 0) hx hb dX10_write_75 (by decide) ?_
        refine lv_istore_n (lv' := [(2, .int 0), (0, .ref (ad 0)), (1, .int x1)]) hx hb dX10_write_76 rfl hl (by decide) rfl (fun ls hl => ?_)
        obtain ⟨n8, hw⟩ := hw
        exact t_write_77 C0 post hret  n8 0 M hw _ _ _ hW (lv_sub hl [1, 0] rfl)
      · have hw := hw.2 c7
        try dsimp only at hw
        refine lv_bipush (v := (-3)) hx hb dX10_write_72 (by decide) ?_
        exact hret (-3) M _ _ 0 0 (Nat.le_refl _) (Nat.le_refl _) hw rfl dX10_write_74 _ _ _ hW hl
    · have hw := hw.2 c6
      try dsimp only at hw
      refine lv_aload_n hx hb dX10_write_26 rfl (lv_at hl 0 rfl) ?_
      refine lv_iload_n hx hb dX10_write_27 rfl (lv_at hl 1 rfl) ?_
      refine lv_iload_n hx hb dX10_write_28 rfl (lv_at hl 2 rfl) ?_
      refine g_calls (As := [.int x1, .int x2]) (rest := [.ref (ad 0)]) ⟨hx, hb, hml, ho, hts⟩ hl.1 (k_entryOf (l := l) _ x1 x2 hw) (va_cwS 2 hts gX10_write_X10_entryOf rfl rfl rfl (by decide +kernel) ⟨Nat.le_of_ble_eq_true rfl, Nat.le_of_ble_eq_true rfl⟩) (Nat.le_of_ble_eq_true rfl) dX10_write_29 rfl ⟨Nat.le_of_ble_eq_true rfl, Nat.le_of_ble_eq_true rfl⟩ (fun r9 hw => ?_)
      try dsimp only at hw
      refine g_callv (cw0 := fun M => rcells cI cZ ad M Y) (M := M) (As := [.int r9]) (rest := []) C0 hW hl.1 (k_writesText (l := l) _ r9 _ hw) (cwV 1 hts gX10_write_X10_writesText rfl rfl rfl (by decide +kernel) ⟨Nat.le_of_ble_eq_true rfl, Nat.le_of_ble_eq_true rfl⟩) (r_recv C0 hW) (Nat.le_of_ble_eq_true rfl) dX10_write_32 rfl ⟨Nat.le_of_ble_eq_true rfl, Nat.le_of_ble_eq_true rfl⟩ (fun M10 H locs hw hW => ?_)
      try dsimp only at hw
      refine lv_aload_n hx hb dX10_write_35 rfl (lv_at hl 0 rfl) ?_
      refine lv_bipush (v := 61) hx hb dX10_write_36 (by decide) ?_
      refine g_callv (cw0 := fun M => rcells cI cZ ad M Y) (M := M10) (As := [.int 61]) (rest := []) C0 hW hl.1 (k_writes (l := l) _ 61 _ hw) (cwV 1 hts gX10_write_X10_writes rfl rfl rfl (by decide +kernel) ⟨Nat.le_of_ble_eq_true rfl, Nat.le_of_ble_eq_true rfl⟩) (r_recv C0 hW) (Nat.le_of_ble_eq_true rfl) dX10_write_38 rfl ⟨Nat.le_of_ble_eq_true rfl, Nat.le_of_ble_eq_true rfl⟩ (fun M11 H locs hw hW => ?_)
      try dsimp only at hw
      refine lv_aload_n hx hb dX10_write_41 rfl (lv_at hl 0 rfl) ?_
      refine lv_iload_n hx hb dX10_write_42 rfl (lv_at hl 1 rfl) ?_
      refine lv_iload_n hx hb dX10_write_43 rfl (lv_at hl 2 rfl) ?_
      refine g_calls (As := [.int x1, .int x2]) (rest := [.ref (ad 0)]) ⟨hx, hb, hml, ho, hts⟩ hl.1 (k_valueOf (l := l) _ x1 x2 hw) (va_cwS 2 hts gX10_write_X10_valueOf rfl rfl rfl (by decide +kernel) ⟨Nat.le_of_ble_eq_true rfl, Nat.le_of_ble_eq_true rfl⟩) (Nat.le_of_ble_eq_true rfl) dX10_write_44 rfl ⟨Nat.le_of_ble_eq_true rfl, Nat.le_of_ble_eq_true rfl⟩ (fun r12 hw => ?_)
      try dsimp only at hw
      refine g_callv (cw0 := fun M => rcells cI cZ ad M Y) (M := M11) (As := [.int r12]) (rest := []) C0 hW hl.1 (k_writesText (l := l) _ r12 _ hw) (cwV 1 hts gX10_write_X10_writesText rfl rfl rfl (by decide +kernel) ⟨Nat.le_of_ble_eq_true rfl, Nat.le_of_ble_eq_true rfl⟩) (r_recv C0 hW) (Nat.le_of_ble_eq_true rfl) dX10_write_47 rfl ⟨Nat.le_of_ble_eq_true rfl, Nat.le_of_ble_eq_true rfl⟩ (fun M13 H locs hw hW => ?_)
      try dsimp only at hw
      refine lv_aload_n hx hb dX10_write_50 rfl (lv_at hl 0 rfl) ?_
      refine lv_bipush (v := 10) hx hb dX10_write_51 (by decide) ?_
      refine g_callv (cw0 := fun M => rcells cI cZ ad M Y) (M := M13) (As := [.int 10]) (rest := []) C0 hW hl.1 (k_writes (l := l) _ 10 _ hw) (cwV 1 hts gX10_write_X10_writes rfl rfl rfl (by decide +kernel) ⟨Nat.le_of_ble_eq_true rfl, Nat.le_of_ble_eq_true rfl⟩) (r_recv C0 hW) (Nat.le_of_ble_eq_true rfl) dX10_write_53 rfl ⟨Nat.le_of_ble_eq_true rfl, Nat.le_of_ble_eq_true rfl⟩ (fun M14 H locs hw hW => ?_)
      try dsimp only at hw
      obtain ⟨v15, ev15⟩ : ∃ y : Int32, y = x2 + 1 := ⟨_, rfl⟩
      have hw := hw v15 ev15
      refine lv_iinc (v := v15) (lv' := [(2, .int v15), (0, .ref (ad 0)), (1, .int x1)]) hx hb dX10_write_56 hl (k := 2) rfl (by rw [ev15]; rfl) (by decide) rfl (fun ls hl => ?_)
      refine lv_goto (tgt := 16) hx hb dX10_write_59 (by decide) ?_
      exact ih x1 v15 M14 hw _ _ _ hW (lv_sub hl [1, 2, 0] rfl)
set_option maxHeartbeats 4000000 in
set_option maxRecDepth 100000 in
theorem t_write_0 (C0 : rX p s m args c cX10_write 3 RX10 wsX10_write D ((cI, .int) :: (cZ, .boolean) :: ty') A) (post : Int32 → RM → Prop) (hret : ∀ (r : Int32) (M' : RM) (pc : Nat) (lv : List (Nat × Value)) (k n : Nat), k ≤ 0 → n ≤ 0 → post r M' → narrow .int (.int r) = .int r → decode cX10_write pc = .ok (.ireturn, 1) → gG p l e rm_write s m args below meth c Q D A 3 k n (rcells cI cZ ad M' Y) pc lv [.int r])  : ∀  (a1 : Int32) (M : RM), w_write post   a1 M → gG p l e rm_write s m args below meth c Q D A 3 0 0 (rcells cI cZ ad M Y) 0 [(0, .ref (ad 0)), (1, .int a1)] [] := by
  obtain ⟨hx, hb, hml, ho, hts, hK, hA⟩ := id C0
  have hin := in_write
  intro a1 M hw H locs ls hW hl
  rw [w_write] at hw
  refine lv_iload_n hx hb dX10_write_0 rfl (lv_at hl 1 rfl) ?_
  refine g_calls (As := [.int a1]) (rest := []) ⟨hx, hb, hml, ho, hts⟩ hl.1 (k_isLayer (l := l) _ a1 hw) (va_cwS 1 hts gX10_write_X10_isLayer rfl rfl rfl (by decide +kernel) ⟨Nat.le_of_ble_eq_true rfl, Nat.le_of_ble_eq_true rfl⟩) (Nat.le_of_ble_eq_true rfl) dX10_write_1 rfl ⟨Nat.le_of_ble_eq_true rfl, Nat.le_of_ble_eq_true rfl⟩ (fun r1 hw => ?_)
  try dsimp only at hw
  refine lv_if_ne (tgt := 9) hx hb dX10_write_4 (by decide) (fun c2 => ?_) (fun c2 => ?_)
  · have hw := hw.1 c2
    try dsimp only at hw
    refine lv_aload_n hx hb dX10_write_9 rfl (lv_at hl 0 rfl) ?_
    refine lv_iconst (v := 0) hx hb dX10_write_10 (by decide) ?_
    refine r_put C0 hin hW 6 1 (by decide) (List.mem_of_getElem? (i := 1) rfl) rfl rfl (by decide +kernel) rfl dX10_write_11 (fun M3 H locs eM3 hW => ?_)
    have hw := hw M3 eM3
    refine lv_iconst (v := 0) hx hb dX10_write_14 (by decide) ?_
    refine lv_istore_n (lv' := [(2, .int 0), (0, .ref (ad 0)), (1, .int a1)]) hx hb dX10_write_15 rfl hl (by decide) rfl (fun ls hl => ?_)
    obtain ⟨n4, hw⟩ := hw
    exact t_write_16 C0 post hret  n4 a1 0 M3 hw _ _ _ hW (lv_sub hl [1, 2, 0] rfl)
  · have hw := hw.2 c2
    try dsimp only at hw
    refine lv_iconst (v := (-1)) hx hb dX10_write_7 (by decide) ?_
    exact hret (-1) M _ _ 0 0 (Nat.le_refl _) (Nat.le_refl _) hw rfl dX10_write_8 _ _ _ hW hl
set_option maxHeartbeats 4000000 in
set_option maxRecDepth 100000 in
theorem k_write {l : Launch} {D : va_G} {cI cZ : ClassId} {ty' : List (ClassId × FieldType)} {ad : Nat → Nat} {Y : va_W} {sz : Nat} (post : Int32 → RM → Prop) (a1 : Int32) (M : RM) (hw : w_write post a1 M) : gMi l yX10_write wsX10_write rm_write D ((cI, .int) :: (cZ, .boolean) :: ty') sz (fun M => rcells cI cZ ad M Y) M [.ref (ad 0), .int a1] post 0 0 := by
  refine gMi_of (cc := cX10_write) (nL := 3) (ty := .int) (own := RX10) (by decide) rfl rfl (Nat.le_of_ble_eq_true rfl) ?_
  intro p e s m args below meth c A Q C0 hret
  exact t_write_0 C0 post hret a1 M hw
abbrev rm_layerWith : Room := { frames := 3, cells := 0, slots := 0, locals := 70 }
theorem in_layerWith : ∀ w ∈ wsX100, w ∈ wsX10_layerWith := fun w hw => List.mem_cons_of_mem _ (List.mem_append_right _ hw)
set_option maxHeartbeats 4000000 in
set_option maxRecDepth 100000 in
theorem t_layerWith_2 (C0 : rX p s m args c cX10_layerWith 4 RX10 wsX10_layerWith D ((cI, .int) :: (cZ, .boolean) :: ty') A) (post : Int32 → RM → Prop) (hret : ∀ (r : Int32) (M' : RM) (pc : Nat) (lv : List (Nat × Value)) (k n : Nat), k ≤ 0 → n ≤ 0 → post r M' → narrow .int (.int r) = .int r → decode cX10_layerWith pc = .ok (.ireturn, 1) → gG p l e rm_layerWith s m args below meth c Q D A 4 k n (rcells cI cZ ad M' Y) pc lv [.int r])  : ∀ (nf : Nat) (x2 x3 : Int32) (M : RM), w_layerWith_2 post  nf x2 x3 M → gG p l e rm_layerWith s m args below meth c Q D A 4 0 0 (rcells cI cZ ad M Y) 2 [(0, .ref (ad 0)), (2, .int x2), (3, .int x3)] [] := by
  obtain ⟨hx, hb, hml, ho, hts, hK, hA⟩ := id C0
  have hin := in_layerWith
  intro nf
  induction nf with
  | zero => intro x2 x3 M hw; exact hw.elim
  | succ nf ih =>
    intro x2 x3 M hw H locs ls hW hl
    rw [w_layerWith_2] at hw
    refine lv_iload_n hx hb dX10_layerWith_2 rfl (lv_at hl 2 rfl) ?_
    refine lv_if_lt (tgt := 23) hx hb dX10_layerWith_3 (by decide) (fun c2 => ?_) (fun c2 => ?_)
    · have hw := hw.1 c2
      try dsimp only at hw
      refine lv_iload_n hx hb dX10_layerWith_23 rfl (lv_at hl 2 rfl) ?_
      refine lv_if_ge (tgt := 32) hx hb dX10_layerWith_24 (by decide) (fun c3 => ?_) (fun c3 => ?_)
      · have hw := hw.1 c3
        try dsimp only at hw
        refine lv_iload_n hx hb dX10_layerWith_32 rfl (lv_at hl 2 rfl) ?_
        exact hret x3 M _ _ 0 0 (Nat.le_refl _) (Nat.le_refl _) hw rfl dX10_layerWith_33 _ _ _ hW hl
      · have hw := hw.2 c3
        try dsimp only at hw
        refine lv_bipush (v := (-5)) hx hb dX10_layerWith_27 (by decide) ?_
        refine lv_goto (tgt := 33) hx hb dX10_layerWith_29 (by decide) ?_
        exact hret (-5) M _ _ 0 0 (Nat.le_refl _) (Nat.le_refl _) hw rfl dX10_layerWith_33 _ _ _ hW hl
    · have hw := hw.2 c2
      try dsimp only at hw
      refine lv_aload_n hx hb dX10_layerWith_6 rfl (lv_at hl 0 rfl) ?_
      refine lv_iload_n hx hb dX10_layerWith_7 rfl (lv_at hl 2 rfl) ?_
      refine lv_iload_n hx hb dX10_layerWith_8 rfl (lv_at hl 1 rfl) ?_
      refine g_calli (cw0 := fun M => rcells cI cZ ad M Y) (M := M) (As := [.int x3, .int x2]) (rest := []) C0 hW hl.1 (k_find (l := l) _ x3 x2 _ hw) (cwV 2 hts gX10_layerWith_X10_find rfl rfl rfl (by decide +kernel) ⟨Nat.le_of_ble_eq_true rfl, Nat.le_of_ble_eq_true rfl⟩) (r_recv C0 hW) (Nat.le_of_ble_eq_true rfl) dX10_layerWith_9 rfl ⟨Nat.le_of_ble_eq_true rfl, Nat.le_of_ble_eq_true rfl⟩ (fun r5 M4 H locs hw hW => ?_)
      try dsimp only at hw
      refine lv_bipush (v := (-5)) hx hb dX10_layerWith_12 (by decide) ?_
      refine lv_icmp_ne (tgt := 23) hx hb dX10_layerWith_14 (by decide) (fun c6 => ?_) (fun c6 => ?_)
      · have hw := hw.1 c6
        try dsimp only at hw
        refine lv_iload_n hx hb dX10_layerWith_23 rfl (lv_at hl 2 rfl) ?_
        refine lv_if_ge (tgt := 32) hx hb dX10_layerWith_24 (by decide) (fun c7 => ?_) (fun c7 => ?_)
        · have hw := hw.1 c7
          try dsimp only at hw
          refine lv_iload_n hx hb dX10_layerWith_32 rfl (lv_at hl 2 rfl) ?_
          exact hret x3 M4 _ _ 0 0 (Nat.le_refl _) (Nat.le_refl _) hw rfl dX10_layerWith_33 _ _ _ hW hl
        · have hw := hw.2 c7
          try dsimp only at hw
          refine lv_bipush (v := (-5)) hx hb dX10_layerWith_27 (by decide) ?_
          refine lv_goto (tgt := 33) hx hb dX10_layerWith_29 (by decide) ?_
          exact hret (-5) M4 _ _ 0 0 (Nat.le_refl _) (Nat.le_refl _) hw rfl dX10_layerWith_33 _ _ _ hW hl
      · have hw := hw.2 c6
        try dsimp only at hw
        obtain ⟨v8, ev8⟩ : ∃ y : Int32, y = x3 + (-1) := ⟨_, rfl⟩
        have hw := hw v8 ev8
        refine lv_iinc (v := v8) (lv' := [(3, .int v8), (0, .ref (ad 0)), (2, .int x2)]) hx hb dX10_layerWith_17 hl (k := 2) rfl (by rw [ev8]; rfl) (by decide) rfl (fun ls hl => ?_)
        refine lv_goto (tgt := 2) hx hb dX10_layerWith_20 (by decide) ?_
        exact ih x2 v8 M4 hw _ _ _ hW (lv_sub hl [1, 2, 0] rfl)
set_option maxHeartbeats 4000000 in
set_option maxRecDepth 100000 in
theorem t_layerWith_0 (C0 : rX p s m args c cX10_layerWith 4 RX10 wsX10_layerWith D ((cI, .int) :: (cZ, .boolean) :: ty') A) (post : Int32 → RM → Prop) (hret : ∀ (r : Int32) (M' : RM) (pc : Nat) (lv : List (Nat × Value)) (k n : Nat), k ≤ 0 → n ≤ 0 → post r M' → narrow .int (.int r) = .int r → decode cX10_layerWith pc = .ok (.ireturn, 1) → gG p l e rm_layerWith s m args below meth c Q D A 4 k n (rcells cI cZ ad M' Y) pc lv [.int r])  : ∀  (a1 a2 : Int32) (M : RM), w_layerWith post   a1 a2 M → gG p l e rm_layerWith s m args below meth c Q D A 4 0 0 (rcells cI cZ ad M Y) 0 [(0, .ref (ad 0)), (1, .int a1), (2, .int a2)] [] := by
  obtain ⟨hx, hb, hml, ho, hts, hK, hA⟩ := id C0
  have hin := in_layerWith
  intro a1 a2 M hw H locs ls hW hl
  rw [w_layerWith] at hw
  refine lv_iload_n hx hb dX10_layerWith_0 rfl (lv_at hl 1 rfl) ?_
  refine lv_istore_n (lv' := [(3, .int a1), (0, .ref (ad 0)), (1, .int a1), (2, .int a2)]) hx hb dX10_layerWith_1 rfl hl (by decide) rfl (fun ls hl => ?_)
  obtain ⟨n1, hw⟩ := hw
  exact t_layerWith_2 C0 post hret  n1 a2 a1 M hw _ _ _ hW (lv_sub hl [1, 3, 0] rfl)
set_option maxHeartbeats 4000000 in
set_option maxRecDepth 100000 in
theorem k_layerWith {l : Launch} {D : va_G} {cI cZ : ClassId} {ty' : List (ClassId × FieldType)} {ad : Nat → Nat} {Y : va_W} {sz : Nat} (post : Int32 → RM → Prop) (a1 a2 : Int32) (M : RM) (hw : w_layerWith post a1 a2 M) : gMi l yX10_layerWith wsX10_layerWith rm_layerWith D ((cI, .int) :: (cZ, .boolean) :: ty') sz (fun M => rcells cI cZ ad M Y) M [.ref (ad 0), .int a1, .int a2] post 0 0 := by
  refine gMi_of (cc := cX10_layerWith) (nL := 4) (ty := .int) (own := RX10) (by decide) rfl rfl (Nat.le_of_ble_eq_true rfl) ?_
  intro p e s m args below meth c A Q C0 hret
  exact t_layerWith_0 C0 post hret a1 a2 M hw
abbrev rm_layValue : Room := { frames := 3, cells := 0, slots := 0, locals := 70 }
theorem in_layValue : ∀ w ∈ wsX100, w ∈ wsX10_layValue := fun w hw => List.mem_cons_of_mem _ (List.mem_append_right _ hw)
set_option maxHeartbeats 4000000 in
set_option maxRecDepth 100000 in
theorem t_layValue_0 (C0 : rX p s m args c cX10_layValue 4 RX10 wsX10_layValue D ((cI, .int) :: (cZ, .boolean) :: ty') A) (post : Int32 → RM → Prop) (hret : ∀ (r : Int32) (M' : RM) (pc : Nat) (lv : List (Nat × Value)) (k n : Nat), k ≤ 0 → n ≤ 0 → post r M' → narrow .int (.int r) = .int r → decode cX10_layValue pc = .ok (.ireturn, 1) → gG p l e rm_layValue s m args below meth c Q D A 4 k n (rcells cI cZ ad M' Y) pc lv [.int r])  : ∀  (a1 a2 a3 : Int32) (M : RM), w_layValue post   a1 a2 a3 M → gG p l e rm_layValue s m args below meth c Q D A 4 0 0 (rcells cI cZ ad M Y) 0 [(0, .ref (ad 0)), (1, .int a1), (2, .int a2), (3, .int a3)] [] := by
  obtain ⟨hx, hb, hml, ho, hts, hK, hA⟩ := id C0
  have hin := in_layValue
  intro a1 a2 a3 M hw H locs ls hW hl
  rw [w_layValue] at hw
  refine lv_aload_n hx hb dX10_layValue_0 rfl (lv_at hl 0 rfl) ?_
  refine lv_iload_n hx hb dX10_layValue_1 rfl (lv_at hl 1 rfl) ?_
  refine lv_aload_n hx hb dX10_layValue_2 rfl (lv_at hl 0 rfl) ?_
  refine lv_iload_n hx hb dX10_layValue_3 rfl (lv_at hl 1 rfl) ?_
  refine lv_iload_n hx hb dX10_layValue_4 rfl (lv_at hl 2 rfl) ?_
  refine g_calli (cw0 := fun M => rcells cI cZ ad M Y) (M := M) (As := [.int a1, .int a2]) (rest := [.int a1, .ref (ad 0)]) C0 hW hl.1 (k_find (l := l) _ a1 a2 _ hw) (cwV 2 hts gX10_layValue_X10_find rfl rfl rfl (by decide +kernel) ⟨Nat.le_of_ble_eq_true rfl, Nat.le_of_ble_eq_true rfl⟩) (r_recv C0 hW) (Nat.le_of_ble_eq_true rfl) dX10_layValue_5 rfl ⟨Nat.le_of_ble_eq_true rfl, Nat.le_of_ble_eq_true rfl⟩ (fun r2 M1 H locs hw hW => ?_)
  try dsimp only at hw
  refine g_calls (As := [.int a1, .int r2]) (rest := [.ref (ad 0)]) ⟨hx, hb, hml, ho, hts⟩ hl.1 (k_valueOf (l := l) _ a1 r2 hw) (va_cwS 2 hts gX10_layValue_X10_valueOf rfl rfl rfl (by decide +kernel) ⟨Nat.le_of_ble_eq_true rfl, Nat.le_of_ble_eq_true rfl⟩) (Nat.le_of_ble_eq_true rfl) dX10_layValue_8 rfl ⟨Nat.le_of_ble_eq_true rfl, Nat.le_of_ble_eq_true rfl⟩ (fun r3 hw => ?_)
  try dsimp only at hw
  refine lv_sipush (v := 2107) hx hb dX10_layValue_11 (by decide) ?_
  refine g_callv (cw0 := fun M => rcells cI cZ ad M Y) (M := M1) (As := [.int r3, .int 2107]) (rest := []) C0 hW hl.1 (k_copyText (l := l) _ r3 2107 _ hw) (cwV 2 hts gX10_layValue_X10_copyText rfl rfl rfl (by decide +kernel) ⟨Nat.le_of_ble_eq_true rfl, Nat.le_of_ble_eq_true rfl⟩) (r_recv C0 hW) (Nat.le_of_ble_eq_true rfl) dX10_layValue_14 rfl ⟨Nat.le_of_ble_eq_true rfl, Nat.le_of_ble_eq_true rfl⟩ (fun M4 H locs hw hW => ?_)
  try dsimp only at hw
  refine lv_aload_n hx hb dX10_layValue_17 rfl (lv_at hl 0 rfl) ?_
  refine lv_sipush (v := 2107) hx hb dX10_layValue_18 (by decide) ?_
  refine lv_iload_n hx hb dX10_layValue_21 rfl (lv_at hl 3 rfl) ?_
  refine g_calls (As := [.int a3]) (rest := [.int 2107, .ref (ad 0)]) ⟨hx, hb, hml, ho, hts⟩ hl.1 (k_at (l := l) _ a3 hw) (va_cwS 1 hts gX10_layValue_X10_at rfl rfl rfl (by decide +kernel) ⟨Nat.le_of_ble_eq_true rfl, Nat.le_of_ble_eq_true rfl⟩) (Nat.le_of_ble_eq_true rfl) dX10_layValue_22 rfl ⟨Nat.le_of_ble_eq_true rfl, Nat.le_of_ble_eq_true rfl⟩ (fun r5 hw => ?_)
  try dsimp only at hw
  refine g_callv (cw0 := fun M => rcells cI cZ ad M Y) (M := M4) (As := [.int 2107, .int r5]) (rest := []) C0 hW hl.1 (k_copyText (l := l) _ 2107 r5 _ hw) (cwV 2 hts gX10_layValue_X10_copyText rfl rfl rfl (by decide +kernel) ⟨Nat.le_of_ble_eq_true rfl, Nat.le_of_ble_eq_true rfl⟩) (r_recv C0 hW) (Nat.le_of_ble_eq_true rfl) dX10_layValue_25 rfl ⟨Nat.le_of_ble_eq_true rfl, Nat.le_of_ble_eq_true rfl⟩ (fun M6 H locs hw hW => ?_)
  try dsimp only at hw
  refine lv_aload_n hx hb dX10_layValue_28 rfl (lv_at hl 0 rfl) ?_
  refine r_get C0 hin hW 0 (by decide) (v := .ref (ad 1)) rfl (List.mem_of_getElem? (i := 1) rfl) rfl dX10_layValue_29 ?_
  refine lv_sipush (v := 2107) hx hb dX10_layValue_32 (by decide) ?_
  obtain ⟨h7, hw⟩ := hw
  refine r_iald C0 hW 1 rfl rfl h7 dX10_layValue_35 ?_
  exact hret (M6 1 (2107 : Int32).toNatClampNeg) M6 _ _ 0 0 (Nat.le_refl _) (Nat.le_refl _) hw rfl dX10_layValue_36 _ _ _ hW hl
set_option maxHeartbeats 4000000 in
set_option maxRecDepth 100000 in
theorem k_layValue {l : Launch} {D : va_G} {cI cZ : ClassId} {ty' : List (ClassId × FieldType)} {ad : Nat → Nat} {Y : va_W} {sz : Nat} (post : Int32 → RM → Prop) (a1 a2 a3 : Int32) (M : RM) (hw : w_layValue post a1 a2 a3 M) : gMi l yX10_layValue wsX10_layValue rm_layValue D ((cI, .int) :: (cZ, .boolean) :: ty') sz (fun M => rcells cI cZ ad M Y) M [.ref (ad 0), .int a1, .int a2, .int a3] post 0 0 := by
  refine gMi_of (cc := cX10_layValue) (nL := 4) (ty := .int) (own := RX10) (by decide) rfl rfl (Nat.le_of_ble_eq_true rfl) ?_
  intro p e s m args below meth c A Q C0 hret
  exact t_layValue_0 C0 post hret a1 a2 a3 M hw
abbrev rm_get : Room := { frames := 4, cells := 0, slots := 0, locals := 93 }
theorem in_get : ∀ w ∈ wsX100, w ∈ wsX10_get := fun w hw => List.mem_cons_of_mem _ (List.mem_append_right _ hw)
set_option maxHeartbeats 4000000 in
set_option maxRecDepth 100000 in
theorem t_get_0 (C0 : rX p s m args c cX10_get 5 RX10 wsX10_get D ((cI, .int) :: (cZ, .boolean) :: ty') A) (post : Int32 → RM → Prop) (hret : ∀ (r : Int32) (M' : RM) (pc : Nat) (lv : List (Nat × Value)) (k n : Nat), k ≤ 0 → n ≤ 0 → post r M' → narrow .int (.int r) = .int r → decode cX10_get pc = .ok (.ireturn, 1) → gG p l e rm_get s m args below meth c Q D A 5 k n (rcells cI cZ ad M' Y) pc lv [.int r])  : ∀  (a1 a2 a3 : Int32) (M : RM), w_get post   a1 a2 a3 M → gG p l e rm_get s m args below meth c Q D A 5 0 0 (rcells cI cZ ad M Y) 0 [(0, .ref (ad 0)), (1, .int a1), (2, .int a2), (3, .int a3)] [] := by
  obtain ⟨hx, hb, hml, ho, hts, hK, hA⟩ := id C0
  have hin := in_get
  intro a1 a2 a3 M hw H locs ls hW hl
  rw [w_get] at hw
  refine lv_iload_n hx hb dX10_get_0 rfl (lv_at hl 1 rfl) ?_
  refine g_calls (As := [.int a1]) (rest := []) ⟨hx, hb, hml, ho, hts⟩ hl.1 (k_isLayer (l := l) _ a1 hw) (va_cwS 1 hts gX10_get_X10_isLayer rfl rfl rfl (by decide +kernel) ⟨Nat.le_of_ble_eq_true rfl, Nat.le_of_ble_eq_true rfl⟩) (Nat.le_of_ble_eq_true rfl) dX10_get_1 rfl ⟨Nat.le_of_ble_eq_true rfl, Nat.le_of_ble_eq_true rfl⟩ (fun r1 hw => ?_)
  try dsimp only at hw
  refine lv_if_eq (tgt := 21) hx hb dX10_get_4 (by decide) (fun c2 => ?_) (fun c2 => ?_)
  · have hw := hw.1 c2
    try dsimp only at hw
    refine lv_iconst (v := (-1)) hx hb dX10_get_21 (by decide) ?_
    exact hret (-1) M _ _ 0 0 (Nat.le_refl _) (Nat.le_refl _) hw rfl dX10_get_22 _ _ _ hW hl
  · have hw := hw.2 c2
    try dsimp only at hw
    refine lv_iload_n hx hb dX10_get_7 rfl (lv_at hl 2 rfl) ?_
    refine g_calls (As := [.int a2]) (rest := []) ⟨hx, hb, hml, ho, hts⟩ hl.1 (k_isSlot (l := l) _ a2 hw) (va_cwS 1 hts gX10_get_X10_isSlot rfl rfl rfl (by decide +kernel) ⟨Nat.le_of_ble_eq_true rfl, Nat.le_of_ble_eq_true rfl⟩) (Nat.le_of_ble_eq_true rfl) dX10_get_8 rfl ⟨Nat.le_of_ble_eq_true rfl, Nat.le_of_ble_eq_true rfl⟩ (fun r3 hw => ?_)
    try dsimp only at hw
    refine lv_if_eq (tgt := 21) hx hb dX10_get_11 (by decide) (fun c4 => ?_) (fun c4 => ?_)
    · have hw := hw.1 c4
      try dsimp only at hw
      refine lv_iconst (v := (-1)) hx hb dX10_get_21 (by decide) ?_
      exact hret (-1) M _ _ 0 0 (Nat.le_refl _) (Nat.le_refl _) hw rfl dX10_get_22 _ _ _ hW hl
    · have hw := hw.2 c4
      try dsimp only at hw
      refine lv_iload_n hx hb dX10_get_14 rfl (lv_at hl 3 rfl) ?_
      refine g_calls (As := [.int a3]) (rest := []) ⟨hx, hb, hml, ho, hts⟩ hl.1 (k_isSlot (l := l) _ a3 hw) (va_cwS 1 hts gX10_get_X10_isSlot rfl rfl rfl (by decide +kernel) ⟨Nat.le_of_ble_eq_true rfl, Nat.le_of_ble_eq_true rfl⟩) (Nat.le_of_ble_eq_true rfl) dX10_get_15 rfl ⟨Nat.le_of_ble_eq_true rfl, Nat.le_of_ble_eq_true rfl⟩ (fun r5 hw => ?_)
      try dsimp only at hw
      refine lv_if_ne (tgt := 23) hx hb dX10_get_18 (by decide) (fun c6 => ?_) (fun c6 => ?_)
      · have hw := hw.1 c6
        try dsimp only at hw
        refine lv_aload_n hx hb dX10_get_23 rfl (lv_at hl 0 rfl) ?_
        refine lv_iload_n hx hb dX10_get_24 rfl (lv_at hl 2 rfl) ?_
        refine g_calli (cw0 := fun M => rcells cI cZ ad M Y) (M := M) (As := [.int a2]) (rest := []) C0 hW hl.1 (k_hasNothing (l := l) _ a2 _ hw) (cwV 1 hts gX10_get_X10_hasNothing rfl rfl rfl (by decide +kernel) ⟨Nat.le_of_ble_eq_true rfl, Nat.le_of_ble_eq_true rfl⟩) (r_recv C0 hW) (Nat.le_of_ble_eq_true rfl) dX10_get_25 rfl ⟨Nat.le_of_ble_eq_true rfl, Nat.le_of_ble_eq_true rfl⟩ (fun r8 M7 H locs hw hW => ?_)
        try dsimp only at hw
        refine lv_if_eq (tgt := 36) hx hb dX10_get_28 (by decide) (fun c9 => ?_) (fun c9 => ?_)
        · have hw := hw.1 c9
          try dsimp only at hw
          refine lv_aload_n hx hb dX10_get_36 rfl (lv_at hl 0 rfl) ?_
          refine lv_iload_n hx hb dX10_get_37 rfl (lv_at hl 1 rfl) ?_
          refine lv_iload_n hx hb dX10_get_38 rfl (lv_at hl 2 rfl) ?_
          refine g_calls (As := [.int a2]) (rest := [.int a1, .ref (ad 0)]) ⟨hx, hb, hml, ho, hts⟩ hl.1 (k_at (l := l) _ a2 hw) (va_cwS 1 hts gX10_get_X10_at rfl rfl rfl (by decide +kernel) ⟨Nat.le_of_ble_eq_true rfl, Nat.le_of_ble_eq_true rfl⟩) (Nat.le_of_ble_eq_true rfl) dX10_get_39 rfl ⟨Nat.le_of_ble_eq_true rfl, Nat.le_of_ble_eq_true rfl⟩ (fun r10 hw => ?_)
          try dsimp only at hw
          refine g_calli (cw0 := fun M => rcells cI cZ ad M Y) (M := M7) (As := [.int a1, .int r10]) (rest := []) C0 hW hl.1 (k_layerWith (l := l) _ a1 r10 _ hw) (cwV 2 hts gX10_get_X10_layerWith rfl rfl rfl (by decide +kernel) ⟨Nat.le_of_ble_eq_true rfl, Nat.le_of_ble_eq_true rfl⟩) (r_recv C0 hW) (Nat.le_of_ble_eq_true rfl) dX10_get_42 rfl ⟨Nat.le_of_ble_eq_true rfl, Nat.le_of_ble_eq_true rfl⟩ (fun r12 M11 H locs hw hW => ?_)
          try dsimp only at hw
          refine lv_istore (lv' := [(4, .int r12), (0, .ref (ad 0)), (1, .int a1), (2, .int a2), (3, .int a3)]) hx hb dX10_get_45 hl (by decide) rfl (fun ls hl => ?_)
          refine lv_iload hx hb dX10_get_47 (lv_at hl 0 rfl) ?_
          refine lv_bipush (v := (-5)) hx hb dX10_get_49 (by decide) ?_
          refine lv_icmp_ne (tgt := 59) hx hb dX10_get_51 (by decide) (fun c13 => ?_) (fun c13 => ?_)
          · have hw := hw.1 c13
            try dsimp only at hw
            refine lv_aload_n hx hb dX10_get_59 rfl (lv_at hl 1 rfl) ?_
            refine lv_iload hx hb dX10_get_60 (lv_at hl 0 rfl) ?_
            refine lv_iload_n hx hb dX10_get_62 rfl (lv_at hl 3 rfl) ?_
            refine g_calls (As := [.int a2]) (rest := [.int r12, .ref (ad 0)]) ⟨hx, hb, hml, ho, hts⟩ hl.1 (k_at (l := l) _ a2 hw) (va_cwS 1 hts gX10_get_X10_at rfl rfl rfl (by decide +kernel) ⟨Nat.le_of_ble_eq_true rfl, Nat.le_of_ble_eq_true rfl⟩) (Nat.le_of_ble_eq_true rfl) dX10_get_63 rfl ⟨Nat.le_of_ble_eq_true rfl, Nat.le_of_ble_eq_true rfl⟩ (fun r14 hw => ?_)
            try dsimp only at hw
            refine lv_iload_n hx hb dX10_get_66 rfl (lv_at hl 4 rfl) ?_
            refine g_calli (cw0 := fun M => rcells cI cZ ad M Y) (M := M11) (As := [.int r12, .int r14, .int a3]) (rest := []) C0 hW hl.1 (k_layValue (l := l) _ r12 r14 a3 _ hw) (cwV 3 hts gX10_get_X10_layValue rfl rfl rfl (by decide +kernel) ⟨Nat.le_of_ble_eq_true rfl, Nat.le_of_ble_eq_true rfl⟩) (r_recv C0 hW) (Nat.le_of_ble_eq_true rfl) dX10_get_67 rfl ⟨Nat.le_of_ble_eq_true rfl, Nat.le_of_ble_eq_true rfl⟩ (fun r16 M15 H locs hw hW => ?_)
            try dsimp only at hw
            exact hret r16 M15 _ _ 0 0 (Nat.le_refl _) (Nat.le_refl _) hw rfl dX10_get_70 _ _ _ hW hl
          · have hw := hw.2 c13
            try dsimp only at hw
            refine lv_bipush (v := (-5)) hx hb dX10_get_54 (by decide) ?_
            refine lv_goto (tgt := 70) hx hb dX10_get_56 (by decide) ?_
            exact hret (-5) M11 _ _ 0 0 (Nat.le_refl _) (Nat.le_refl _) hw rfl dX10_get_70 _ _ _ hW hl
        · have hw := hw.2 c9
          try dsimp only at hw
          refine lv_aload_n hx hb dX10_get_31 rfl (lv_at hl 0 rfl) ?_
          refine g_calli (cw0 := fun M => rcells cI cZ ad M Y) (M := M7) (As := []) (rest := []) C0 hW hl.1 (k_refusedNull (l := l) _  _ hw) (cwV 0 hts gX10_get_X10_refusedNull rfl rfl rfl (by decide +kernel) ⟨Nat.le_of_ble_eq_true rfl, Nat.le_of_ble_eq_true rfl⟩) (r_recv C0 hW) (Nat.le_of_ble_eq_true rfl) dX10_get_32 rfl ⟨Nat.le_of_ble_eq_true rfl, Nat.le_of_ble_eq_true rfl⟩ (fun r18 M17 H locs hw hW => ?_)
          try dsimp only at hw
          exact hret r18 M17 _ _ 0 0 (Nat.le_refl _) (Nat.le_refl _) hw rfl dX10_get_35 _ _ _ hW hl
      · have hw := hw.2 c6
        try dsimp only at hw
        refine lv_iconst (v := (-1)) hx hb dX10_get_21 (by decide) ?_
        exact hret (-1) M _ _ 0 0 (Nat.le_refl _) (Nat.le_refl _) hw rfl dX10_get_22 _ _ _ hW hl
set_option maxHeartbeats 4000000 in
set_option maxRecDepth 100000 in
theorem k_get {l : Launch} {D : va_G} {cI cZ : ClassId} {ty' : List (ClassId × FieldType)} {ad : Nat → Nat} {Y : va_W} {sz : Nat} (post : Int32 → RM → Prop) (a1 a2 a3 : Int32) (M : RM) (hw : w_get post a1 a2 a3 M) : gMi l yX10_get wsX10_get rm_get D ((cI, .int) :: (cZ, .boolean) :: ty') sz (fun M => rcells cI cZ ad M Y) M [.ref (ad 0), .int a1, .int a2, .int a3] post 0 0 := by
  refine gMi_of (cc := cX10_get) (nL := 5) (ty := .int) (own := RX10) (by decide) rfl rfl (Nat.le_of_ble_eq_true rfl) ?_
  intro p e s m args below meth c A Q C0 hret
  exact t_get_0 C0 post hret a1 a2 a3 M hw
abbrev rm_getOr : Room := { frames := 4, cells := 0, slots := 0, locals := 93 }
theorem in_getOr : ∀ w ∈ wsX100, w ∈ wsX10_getOr := fun w hw => List.mem_cons_of_mem _ (List.mem_append_right _ hw)
set_option maxHeartbeats 4000000 in
set_option maxRecDepth 100000 in
theorem t_getOr_0 (C0 : rX p s m args c cX10_getOr 6 RX10 wsX10_getOr D ((cI, .int) :: (cZ, .boolean) :: ty') A) (post : Int32 → RM → Prop) (hret : ∀ (r : Int32) (M' : RM) (pc : Nat) (lv : List (Nat × Value)) (k n : Nat), k ≤ 0 → n ≤ 0 → post r M' → narrow .int (.int r) = .int r → decode cX10_getOr pc = .ok (.ireturn, 1) → gG p l e rm_getOr s m args below meth c Q D A 6 k n (rcells cI cZ ad M' Y) pc lv [.int r])  : ∀  (a1 a2 a3 a4 : Int32) (M : RM), w_getOr post   a1 a2 a3 a4 M → gG p l e rm_getOr s m args below meth c Q D A 6 0 0 (rcells cI cZ ad M Y) 0 [(0, .ref (ad 0)), (1, .int a1), (2, .int a2), (3, .int a3), (4, .int a4)] [] := by
  obtain ⟨hx, hb, hml, ho, hts, hK, hA⟩ := id C0
  have hin := in_getOr
  intro a1 a2 a3 a4 M hw H locs ls hW hl
  rw [w_getOr] at hw
  refine lv_iload_n hx hb dX10_getOr_0 rfl (lv_at hl 1 rfl) ?_
  refine g_calls (As := [.int a1]) (rest := []) ⟨hx, hb, hml, ho, hts⟩ hl.1 (k_isLayer (l := l) _ a1 hw) (va_cwS 1 hts gX10_getOr_X10_isLayer rfl rfl rfl (by decide +kernel) ⟨Nat.le_of_ble_eq_true rfl, Nat.le_of_ble_eq_true rfl⟩) (Nat.le_of_ble_eq_true rfl) dX10_getOr_1 rfl ⟨Nat.le_of_ble_eq_true rfl, Nat.le_of_ble_eq_true rfl⟩ (fun r1 hw => ?_)
  try dsimp only at hw
  refine lv_if_eq (tgt := 29) hx hb dX10_getOr_4 (by decide) (fun c2 => ?_) (fun c2 => ?_)
  · have hw := hw.1 c2
    try dsimp only at hw
    refine lv_iconst (v := (-1)) hx hb dX10_getOr_29 (by decide) ?_
    exact hret (-1) M _ _ 0 0 (Nat.le_refl _) (Nat.le_refl _) hw rfl dX10_getOr_30 _ _ _ hW hl
  · have hw := hw.2 c2
    try dsimp only at hw
    refine lv_iload_n hx hb dX10_getOr_7 rfl (lv_at hl 2 rfl) ?_
    refine g_calls (As := [.int a2]) (rest := []) ⟨hx, hb, hml, ho, hts⟩ hl.1 (k_isSlot (l := l) _ a2 hw) (va_cwS 1 hts gX10_getOr_X10_isSlot rfl rfl rfl (by decide +kernel) ⟨Nat.le_of_ble_eq_true rfl, Nat.le_of_ble_eq_true rfl⟩) (Nat.le_of_ble_eq_true rfl) dX10_getOr_8 rfl ⟨Nat.le_of_ble_eq_true rfl, Nat.le_of_ble_eq_true rfl⟩ (fun r3 hw => ?_)
    try dsimp only at hw
    refine lv_if_eq (tgt := 29) hx hb dX10_getOr_11 (by decide) (fun c4 => ?_) (fun c4 => ?_)
    · have hw := hw.1 c4
      try dsimp only at hw
      refine lv_iconst (v := (-1)) hx hb dX10_getOr_29 (by decide) ?_
      exact hret (-1) M _ _ 0 0 (Nat.le_refl _) (Nat.le_refl _) hw rfl dX10_getOr_30 _ _ _ hW hl
    · have hw := hw.2 c4
      try dsimp only at hw
      refine lv_iload_n hx hb dX10_getOr_14 rfl (lv_at hl 3 rfl) ?_
      refine g_calls (As := [.int a3]) (rest := []) ⟨hx, hb, hml, ho, hts⟩ hl.1 (k_isSlot (l := l) _ a3 hw) (va_cwS 1 hts gX10_getOr_X10_isSlot rfl rfl rfl (by decide +kernel) ⟨Nat.le_of_ble_eq_true rfl, Nat.le_of_ble_eq_true rfl⟩) (Nat.le_of_ble_eq_true rfl) dX10_getOr_15 rfl ⟨Nat.le_of_ble_eq_true rfl, Nat.le_of_ble_eq_true rfl⟩ (fun r5 hw => ?_)
      try dsimp only at hw
      refine lv_if_eq (tgt := 29) hx hb dX10_getOr_18 (by decide) (fun c6 => ?_) (fun c6 => ?_)
      · have hw := hw.1 c6
        try dsimp only at hw
        refine lv_iconst (v := (-1)) hx hb dX10_getOr_29 (by decide) ?_
        exact hret (-1) M _ _ 0 0 (Nat.le_refl _) (Nat.le_refl _) hw rfl dX10_getOr_30 _ _ _ hW hl
      · have hw := hw.2 c6
        try dsimp only at hw
        refine lv_iload hx hb dX10_getOr_21 (lv_at hl 4 rfl) ?_
        refine g_calls (As := [.int a4]) (rest := []) ⟨hx, hb, hml, ho, hts⟩ hl.1 (k_isSlot (l := l) _ a4 hw) (va_cwS 1 hts gX10_getOr_X10_isSlot rfl rfl rfl (by decide +kernel) ⟨Nat.le_of_ble_eq_true rfl, Nat.le_of_ble_eq_true rfl⟩) (Nat.le_of_ble_eq_true rfl) dX10_getOr_23 rfl ⟨Nat.le_of_ble_eq_true rfl, Nat.le_of_ble_eq_true rfl⟩ (fun r7 hw => ?_)
        try dsimp only at hw
        refine lv_if_ne (tgt := 31) hx hb dX10_getOr_26 (by decide) (fun c8 => ?_) (fun c8 => ?_)
        · have hw := hw.1 c8
          try dsimp only at hw
          refine lv_aload_n hx hb dX10_getOr_31 rfl (lv_at hl 0 rfl) ?_
          refine lv_iload_n hx hb dX10_getOr_32 rfl (lv_at hl 2 rfl) ?_
          refine g_calli (cw0 := fun M => rcells cI cZ ad M Y) (M := M) (As := [.int a2]) (rest := []) C0 hW hl.1 (k_hasNothing (l := l) _ a2 _ hw) (cwV 1 hts gX10_getOr_X10_hasNothing rfl rfl rfl (by decide +kernel) ⟨Nat.le_of_ble_eq_true rfl, Nat.le_of_ble_eq_true rfl⟩) (r_recv C0 hW) (Nat.le_of_ble_eq_true rfl) dX10_getOr_33 rfl ⟨Nat.le_of_ble_eq_true rfl, Nat.le_of_ble_eq_true rfl⟩ (fun r10 M9 H locs hw hW => ?_)
          try dsimp only at hw
          refine lv_if_eq (tgt := 44) hx hb dX10_getOr_36 (by decide) (fun c11 => ?_) (fun c11 => ?_)
          · have hw := hw.1 c11
            try dsimp only at hw
            refine lv_aload_n hx hb dX10_getOr_44 rfl (lv_at hl 0 rfl) ?_
            refine lv_iload_n hx hb dX10_getOr_45 rfl (lv_at hl 1 rfl) ?_
            refine lv_iload_n hx hb dX10_getOr_46 rfl (lv_at hl 2 rfl) ?_
            refine g_calls (As := [.int a2]) (rest := [.int a1, .ref (ad 0)]) ⟨hx, hb, hml, ho, hts⟩ hl.1 (k_at (l := l) _ a2 hw) (va_cwS 1 hts gX10_getOr_X10_at rfl rfl rfl (by decide +kernel) ⟨Nat.le_of_ble_eq_true rfl, Nat.le_of_ble_eq_true rfl⟩) (Nat.le_of_ble_eq_true rfl) dX10_getOr_47 rfl ⟨Nat.le_of_ble_eq_true rfl, Nat.le_of_ble_eq_true rfl⟩ (fun r12 hw => ?_)
            try dsimp only at hw
            refine g_calli (cw0 := fun M => rcells cI cZ ad M Y) (M := M9) (As := [.int a1, .int r12]) (rest := []) C0 hW hl.1 (k_layerWith (l := l) _ a1 r12 _ hw) (cwV 2 hts gX10_getOr_X10_layerWith rfl rfl rfl (by decide +kernel) ⟨Nat.le_of_ble_eq_true rfl, Nat.le_of_ble_eq_true rfl⟩) (r_recv C0 hW) (Nat.le_of_ble_eq_true rfl) dX10_getOr_50 rfl ⟨Nat.le_of_ble_eq_true rfl, Nat.le_of_ble_eq_true rfl⟩ (fun r14 M13 H locs hw hW => ?_)
            try dsimp only at hw
            refine lv_istore (lv' := [(5, .int r14), (0, .ref (ad 0)), (1, .int a1), (2, .int a2), (3, .int a3), (4, .int a4)]) hx hb dX10_getOr_53 hl (by decide) rfl (fun ls hl => ?_)
            refine lv_iload hx hb dX10_getOr_55 (lv_at hl 0 rfl) ?_
            refine lv_bipush (v := (-5)) hx hb dX10_getOr_57 (by decide) ?_
            refine lv_icmp_eq (tgt := 75) hx hb dX10_getOr_59 (by decide) (fun c15 => ?_) (fun c15 => ?_)
            · have hw := hw.1 c15
              try dsimp only at hw
              refine lv_aload_n hx hb dX10_getOr_75 rfl (lv_at hl 1 rfl) ?_
              refine lv_iload_n hx hb dX10_getOr_76 rfl (lv_at hl 4 rfl) ?_
              refine g_calli (cw0 := fun M => rcells cI cZ ad M Y) (M := M13) (As := [.int a3]) (rest := []) C0 hW hl.1 (k_hasNothing (l := l) _ a3 _ hw) (cwV 1 hts gX10_getOr_X10_hasNothing rfl rfl rfl (by decide +kernel) ⟨Nat.le_of_ble_eq_true rfl, Nat.le_of_ble_eq_true rfl⟩) (r_recv C0 hW) (Nat.le_of_ble_eq_true rfl) dX10_getOr_77 rfl ⟨Nat.le_of_ble_eq_true rfl, Nat.le_of_ble_eq_true rfl⟩ (fun r17 M16 H locs hw hW => ?_)
              try dsimp only at hw
              refine lv_if_eq (tgt := 86) hx hb dX10_getOr_80 (by decide) (fun c18 => ?_) (fun c18 => ?_)
              · have hw := hw.1 c18
                try dsimp only at hw
                refine lv_aload_n hx hb dX10_getOr_86 rfl (lv_at hl 1 rfl) ?_
                refine lv_iload_n hx hb dX10_getOr_87 rfl (lv_at hl 4 rfl) ?_
                refine g_calls (As := [.int a3]) (rest := [.ref (ad 0)]) ⟨hx, hb, hml, ho, hts⟩ hl.1 (k_at (l := l) _ a3 hw) (va_cwS 1 hts gX10_getOr_X10_at rfl rfl rfl (by decide +kernel) ⟨Nat.le_of_ble_eq_true rfl, Nat.le_of_ble_eq_true rfl⟩) (Nat.le_of_ble_eq_true rfl) dX10_getOr_88 rfl ⟨Nat.le_of_ble_eq_true rfl, Nat.le_of_ble_eq_true rfl⟩ (fun r19 hw => ?_)
                try dsimp only at hw
                refine lv_iload hx hb dX10_getOr_91 (lv_at hl 5 rfl) ?_
                refine g_calls (As := [.int a4]) (rest := [.int r19, .ref (ad 0)]) ⟨hx, hb, hml, ho, hts⟩ hl.1 (k_at (l := l) _ a4 hw) (va_cwS 1 hts gX10_getOr_X10_at rfl rfl rfl (by decide +kernel) ⟨Nat.le_of_ble_eq_true rfl, Nat.le_of_ble_eq_true rfl⟩) (Nat.le_of_ble_eq_true rfl) dX10_getOr_93 rfl ⟨Nat.le_of_ble_eq_true rfl, Nat.le_of_ble_eq_true rfl⟩ (fun r20 hw => ?_)
                try dsimp only at hw
                refine g_callv (cw0 := fun M => rcells cI cZ ad M Y) (M := M16) (As := [.int r19, .int r20]) (rest := []) C0 hW hl.1 (k_copyText (l := l) _ r19 r20 _ hw) (cwV 2 hts gX10_getOr_X10_copyText rfl rfl rfl (by decide +kernel) ⟨Nat.le_of_ble_eq_true rfl, Nat.le_of_ble_eq_true rfl⟩) (r_recv C0 hW) (Nat.le_of_ble_eq_true rfl) dX10_getOr_96 rfl ⟨Nat.le_of_ble_eq_true rfl, Nat.le_of_ble_eq_true rfl⟩ (fun M21 H locs hw hW => ?_)
                try dsimp only at hw
                refine lv_aload_n hx hb dX10_getOr_99 rfl (lv_at hl 1 rfl) ?_
                refine r_get C0 hin hW 0 (by decide) (v := .ref (ad 1)) rfl (List.mem_of_getElem? (i := 1) rfl) rfl dX10_getOr_100 ?_
                refine lv_iload hx hb dX10_getOr_103 (lv_at hl 5 rfl) ?_
                refine g_calls (As := [.int a4]) (rest := [.ref (ad 1)]) ⟨hx, hb, hml, ho, hts⟩ hl.1 (k_at (l := l) _ a4 hw) (va_cwS 1 hts gX10_getOr_X10_at rfl rfl rfl (by decide +kernel) ⟨Nat.le_of_ble_eq_true rfl, Nat.le_of_ble_eq_true rfl⟩) (Nat.le_of_ble_eq_true rfl) dX10_getOr_105 rfl ⟨Nat.le_of_ble_eq_true rfl, Nat.le_of_ble_eq_true rfl⟩ (fun r22 hw => ?_)
                try dsimp only at hw
                obtain ⟨h23, hw⟩ := hw
                refine r_iald C0 hW 1 rfl rfl h23 dX10_getOr_108 ?_
                exact hret (M21 1 r22.toNatClampNeg) M21 _ _ 0 0 (Nat.le_refl _) (Nat.le_refl _) hw rfl dX10_getOr_109 _ _ _ hW hl
              · have hw := hw.2 c18
                try dsimp only at hw
                refine lv_bipush (v := (-2)) hx hb dX10_getOr_83 (by decide) ?_
                exact hret (-2) M16 _ _ 0 0 (Nat.le_refl _) (Nat.le_refl _) hw rfl dX10_getOr_85 _ _ _ hW hl
            · have hw := hw.2 c15
              try dsimp only at hw
              refine lv_aload_n hx hb dX10_getOr_62 rfl (lv_at hl 1 rfl) ?_
              refine lv_iload hx hb dX10_getOr_63 (lv_at hl 0 rfl) ?_
              refine lv_iload_n hx hb dX10_getOr_65 rfl (lv_at hl 3 rfl) ?_
              refine g_calls (As := [.int a2]) (rest := [.int r14, .ref (ad 0)]) ⟨hx, hb, hml, ho, hts⟩ hl.1 (k_at (l := l) _ a2 hw) (va_cwS 1 hts gX10_getOr_X10_at rfl rfl rfl (by decide +kernel) ⟨Nat.le_of_ble_eq_true rfl, Nat.le_of_ble_eq_true rfl⟩) (Nat.le_of_ble_eq_true rfl) dX10_getOr_66 rfl ⟨Nat.le_of_ble_eq_true rfl, Nat.le_of_ble_eq_true rfl⟩ (fun r24 hw => ?_)
              try dsimp only at hw
              refine lv_iload hx hb dX10_getOr_69 (lv_at hl 5 rfl) ?_
              refine g_calli (cw0 := fun M => rcells cI cZ ad M Y) (M := M13) (As := [.int r14, .int r24, .int a4]) (rest := []) C0 hW hl.1 (k_layValue (l := l) _ r14 r24 a4 _ hw) (cwV 3 hts gX10_getOr_X10_layValue rfl rfl rfl (by decide +kernel) ⟨Nat.le_of_ble_eq_true rfl, Nat.le_of_ble_eq_true rfl⟩) (r_recv C0 hW) (Nat.le_of_ble_eq_true rfl) dX10_getOr_71 rfl ⟨Nat.le_of_ble_eq_true rfl, Nat.le_of_ble_eq_true rfl⟩ (fun r26 M25 H locs hw hW => ?_)
              try dsimp only at hw
              exact hret r26 M25 _ _ 0 0 (Nat.le_refl _) (Nat.le_refl _) hw rfl dX10_getOr_74 _ _ _ hW hl
          · have hw := hw.2 c11
            try dsimp only at hw
            refine lv_aload_n hx hb dX10_getOr_39 rfl (lv_at hl 0 rfl) ?_
            refine g_calli (cw0 := fun M => rcells cI cZ ad M Y) (M := M9) (As := []) (rest := []) C0 hW hl.1 (k_refusedNull (l := l) _  _ hw) (cwV 0 hts gX10_getOr_X10_refusedNull rfl rfl rfl (by decide +kernel) ⟨Nat.le_of_ble_eq_true rfl, Nat.le_of_ble_eq_true rfl⟩) (r_recv C0 hW) (Nat.le_of_ble_eq_true rfl) dX10_getOr_40 rfl ⟨Nat.le_of_ble_eq_true rfl, Nat.le_of_ble_eq_true rfl⟩ (fun r28 M27 H locs hw hW => ?_)
            try dsimp only at hw
            exact hret r28 M27 _ _ 0 0 (Nat.le_refl _) (Nat.le_refl _) hw rfl dX10_getOr_43 _ _ _ hW hl
        · have hw := hw.2 c8
          try dsimp only at hw
          refine lv_iconst (v := (-1)) hx hb dX10_getOr_29 (by decide) ?_
          exact hret (-1) M _ _ 0 0 (Nat.le_refl _) (Nat.le_refl _) hw rfl dX10_getOr_30 _ _ _ hW hl
set_option maxHeartbeats 4000000 in
set_option maxRecDepth 100000 in
theorem k_getOr {l : Launch} {D : va_G} {cI cZ : ClassId} {ty' : List (ClassId × FieldType)} {ad : Nat → Nat} {Y : va_W} {sz : Nat} (post : Int32 → RM → Prop) (a1 a2 a3 a4 : Int32) (M : RM) (hw : w_getOr post a1 a2 a3 a4 M) : gMi l yX10_getOr wsX10_getOr rm_getOr D ((cI, .int) :: (cZ, .boolean) :: ty') sz (fun M => rcells cI cZ ad M Y) M [.ref (ad 0), .int a1, .int a2, .int a3, .int a4] post 0 0 := by
  refine gMi_of (cc := cX10_getOr) (nL := 6) (ty := .int) (own := RX10) (by decide) rfl rfl (Nat.le_of_ble_eq_true rfl) ?_
  intro p e s m args below meth c A Q C0 hret
  exact t_getOr_0 C0 post hret a1 a2 a3 a4 M hw
abbrev rm_has : Room := { frames := 3, cells := 0, slots := 0, locals := 70 }
theorem in_has : ∀ w ∈ wsX100, w ∈ wsX10_has := fun w hw => List.mem_cons_of_mem _ (List.mem_append_right _ hw)
set_option maxHeartbeats 4000000 in
set_option maxRecDepth 100000 in
theorem t_has_0 (C0 : rX p s m args c cX10_has 3 RX10 wsX10_has D ((cI, .int) :: (cZ, .boolean) :: ty') A) (post : Int32 → RM → Prop) (hret : ∀ (r : Int32) (M' : RM) (pc : Nat) (lv : List (Nat × Value)) (k n : Nat), k ≤ 0 → n ≤ 0 → post r M' → narrow .int (.int r) = .int r → decode cX10_has pc = .ok (.ireturn, 1) → gG p l e rm_has s m args below meth c Q D A 3 k n (rcells cI cZ ad M' Y) pc lv [.int r])  : ∀  (a1 a2 : Int32) (M : RM), w_has post   a1 a2 M → gG p l e rm_has s m args below meth c Q D A 3 0 0 (rcells cI cZ ad M Y) 0 [(0, .ref (ad 0)), (1, .int a1), (2, .int a2)] [] := by
  obtain ⟨hx, hb, hml, ho, hts, hK, hA⟩ := id C0
  have hin := in_has
  intro a1 a2 M hw H locs ls hW hl
  rw [w_has] at hw
  refine lv_iload_n hx hb dX10_has_0 rfl (lv_at hl 1 rfl) ?_
  refine g_calls (As := [.int a1]) (rest := []) ⟨hx, hb, hml, ho, hts⟩ hl.1 (k_isLayer (l := l) _ a1 hw) (va_cwS 1 hts gX10_has_X10_isLayer rfl rfl rfl (by decide +kernel) ⟨Nat.le_of_ble_eq_true rfl, Nat.le_of_ble_eq_true rfl⟩) (Nat.le_of_ble_eq_true rfl) dX10_has_1 rfl ⟨Nat.le_of_ble_eq_true rfl, Nat.le_of_ble_eq_true rfl⟩ (fun r1 hw => ?_)
  try dsimp only at hw
  refine lv_if_eq (tgt := 14) hx hb dX10_has_4 (by decide) (fun c2 => ?_) (fun c2 => ?_)
  · have hw := hw.1 c2
    try dsimp only at hw
    refine lv_iconst (v := (-1)) hx hb dX10_has_14 (by decide) ?_
    exact hret (-1) M _ _ 0 0 (Nat.le_refl _) (Nat.le_refl _) hw rfl dX10_has_15 _ _ _ hW hl
  · have hw := hw.2 c2
    try dsimp only at hw
    refine lv_iload_n hx hb dX10_has_7 rfl (lv_at hl 2 rfl) ?_
    refine g_calls (As := [.int a2]) (rest := []) ⟨hx, hb, hml, ho, hts⟩ hl.1 (k_isSlot (l := l) _ a2 hw) (va_cwS 1 hts gX10_has_X10_isSlot rfl rfl rfl (by decide +kernel) ⟨Nat.le_of_ble_eq_true rfl, Nat.le_of_ble_eq_true rfl⟩) (Nat.le_of_ble_eq_true rfl) dX10_has_8 rfl ⟨Nat.le_of_ble_eq_true rfl, Nat.le_of_ble_eq_true rfl⟩ (fun r3 hw => ?_)
    try dsimp only at hw
    refine lv_if_ne (tgt := 16) hx hb dX10_has_11 (by decide) (fun c4 => ?_) (fun c4 => ?_)
    · have hw := hw.1 c4
      try dsimp only at hw
      refine lv_aload_n hx hb dX10_has_16 rfl (lv_at hl 0 rfl) ?_
      refine lv_iload_n hx hb dX10_has_17 rfl (lv_at hl 2 rfl) ?_
      refine g_calli (cw0 := fun M => rcells cI cZ ad M Y) (M := M) (As := [.int a2]) (rest := []) C0 hW hl.1 (k_hasNothing (l := l) _ a2 _ hw) (cwV 1 hts gX10_has_X10_hasNothing rfl rfl rfl (by decide +kernel) ⟨Nat.le_of_ble_eq_true rfl, Nat.le_of_ble_eq_true rfl⟩) (r_recv C0 hW) (Nat.le_of_ble_eq_true rfl) dX10_has_18 rfl ⟨Nat.le_of_ble_eq_true rfl, Nat.le_of_ble_eq_true rfl⟩ (fun r6 M5 H locs hw hW => ?_)
      try dsimp only at hw
      refine lv_if_eq (tgt := 31) hx hb dX10_has_21 (by decide) (fun c7 => ?_) (fun c7 => ?_)
      · have hw := hw.1 c7
        try dsimp only at hw
        refine lv_aload_n hx hb dX10_has_31 rfl (lv_at hl 0 rfl) ?_
        refine lv_iload_n hx hb dX10_has_32 rfl (lv_at hl 1 rfl) ?_
        refine lv_iload_n hx hb dX10_has_33 rfl (lv_at hl 2 rfl) ?_
        refine g_calls (As := [.int a2]) (rest := [.int a1, .ref (ad 0)]) ⟨hx, hb, hml, ho, hts⟩ hl.1 (k_at (l := l) _ a2 hw) (va_cwS 1 hts gX10_has_X10_at rfl rfl rfl (by decide +kernel) ⟨Nat.le_of_ble_eq_true rfl, Nat.le_of_ble_eq_true rfl⟩) (Nat.le_of_ble_eq_true rfl) dX10_has_34 rfl ⟨Nat.le_of_ble_eq_true rfl, Nat.le_of_ble_eq_true rfl⟩ (fun r8 hw => ?_)
        try dsimp only at hw
        refine g_calli (cw0 := fun M => rcells cI cZ ad M Y) (M := M5) (As := [.int a1, .int r8]) (rest := []) C0 hW hl.1 (k_find (l := l) _ a1 r8 _ hw) (cwV 2 hts gX10_has_X10_find rfl rfl rfl (by decide +kernel) ⟨Nat.le_of_ble_eq_true rfl, Nat.le_of_ble_eq_true rfl⟩) (r_recv C0 hW) (Nat.le_of_ble_eq_true rfl) dX10_has_37 rfl ⟨Nat.le_of_ble_eq_true rfl, Nat.le_of_ble_eq_true rfl⟩ (fun r10 M9 H locs hw hW => ?_)
        try dsimp only at hw
        refine lv_bipush (v := (-5)) hx hb dX10_has_40 (by decide) ?_
        refine lv_icmp_ne (tgt := 49) hx hb dX10_has_42 (by decide) (fun c11 => ?_) (fun c11 => ?_)
        · have hw := hw.1 c11
          try dsimp only at hw
          refine lv_iconst (v := 1) hx hb dX10_has_49 (by decide) ?_
          exact hret 1 M9 _ _ 0 0 (Nat.le_refl _) (Nat.le_refl _) hw rfl dX10_has_50 _ _ _ hW hl
        · have hw := hw.2 c11
          try dsimp only at hw
          refine lv_iconst (v := 0) hx hb dX10_has_45 (by decide) ?_
          refine lv_goto (tgt := 50) hx hb dX10_has_46 (by decide) ?_
          exact hret 0 M9 _ _ 0 0 (Nat.le_refl _) (Nat.le_refl _) hw rfl dX10_has_50 _ _ _ hW hl
      · have hw := hw.2 c7
        try dsimp only at hw
        refine lv_aload_n hx hb dX10_has_24 rfl (lv_at hl 0 rfl) ?_
        refine g_calli (cw0 := fun M => rcells cI cZ ad M Y) (M := M5) (As := []) (rest := []) C0 hW hl.1 (k_refusedNull (l := l) _  _ hw) (cwV 0 hts gX10_has_X10_refusedNull rfl rfl rfl (by decide +kernel) ⟨Nat.le_of_ble_eq_true rfl, Nat.le_of_ble_eq_true rfl⟩) (r_recv C0 hW) (Nat.le_of_ble_eq_true rfl) dX10_has_25 rfl ⟨Nat.le_of_ble_eq_true rfl, Nat.le_of_ble_eq_true rfl⟩ (fun r13 M12 H locs hw hW => ?_)
        try dsimp only at hw
        refine lv_goto (tgt := 50) hx hb dX10_has_28 (by decide) ?_
        exact hret r13 M12 _ _ 0 0 (Nat.le_refl _) (Nat.le_refl _) hw rfl dX10_has_50 _ _ _ hW hl
    · have hw := hw.2 c4
      try dsimp only at hw
      refine lv_iconst (v := (-1)) hx hb dX10_has_14 (by decide) ?_
      exact hret (-1) M _ _ 0 0 (Nat.le_refl _) (Nat.le_refl _) hw rfl dX10_has_15 _ _ _ hW hl
set_option maxHeartbeats 4000000 in
set_option maxRecDepth 100000 in
theorem k_has {l : Launch} {D : va_G} {cI cZ : ClassId} {ty' : List (ClassId × FieldType)} {ad : Nat → Nat} {Y : va_W} {sz : Nat} (post : Int32 → RM → Prop) (a1 a2 : Int32) (M : RM) (hw : w_has post a1 a2 M) : gMi l yX10_has wsX10_has rm_has D ((cI, .int) :: (cZ, .boolean) :: ty') sz (fun M => rcells cI cZ ad M Y) M [.ref (ad 0), .int a1, .int a2] post 0 0 := by
  refine gMi_of (cc := cX10_has) (nL := 3) (ty := .int) (own := RX10) (by decide) rfl rfl (Nat.le_of_ble_eq_true rfl) ?_
  intro p e s m args below meth c A Q C0 hret
  exact t_has_0 C0 post hret a1 a2 M hw
abbrev rm_layerOf : Room := { frames := 4, cells := 0, slots := 0, locals := 93 }
theorem in_layerOf : ∀ w ∈ wsX100, w ∈ wsX10_layerOf := fun w hw => List.mem_cons_of_mem _ (List.mem_append_right _ hw)
set_option maxHeartbeats 4000000 in
set_option maxRecDepth 100000 in
theorem t_layerOf_0 (C0 : rX p s m args c cX10_layerOf 3 RX10 wsX10_layerOf D ((cI, .int) :: (cZ, .boolean) :: ty') A) (post : Int32 → RM → Prop) (hret : ∀ (r : Int32) (M' : RM) (pc : Nat) (lv : List (Nat × Value)) (k n : Nat), k ≤ 0 → n ≤ 0 → post r M' → narrow .int (.int r) = .int r → decode cX10_layerOf pc = .ok (.ireturn, 1) → gG p l e rm_layerOf s m args below meth c Q D A 3 k n (rcells cI cZ ad M' Y) pc lv [.int r])  : ∀  (a1 a2 : Int32) (M : RM), w_layerOf post   a1 a2 M → gG p l e rm_layerOf s m args below meth c Q D A 3 0 0 (rcells cI cZ ad M Y) 0 [(0, .ref (ad 0)), (1, .int a1), (2, .int a2)] [] := by
  obtain ⟨hx, hb, hml, ho, hts, hK, hA⟩ := id C0
  have hin := in_layerOf
  intro a1 a2 M hw H locs ls hW hl
  rw [w_layerOf] at hw
  refine lv_iload_n hx hb dX10_layerOf_0 rfl (lv_at hl 1 rfl) ?_
  refine g_calls (As := [.int a1]) (rest := []) ⟨hx, hb, hml, ho, hts⟩ hl.1 (k_isLayer (l := l) _ a1 hw) (va_cwS 1 hts gX10_layerOf_X10_isLayer rfl rfl rfl (by decide +kernel) ⟨Nat.le_of_ble_eq_true rfl, Nat.le_of_ble_eq_true rfl⟩) (Nat.le_of_ble_eq_true rfl) dX10_layerOf_1 rfl ⟨Nat.le_of_ble_eq_true rfl, Nat.le_of_ble_eq_true rfl⟩ (fun r1 hw => ?_)
  try dsimp only at hw
  refine lv_if_eq (tgt := 14) hx hb dX10_layerOf_4 (by decide) (fun c2 => ?_) (fun c2 => ?_)
  · have hw := hw.1 c2
    try dsimp only at hw
    refine lv_iconst (v := (-1)) hx hb dX10_layerOf_14 (by decide) ?_
    exact hret (-1) M _ _ 0 0 (Nat.le_refl _) (Nat.le_refl _) hw rfl dX10_layerOf_15 _ _ _ hW hl
  · have hw := hw.2 c2
    try dsimp only at hw
    refine lv_iload_n hx hb dX10_layerOf_7 rfl (lv_at hl 2 rfl) ?_
    refine g_calls (As := [.int a2]) (rest := []) ⟨hx, hb, hml, ho, hts⟩ hl.1 (k_isSlot (l := l) _ a2 hw) (va_cwS 1 hts gX10_layerOf_X10_isSlot rfl rfl rfl (by decide +kernel) ⟨Nat.le_of_ble_eq_true rfl, Nat.le_of_ble_eq_true rfl⟩) (Nat.le_of_ble_eq_true rfl) dX10_layerOf_8 rfl ⟨Nat.le_of_ble_eq_true rfl, Nat.le_of_ble_eq_true rfl⟩ (fun r3 hw => ?_)
    try dsimp only at hw
    refine lv_if_ne (tgt := 16) hx hb dX10_layerOf_11 (by decide) (fun c4 => ?_) (fun c4 => ?_)
    · have hw := hw.1 c4
      try dsimp only at hw
      refine lv_aload_n hx hb dX10_layerOf_16 rfl (lv_at hl 0 rfl) ?_
      refine lv_iload_n hx hb dX10_layerOf_17 rfl (lv_at hl 2 rfl) ?_
      refine g_calli (cw0 := fun M => rcells cI cZ ad M Y) (M := M) (As := [.int a2]) (rest := []) C0 hW hl.1 (k_hasNothing (l := l) _ a2 _ hw) (cwV 1 hts gX10_layerOf_X10_hasNothing rfl rfl rfl (by decide +kernel) ⟨Nat.le_of_ble_eq_true rfl, Nat.le_of_ble_eq_true rfl⟩) (r_recv C0 hW) (Nat.le_of_ble_eq_true rfl) dX10_layerOf_18 rfl ⟨Nat.le_of_ble_eq_true rfl, Nat.le_of_ble_eq_true rfl⟩ (fun r6 M5 H locs hw hW => ?_)
      try dsimp only at hw
      refine lv_if_eq (tgt := 31) hx hb dX10_layerOf_21 (by decide) (fun c7 => ?_) (fun c7 => ?_)
      · have hw := hw.1 c7
        try dsimp only at hw
        refine lv_aload_n hx hb dX10_layerOf_31 rfl (lv_at hl 0 rfl) ?_
        refine lv_iload_n hx hb dX10_layerOf_32 rfl (lv_at hl 1 rfl) ?_
        refine lv_iload_n hx hb dX10_layerOf_33 rfl (lv_at hl 2 rfl) ?_
        refine g_calls (As := [.int a2]) (rest := [.int a1, .ref (ad 0)]) ⟨hx, hb, hml, ho, hts⟩ hl.1 (k_at (l := l) _ a2 hw) (va_cwS 1 hts gX10_layerOf_X10_at rfl rfl rfl (by decide +kernel) ⟨Nat.le_of_ble_eq_true rfl, Nat.le_of_ble_eq_true rfl⟩) (Nat.le_of_ble_eq_true rfl) dX10_layerOf_34 rfl ⟨Nat.le_of_ble_eq_true rfl, Nat.le_of_ble_eq_true rfl⟩ (fun r8 hw => ?_)
        try dsimp only at hw
        refine g_calli (cw0 := fun M => rcells cI cZ ad M Y) (M := M5) (As := [.int a1, .int r8]) (rest := []) C0 hW hl.1 (k_layerWith (l := l) _ a1 r8 _ hw) (cwV 2 hts gX10_layerOf_X10_layerWith rfl rfl rfl (by decide +kernel) ⟨Nat.le_of_ble_eq_true rfl, Nat.le_of_ble_eq_true rfl⟩) (r_recv C0 hW) (Nat.le_of_ble_eq_true rfl) dX10_layerOf_37 rfl ⟨Nat.le_of_ble_eq_true rfl, Nat.le_of_ble_eq_true rfl⟩ (fun r10 M9 H locs hw hW => ?_)
        try dsimp only at hw
        exact hret r10 M9 _ _ 0 0 (Nat.le_refl _) (Nat.le_refl _) hw rfl dX10_layerOf_40 _ _ _ hW hl
      · have hw := hw.2 c7
        try dsimp only at hw
        refine lv_aload_n hx hb dX10_layerOf_24 rfl (lv_at hl 0 rfl) ?_
        refine g_calli (cw0 := fun M => rcells cI cZ ad M Y) (M := M5) (As := []) (rest := []) C0 hW hl.1 (k_refusedNull (l := l) _  _ hw) (cwV 0 hts gX10_layerOf_X10_refusedNull rfl rfl rfl (by decide +kernel) ⟨Nat.le_of_ble_eq_true rfl, Nat.le_of_ble_eq_true rfl⟩) (r_recv C0 hW) (Nat.le_of_ble_eq_true rfl) dX10_layerOf_25 rfl ⟨Nat.le_of_ble_eq_true rfl, Nat.le_of_ble_eq_true rfl⟩ (fun r12 M11 H locs hw hW => ?_)
        try dsimp only at hw
        refine lv_goto (tgt := 40) hx hb dX10_layerOf_28 (by decide) ?_
        exact hret r12 M11 _ _ 0 0 (Nat.le_refl _) (Nat.le_refl _) hw rfl dX10_layerOf_40 _ _ _ hW hl
    · have hw := hw.2 c4
      try dsimp only at hw
      refine lv_iconst (v := (-1)) hx hb dX10_layerOf_14 (by decide) ?_
      exact hret (-1) M _ _ 0 0 (Nat.le_refl _) (Nat.le_refl _) hw rfl dX10_layerOf_15 _ _ _ hW hl
set_option maxHeartbeats 4000000 in
set_option maxRecDepth 100000 in
theorem k_layerOf {l : Launch} {D : va_G} {cI cZ : ClassId} {ty' : List (ClassId × FieldType)} {ad : Nat → Nat} {Y : va_W} {sz : Nat} (post : Int32 → RM → Prop) (a1 a2 : Int32) (M : RM) (hw : w_layerOf post a1 a2 M) : gMi l yX10_layerOf wsX10_layerOf rm_layerOf D ((cI, .int) :: (cZ, .boolean) :: ty') sz (fun M => rcells cI cZ ad M Y) M [.ref (ad 0), .int a1, .int a2] post 0 0 := by
  refine gMi_of (cc := cX10_layerOf) (nL := 3) (ty := .int) (own := RX10) (by decide) rfl rfl (Nat.le_of_ble_eq_true rfl) ?_
  intro p e s m args below meth c A Q C0 hret
  exact t_layerOf_0 C0 post hret a1 a2 M hw
abbrev rm_set : Room := { frames := 4, cells := 0, slots := 0, locals := 96 }
theorem in_set : ∀ w ∈ wsX100, w ∈ wsX10_set := fun w hw => List.mem_cons_of_mem _ (List.mem_append_right _ hw)
set_option maxHeartbeats 4000000 in
set_option maxRecDepth 100000 in
theorem t_set_146 (C0 : rX p s m args c cX10_set 6 RX10 wsX10_set D ((cI, .int) :: (cZ, .boolean) :: ty') A) (post : Int32 → RM → Prop) (hret : ∀ (r : Int32) (M' : RM) (pc : Nat) (lv : List (Nat × Value)) (k n : Nat), k ≤ 0 → n ≤ 0 → post r M' → narrow .int (.int r) = .int r → decode cX10_set pc = .ok (.ireturn, 1) → gG p l e rm_set s m args below meth c Q D A 6 k n (rcells cI cZ ad M' Y) pc lv [.int r])  : ∀  (x1 : Int32) (M : RM), w_set_146 post   x1 M → gG p l e rm_set s m args below meth c Q D A 6 0 0 (rcells cI cZ ad M Y) 146 [(0, .ref (ad 0)), (1, .int x1)] [] := by
  obtain ⟨hx, hb, hml, ho, hts, hK, hA⟩ := id C0
  have hin := in_set
  intro x1 M hw H locs ls hW hl
  rw [w_set_146] at hw
  refine lv_aload_n hx hb dX10_set_146 rfl (lv_at hl 0 rfl) ?_
  refine lv_iload_n hx hb dX10_set_147 rfl (lv_at hl 1 rfl) ?_
  refine lv_sipush (v := 1806) hx hb dX10_set_148 (by decide) ?_
  refine lv_sipush (v := 2107) hx hb dX10_set_151 (by decide) ?_
  refine g_calli (cw0 := fun M => rcells cI cZ ad M Y) (M := M) (As := [.int x1, .int 1806, .int 2107]) (rest := []) C0 hW hl.1 (k_put (l := l) _ x1 1806 2107 _ hw) (cwV 3 hts gX10_set_X10_put rfl rfl rfl (by decide +kernel) ⟨Nat.le_of_ble_eq_true rfl, Nat.le_of_ble_eq_true rfl⟩) (r_recv C0 hW) (Nat.le_of_ble_eq_true rfl) dX10_set_154 rfl ⟨Nat.le_of_ble_eq_true rfl, Nat.le_of_ble_eq_true rfl⟩ (fun r35 M34 H locs hw hW => ?_)
  try dsimp only at hw
  refine lv_pop hx hb dX10_set_157 rfl ?_
  refine lv_aload_n hx hb dX10_set_158 rfl (lv_at hl 0 rfl) ?_
  refine r_get C0 hin hW 1 (by decide) (v := .ref (ad 2)) rfl (List.mem_of_getElem? (i := 1) rfl) rfl dX10_set_159 ?_
  refine lv_iload_n hx hb dX10_set_162 rfl (lv_at hl 1 rfl) ?_
  obtain ⟨h36, hw⟩ := hw
  refine r_iald C0 hW 2 rfl rfl h36 dX10_set_163 ?_
  exact hret (M34 2 x1.toNatClampNeg) M34 _ _ 0 0 (Nat.le_refl _) (Nat.le_refl _) hw rfl dX10_set_164 _ _ _ hW hl
set_option maxHeartbeats 4000000 in
set_option maxRecDepth 100000 in
theorem t_set_87 (C0 : rX p s m args c cX10_set 6 RX10 wsX10_set D ((cI, .int) :: (cZ, .boolean) :: ty') A) (post : Int32 → RM → Prop) (hret : ∀ (r : Int32) (M' : RM) (pc : Nat) (lv : List (Nat × Value)) (k n : Nat), k ≤ 0 → n ≤ 0 → post r M' → narrow .int (.int r) = .int r → decode cX10_set pc = .ok (.ireturn, 1) → gG p l e rm_set s m args below meth c Q D A 6 k n (rcells cI cZ ad M' Y) pc lv [.int r])  : ∀  (x1 x2 x3 x4 x5 : Int32) (M : RM), w_set_87 post   x1 x2 x3 x4 x5 M → gG p l e rm_set s m args below meth c Q D A 6 0 0 (rcells cI cZ ad M Y) 87 [(0, .ref (ad 0)), (1, .int x1), (2, .int x2), (3, .int x3), (4, .int x4), (5, .int x5)] [] := by
  obtain ⟨hx, hb, hml, ho, hts, hK, hA⟩ := id C0
  have hin := in_set
  intro x1 x2 x3 x4 x5 M hw H locs ls hW hl
  rw [w_set_87] at hw
  refine lv_aload_n hx hb dX10_set_87 rfl (lv_at hl 0 rfl) ?_
  refine lv_iload_n hx hb dX10_set_88 rfl (lv_at hl 2 rfl) ?_
  refine g_calls (As := [.int x2]) (rest := [.ref (ad 0)]) ⟨hx, hb, hml, ho, hts⟩ hl.1 (k_at (l := l) _ x2 hw) (va_cwS 1 hts gX10_set_X10_at rfl rfl rfl (by decide +kernel) ⟨Nat.le_of_ble_eq_true rfl, Nat.le_of_ble_eq_true rfl⟩) (Nat.le_of_ble_eq_true rfl) dX10_set_89 rfl ⟨Nat.le_of_ble_eq_true rfl, Nat.le_of_ble_eq_true rfl⟩ (fun r23 hw => ?_)
  try dsimp only at hw
  refine lv_sipush (v := 1806) hx hb dX10_set_92 (by decide) ?_
  refine g_callv (cw0 := fun M => rcells cI cZ ad M Y) (M := M) (As := [.int r23, .int 1806]) (rest := []) C0 hW hl.1 (k_copyText (l := l) _ r23 1806 _ hw) (cwV 2 hts gX10_set_X10_copyText rfl rfl rfl (by decide +kernel) ⟨Nat.le_of_ble_eq_true rfl, Nat.le_of_ble_eq_true rfl⟩) (r_recv C0 hW) (Nat.le_of_ble_eq_true rfl) dX10_set_95 rfl ⟨Nat.le_of_ble_eq_true rfl, Nat.le_of_ble_eq_true rfl⟩ (fun M24 H locs hw hW => ?_)
  try dsimp only at hw
  refine lv_aload_n hx hb dX10_set_98 rfl (lv_at hl 0 rfl) ?_
  refine lv_iload_n hx hb dX10_set_99 rfl (lv_at hl 3 rfl) ?_
  refine g_calls (As := [.int x3]) (rest := [.ref (ad 0)]) ⟨hx, hb, hml, ho, hts⟩ hl.1 (k_at (l := l) _ x3 hw) (va_cwS 1 hts gX10_set_X10_at rfl rfl rfl (by decide +kernel) ⟨Nat.le_of_ble_eq_true rfl, Nat.le_of_ble_eq_true rfl⟩) (Nat.le_of_ble_eq_true rfl) dX10_set_100 rfl ⟨Nat.le_of_ble_eq_true rfl, Nat.le_of_ble_eq_true rfl⟩ (fun r25 hw => ?_)
  try dsimp only at hw
  refine lv_sipush (v := 2107) hx hb dX10_set_103 (by decide) ?_
  refine g_callv (cw0 := fun M => rcells cI cZ ad M Y) (M := M24) (As := [.int r25, .int 2107]) (rest := []) C0 hW hl.1 (k_copyText (l := l) _ r25 2107 _ hw) (cwV 2 hts gX10_set_X10_copyText rfl rfl rfl (by decide +kernel) ⟨Nat.le_of_ble_eq_true rfl, Nat.le_of_ble_eq_true rfl⟩) (r_recv C0 hW) (Nat.le_of_ble_eq_true rfl) dX10_set_106 rfl ⟨Nat.le_of_ble_eq_true rfl, Nat.le_of_ble_eq_true rfl⟩ (fun M26 H locs hw hW => ?_)
  try dsimp only at hw
  refine lv_iload hx hb dX10_set_109 (lv_at hl 5 rfl) ?_
  refine lv_bipush (v := (-5)) hx hb dX10_set_111 (by decide) ?_
  refine lv_icmp_ne (tgt := 131) hx hb dX10_set_113 (by decide) (fun c27 => ?_) (fun c27 => ?_)
  · have hw := hw.1 c27
    try dsimp only at hw
    refine lv_aload_n hx hb dX10_set_131 rfl (lv_at hl 0 rfl) ?_
    refine lv_iload_n hx hb dX10_set_132 rfl (lv_at hl 1 rfl) ?_
    refine lv_iload hx hb dX10_set_133 (lv_at hl 5 rfl) ?_
    refine g_calls (As := [.int x1, .int x5]) (rest := [.ref (ad 0)]) ⟨hx, hb, hml, ho, hts⟩ hl.1 (k_valueOf (l := l) _ x1 x5 hw) (va_cwS 2 hts gX10_set_X10_valueOf rfl rfl rfl (by decide +kernel) ⟨Nat.le_of_ble_eq_true rfl, Nat.le_of_ble_eq_true rfl⟩) (Nat.le_of_ble_eq_true rfl) dX10_set_135 rfl ⟨Nat.le_of_ble_eq_true rfl, Nat.le_of_ble_eq_true rfl⟩ (fun r28 hw => ?_)
    try dsimp only at hw
    refine lv_iload hx hb dX10_set_138 (lv_at hl 4 rfl) ?_
    refine g_calls (As := [.int x4]) (rest := [.int r28, .ref (ad 0)]) ⟨hx, hb, hml, ho, hts⟩ hl.1 (k_at (l := l) _ x4 hw) (va_cwS 1 hts gX10_set_X10_at rfl rfl rfl (by decide +kernel) ⟨Nat.le_of_ble_eq_true rfl, Nat.le_of_ble_eq_true rfl⟩) (Nat.le_of_ble_eq_true rfl) dX10_set_140 rfl ⟨Nat.le_of_ble_eq_true rfl, Nat.le_of_ble_eq_true rfl⟩ (fun r29 hw => ?_)
    try dsimp only at hw
    refine g_callv (cw0 := fun M => rcells cI cZ ad M Y) (M := M26) (As := [.int r28, .int r29]) (rest := []) C0 hW hl.1 (k_copyText (l := l) _ r28 r29 _ hw) (cwV 2 hts gX10_set_X10_copyText rfl rfl rfl (by decide +kernel) ⟨Nat.le_of_ble_eq_true rfl, Nat.le_of_ble_eq_true rfl⟩) (r_recv C0 hW) (Nat.le_of_ble_eq_true rfl) dX10_set_143 rfl ⟨Nat.le_of_ble_eq_true rfl, Nat.le_of_ble_eq_true rfl⟩ (fun M30 H locs hw hW => ?_)
    try dsimp only at hw
    exact t_set_146 C0 post hret  x1 M30 hw _ _ _ hW (lv_sub hl [0, 1] rfl)
  · have hw := hw.2 c27
    try dsimp only at hw
    refine lv_aload_n hx hb dX10_set_116 rfl (lv_at hl 0 rfl) ?_
    refine r_get C0 hin hW 0 (by decide) (v := .ref (ad 1)) rfl (List.mem_of_getElem? (i := 2) rfl) rfl dX10_set_117 ?_
    refine lv_iload hx hb dX10_set_120 (lv_at hl 4 rfl) ?_
    refine g_calls (As := [.int x4]) (rest := [.ref (ad 1)]) ⟨hx, hb, hml, ho, hts⟩ hl.1 (k_at (l := l) _ x4 hw) (va_cwS 1 hts gX10_set_X10_at rfl rfl rfl (by decide +kernel) ⟨Nat.le_of_ble_eq_true rfl, Nat.le_of_ble_eq_true rfl⟩) (Nat.le_of_ble_eq_true rfl) dX10_set_122 rfl ⟨Nat.le_of_ble_eq_true rfl, Nat.le_of_ble_eq_true rfl⟩ (fun r31 hw => ?_)
    try dsimp only at hw
    refine lv_bipush (v := (-5)) hx hb dX10_set_125 (by decide) ?_
    obtain ⟨h32, hw⟩ := hw
    refine r_iast C0 hW 1 rfl rfl h32 rfl dX10_set_127 (fun M33 H locs eM33 hW => ?_)
    have hw := hw M33 eM33
    refine lv_goto (tgt := 146) hx hb dX10_set_128 (by decide) ?_
    exact t_set_146 C0 post hret  x1 M33 hw _ _ _ hW (lv_sub hl [0, 1] rfl)
set_option maxHeartbeats 4000000 in
set_option maxRecDepth 100000 in
theorem t_set_0 (C0 : rX p s m args c cX10_set 6 RX10 wsX10_set D ((cI, .int) :: (cZ, .boolean) :: ty') A) (post : Int32 → RM → Prop) (hret : ∀ (r : Int32) (M' : RM) (pc : Nat) (lv : List (Nat × Value)) (k n : Nat), k ≤ 0 → n ≤ 0 → post r M' → narrow .int (.int r) = .int r → decode cX10_set pc = .ok (.ireturn, 1) → gG p l e rm_set s m args below meth c Q D A 6 k n (rcells cI cZ ad M' Y) pc lv [.int r])  : ∀  (a1 a2 a3 a4 : Int32) (M : RM), w_set post   a1 a2 a3 a4 M → gG p l e rm_set s m args below meth c Q D A 6 0 0 (rcells cI cZ ad M Y) 0 [(0, .ref (ad 0)), (1, .int a1), (2, .int a2), (3, .int a3), (4, .int a4)] [] := by
  obtain ⟨hx, hb, hml, ho, hts, hK, hA⟩ := id C0
  have hin := in_set
  intro a1 a2 a3 a4 M hw H locs ls hW hl
  rw [w_set] at hw
  refine lv_iload_n hx hb dX10_set_0 rfl (lv_at hl 1 rfl) ?_
  refine g_calls (As := [.int a1]) (rest := []) ⟨hx, hb, hml, ho, hts⟩ hl.1 (k_isLayer (l := l) _ a1 hw) (va_cwS 1 hts gX10_set_X10_isLayer rfl rfl rfl (by decide +kernel) ⟨Nat.le_of_ble_eq_true rfl, Nat.le_of_ble_eq_true rfl⟩) (Nat.le_of_ble_eq_true rfl) dX10_set_1 rfl ⟨Nat.le_of_ble_eq_true rfl, Nat.le_of_ble_eq_true rfl⟩ (fun r1 hw => ?_)
  try dsimp only at hw
  refine lv_if_eq (tgt := 29) hx hb dX10_set_4 (by decide) (fun c2 => ?_) (fun c2 => ?_)
  · have hw := hw.1 c2
    try dsimp only at hw
    refine lv_iconst (v := (-1)) hx hb dX10_set_29 (by decide) ?_
    exact hret (-1) M _ _ 0 0 (Nat.le_refl _) (Nat.le_refl _) hw rfl dX10_set_30 _ _ _ hW hl
  · have hw := hw.2 c2
    try dsimp only at hw
    refine lv_iload_n hx hb dX10_set_7 rfl (lv_at hl 2 rfl) ?_
    refine g_calls (As := [.int a2]) (rest := []) ⟨hx, hb, hml, ho, hts⟩ hl.1 (k_isSlot (l := l) _ a2 hw) (va_cwS 1 hts gX10_set_X10_isSlot rfl rfl rfl (by decide +kernel) ⟨Nat.le_of_ble_eq_true rfl, Nat.le_of_ble_eq_true rfl⟩) (Nat.le_of_ble_eq_true rfl) dX10_set_8 rfl ⟨Nat.le_of_ble_eq_true rfl, Nat.le_of_ble_eq_true rfl⟩ (fun r3 hw => ?_)
    try dsimp only at hw
    refine lv_if_eq (tgt := 29) hx hb dX10_set_11 (by decide) (fun c4 => ?_) (fun c4 => ?_)
    · have hw := hw.1 c4
      try dsimp only at hw
      refine lv_iconst (v := (-1)) hx hb dX10_set_29 (by decide) ?_
      exact hret (-1) M _ _ 0 0 (Nat.le_refl _) (Nat.le_refl _) hw rfl dX10_set_30 _ _ _ hW hl
    · have hw := hw.2 c4
      try dsimp only at hw
      refine lv_iload_n hx hb dX10_set_14 rfl (lv_at hl 3 rfl) ?_
      refine g_calls (As := [.int a3]) (rest := []) ⟨hx, hb, hml, ho, hts⟩ hl.1 (k_isSlot (l := l) _ a3 hw) (va_cwS 1 hts gX10_set_X10_isSlot rfl rfl rfl (by decide +kernel) ⟨Nat.le_of_ble_eq_true rfl, Nat.le_of_ble_eq_true rfl⟩) (Nat.le_of_ble_eq_true rfl) dX10_set_15 rfl ⟨Nat.le_of_ble_eq_true rfl, Nat.le_of_ble_eq_true rfl⟩ (fun r5 hw => ?_)
      try dsimp only at hw
      refine lv_if_eq (tgt := 29) hx hb dX10_set_18 (by decide) (fun c6 => ?_) (fun c6 => ?_)
      · have hw := hw.1 c6
        try dsimp only at hw
        refine lv_iconst (v := (-1)) hx hb dX10_set_29 (by decide) ?_
        exact hret (-1) M _ _ 0 0 (Nat.le_refl _) (Nat.le_refl _) hw rfl dX10_set_30 _ _ _ hW hl
      · have hw := hw.2 c6
        try dsimp only at hw
        refine lv_iload hx hb dX10_set_21 (lv_at hl 4 rfl) ?_
        refine g_calls (As := [.int a4]) (rest := []) ⟨hx, hb, hml, ho, hts⟩ hl.1 (k_isSlot (l := l) _ a4 hw) (va_cwS 1 hts gX10_set_X10_isSlot rfl rfl rfl (by decide +kernel) ⟨Nat.le_of_ble_eq_true rfl, Nat.le_of_ble_eq_true rfl⟩) (Nat.le_of_ble_eq_true rfl) dX10_set_23 rfl ⟨Nat.le_of_ble_eq_true rfl, Nat.le_of_ble_eq_true rfl⟩ (fun r7 hw => ?_)
        try dsimp only at hw
        refine lv_if_ne (tgt := 31) hx hb dX10_set_26 (by decide) (fun c8 => ?_) (fun c8 => ?_)
        · have hw := hw.1 c8
          try dsimp only at hw
          refine lv_aload_n hx hb dX10_set_31 rfl (lv_at hl 0 rfl) ?_
          refine lv_iload_n hx hb dX10_set_32 rfl (lv_at hl 3 rfl) ?_
          refine g_calli (cw0 := fun M => rcells cI cZ ad M Y) (M := M) (As := [.int a3]) (rest := []) C0 hW hl.1 (k_hasNothing (l := l) _ a3 _ hw) (cwV 1 hts gX10_set_X10_hasNothing rfl rfl rfl (by decide +kernel) ⟨Nat.le_of_ble_eq_true rfl, Nat.le_of_ble_eq_true rfl⟩) (r_recv C0 hW) (Nat.le_of_ble_eq_true rfl) dX10_set_33 rfl ⟨Nat.le_of_ble_eq_true rfl, Nat.le_of_ble_eq_true rfl⟩ (fun r10 M9 H locs hw hW => ?_)
          try dsimp only at hw
          refine lv_if_eq (tgt := 42) hx hb dX10_set_36 (by decide) (fun c11 => ?_) (fun c11 => ?_)
          · have hw := hw.1 c11
            try dsimp only at hw
            refine lv_aload_n hx hb dX10_set_42 rfl (lv_at hl 0 rfl) ?_
            refine lv_iload_n hx hb dX10_set_43 rfl (lv_at hl 2 rfl) ?_
            refine g_calli (cw0 := fun M => rcells cI cZ ad M Y) (M := M9) (As := [.int a2]) (rest := []) C0 hW hl.1 (k_hasNothing (l := l) _ a2 _ hw) (cwV 1 hts gX10_set_X10_hasNothing rfl rfl rfl (by decide +kernel) ⟨Nat.le_of_ble_eq_true rfl, Nat.le_of_ble_eq_true rfl⟩) (r_recv C0 hW) (Nat.le_of_ble_eq_true rfl) dX10_set_44 rfl ⟨Nat.le_of_ble_eq_true rfl, Nat.le_of_ble_eq_true rfl⟩ (fun r13 M12 H locs hw hW => ?_)
            try dsimp only at hw
            refine lv_if_eq (tgt := 55) hx hb dX10_set_47 (by decide) (fun c14 => ?_) (fun c14 => ?_)
            · have hw := hw.1 c14
              try dsimp only at hw
              refine lv_aload_n hx hb dX10_set_55 rfl (lv_at hl 0 rfl) ?_
              refine lv_iload_n hx hb dX10_set_56 rfl (lv_at hl 1 rfl) ?_
              refine lv_iload_n hx hb dX10_set_57 rfl (lv_at hl 2 rfl) ?_
              refine g_calls (As := [.int a2]) (rest := [.int a1, .ref (ad 0)]) ⟨hx, hb, hml, ho, hts⟩ hl.1 (k_at (l := l) _ a2 hw) (va_cwS 1 hts gX10_set_X10_at rfl rfl rfl (by decide +kernel) ⟨Nat.le_of_ble_eq_true rfl, Nat.le_of_ble_eq_true rfl⟩) (Nat.le_of_ble_eq_true rfl) dX10_set_58 rfl ⟨Nat.le_of_ble_eq_true rfl, Nat.le_of_ble_eq_true rfl⟩ (fun r15 hw => ?_)
              try dsimp only at hw
              refine g_calli (cw0 := fun M => rcells cI cZ ad M Y) (M := M12) (As := [.int a1, .int r15]) (rest := []) C0 hW hl.1 (k_find (l := l) _ a1 r15 _ hw) (cwV 2 hts gX10_set_X10_find rfl rfl rfl (by decide +kernel) ⟨Nat.le_of_ble_eq_true rfl, Nat.le_of_ble_eq_true rfl⟩) (r_recv C0 hW) (Nat.le_of_ble_eq_true rfl) dX10_set_61 rfl ⟨Nat.le_of_ble_eq_true rfl, Nat.le_of_ble_eq_true rfl⟩ (fun r17 M16 H locs hw hW => ?_)
              try dsimp only at hw
              refine lv_istore (lv' := [(5, .int r17), (0, .ref (ad 0)), (1, .int a1), (2, .int a2), (3, .int a3), (4, .int a4)]) hx hb dX10_set_64 hl (by decide) rfl (fun ls hl => ?_)
              refine lv_iload hx hb dX10_set_66 (lv_at hl 0 rfl) ?_
              refine lv_bipush (v := (-5)) hx hb dX10_set_68 (by decide) ?_
              refine lv_icmp_ne (tgt := 87) hx hb dX10_set_70 (by decide) (fun c18 => ?_) (fun c18 => ?_)
              · have hw := hw.1 c18
                try dsimp only at hw
                exact t_set_87 C0 post hret  a1 a2 a3 a4 r17 M16 hw _ _ _ hW (lv_sub hl [1, 2, 3, 4, 5, 0] rfl)
              · have hw := hw.2 c18
                try dsimp only at hw
                refine lv_aload_n hx hb dX10_set_73 rfl (lv_at hl 1 rfl) ?_
                refine r_get C0 hin hW 1 (by decide) (v := .ref (ad 2)) rfl (List.mem_of_getElem? (i := 1) rfl) rfl dX10_set_74 ?_
                refine lv_iload_n hx hb dX10_set_77 rfl (lv_at hl 2 rfl) ?_
                obtain ⟨h19, hw⟩ := hw
                refine r_iald C0 hW 2 rfl rfl h19 dX10_set_78 ?_
                refine lv_bipush (v := 40) hx hb dX10_set_79 (by decide) ?_
                refine lv_icmp_ne (tgt := 87) hx hb dX10_set_81 (by decide) (fun c20 => ?_) (fun c20 => ?_)
                · have hw := hw.1 c20
                  try dsimp only at hw
                  exact t_set_87 C0 post hret  a1 a2 a3 a4 r17 M16 hw _ _ _ hW (lv_sub hl [1, 2, 3, 4, 5, 0] rfl)
                · have hw := hw.2 c20
                  try dsimp only at hw
                  refine lv_bipush (v := (-3)) hx hb dX10_set_84 (by decide) ?_
                  exact hret (-3) M16 _ _ 0 0 (Nat.le_refl _) (Nat.le_refl _) hw rfl dX10_set_86 _ _ _ hW hl
            · have hw := hw.2 c14
              try dsimp only at hw
              refine lv_aload_n hx hb dX10_set_50 rfl (lv_at hl 0 rfl) ?_
              refine g_calli (cw0 := fun M => rcells cI cZ ad M Y) (M := M12) (As := []) (rest := []) C0 hW hl.1 (k_refusedNull (l := l) _  _ hw) (cwV 0 hts gX10_set_X10_refusedNull rfl rfl rfl (by decide +kernel) ⟨Nat.le_of_ble_eq_true rfl, Nat.le_of_ble_eq_true rfl⟩) (r_recv C0 hW) (Nat.le_of_ble_eq_true rfl) dX10_set_51 rfl ⟨Nat.le_of_ble_eq_true rfl, Nat.le_of_ble_eq_true rfl⟩ (fun r22 M21 H locs hw hW => ?_)
              try dsimp only at hw
              exact hret r22 M21 _ _ 0 0 (Nat.le_refl _) (Nat.le_refl _) hw rfl dX10_set_54 _ _ _ hW hl
          · have hw := hw.2 c11
            try dsimp only at hw
            refine lv_bipush (v := (-2)) hx hb dX10_set_39 (by decide) ?_
            exact hret (-2) M9 _ _ 0 0 (Nat.le_refl _) (Nat.le_refl _) hw rfl dX10_set_41 _ _ _ hW hl
        · have hw := hw.2 c8
          try dsimp only at hw
          refine lv_iconst (v := (-1)) hx hb dX10_set_29 (by decide) ?_
          exact hret (-1) M _ _ 0 0 (Nat.le_refl _) (Nat.le_refl _) hw rfl dX10_set_30 _ _ _ hW hl
set_option maxHeartbeats 4000000 in
set_option maxRecDepth 100000 in
theorem k_set {l : Launch} {D : va_G} {cI cZ : ClassId} {ty' : List (ClassId × FieldType)} {ad : Nat → Nat} {Y : va_W} {sz : Nat} (post : Int32 → RM → Prop) (a1 a2 a3 a4 : Int32) (M : RM) (hw : w_set post a1 a2 a3 a4 M) : gMi l yX10_set wsX10_set rm_set D ((cI, .int) :: (cZ, .boolean) :: ty') sz (fun M => rcells cI cZ ad M Y) M [.ref (ad 0), .int a1, .int a2, .int a3, .int a4] post 0 0 := by
  refine gMi_of (cc := cX10_set) (nL := 6) (ty := .int) (own := RX10) (by decide) rfl rfl (Nat.le_of_ble_eq_true rfl) ?_
  intro p e s m args below meth c A Q C0 hret
  exact t_set_0 C0 post hret a1 a2 a3 a4 M hw
abbrev rm_drop : Room := { frames := 4, cells := 0, slots := 0, locals := 88 }
theorem in_drop : ∀ w ∈ wsX100, w ∈ wsX10_drop := fun w hw => List.mem_cons_of_mem _ (List.mem_append_right _ hw)
set_option maxHeartbeats 4000000 in
set_option maxRecDepth 100000 in
theorem t_drop_0 (C0 : rX p s m args c cX10_drop 5 RX10 wsX10_drop D ((cI, .int) :: (cZ, .boolean) :: ty') A) (post : Int32 → RM → Prop) (hret : ∀ (r : Int32) (M' : RM) (pc : Nat) (lv : List (Nat × Value)) (k n : Nat), k ≤ 0 → n ≤ 0 → post r M' → narrow .int (.int r) = .int r → decode cX10_drop pc = .ok (.ireturn, 1) → gG p l e rm_drop s m args below meth c Q D A 5 k n (rcells cI cZ ad M' Y) pc lv [.int r])  : ∀  (a1 a2 a3 : Int32) (M : RM), w_drop post   a1 a2 a3 M → gG p l e rm_drop s m args below meth c Q D A 5 0 0 (rcells cI cZ ad M Y) 0 [(0, .ref (ad 0)), (1, .int a1), (2, .int a2), (3, .int a3)] [] := by
  obtain ⟨hx, hb, hml, ho, hts, hK, hA⟩ := id C0
  have hin := in_drop
  intro a1 a2 a3 M hw H locs ls hW hl
  rw [w_drop] at hw
  refine lv_iload_n hx hb dX10_drop_0 rfl (lv_at hl 1 rfl) ?_
  refine g_calls (As := [.int a1]) (rest := []) ⟨hx, hb, hml, ho, hts⟩ hl.1 (k_isLayer (l := l) _ a1 hw) (va_cwS 1 hts gX10_drop_X10_isLayer rfl rfl rfl (by decide +kernel) ⟨Nat.le_of_ble_eq_true rfl, Nat.le_of_ble_eq_true rfl⟩) (Nat.le_of_ble_eq_true rfl) dX10_drop_1 rfl ⟨Nat.le_of_ble_eq_true rfl, Nat.le_of_ble_eq_true rfl⟩ (fun r1 hw => ?_)
  try dsimp only at hw
  refine lv_if_eq (tgt := 21) hx hb dX10_drop_4 (by decide) (fun c2 => ?_) (fun c2 => ?_)
  · have hw := hw.1 c2
    try dsimp only at hw
    refine lv_iconst (v := (-1)) hx hb dX10_drop_21 (by decide) ?_
    exact hret (-1) M _ _ 0 0 (Nat.le_refl _) (Nat.le_refl _) hw rfl dX10_drop_22 _ _ _ hW hl
  · have hw := hw.2 c2
    try dsimp only at hw
    refine lv_iload_n hx hb dX10_drop_7 rfl (lv_at hl 2 rfl) ?_
    refine g_calls (As := [.int a2]) (rest := []) ⟨hx, hb, hml, ho, hts⟩ hl.1 (k_isSlot (l := l) _ a2 hw) (va_cwS 1 hts gX10_drop_X10_isSlot rfl rfl rfl (by decide +kernel) ⟨Nat.le_of_ble_eq_true rfl, Nat.le_of_ble_eq_true rfl⟩) (Nat.le_of_ble_eq_true rfl) dX10_drop_8 rfl ⟨Nat.le_of_ble_eq_true rfl, Nat.le_of_ble_eq_true rfl⟩ (fun r3 hw => ?_)
    try dsimp only at hw
    refine lv_if_eq (tgt := 21) hx hb dX10_drop_11 (by decide) (fun c4 => ?_) (fun c4 => ?_)
    · have hw := hw.1 c4
      try dsimp only at hw
      refine lv_iconst (v := (-1)) hx hb dX10_drop_21 (by decide) ?_
      exact hret (-1) M _ _ 0 0 (Nat.le_refl _) (Nat.le_refl _) hw rfl dX10_drop_22 _ _ _ hW hl
    · have hw := hw.2 c4
      try dsimp only at hw
      refine lv_iload_n hx hb dX10_drop_14 rfl (lv_at hl 3 rfl) ?_
      refine g_calls (As := [.int a3]) (rest := []) ⟨hx, hb, hml, ho, hts⟩ hl.1 (k_isSlot (l := l) _ a3 hw) (va_cwS 1 hts gX10_drop_X10_isSlot rfl rfl rfl (by decide +kernel) ⟨Nat.le_of_ble_eq_true rfl, Nat.le_of_ble_eq_true rfl⟩) (Nat.le_of_ble_eq_true rfl) dX10_drop_15 rfl ⟨Nat.le_of_ble_eq_true rfl, Nat.le_of_ble_eq_true rfl⟩ (fun r5 hw => ?_)
      try dsimp only at hw
      refine lv_if_ne (tgt := 23) hx hb dX10_drop_18 (by decide) (fun c6 => ?_) (fun c6 => ?_)
      · have hw := hw.1 c6
        try dsimp only at hw
        refine lv_aload_n hx hb dX10_drop_23 rfl (lv_at hl 0 rfl) ?_
        refine lv_iload_n hx hb dX10_drop_24 rfl (lv_at hl 2 rfl) ?_
        refine g_calli (cw0 := fun M => rcells cI cZ ad M Y) (M := M) (As := [.int a2]) (rest := []) C0 hW hl.1 (k_hasNothing (l := l) _ a2 _ hw) (cwV 1 hts gX10_drop_X10_hasNothing rfl rfl rfl (by decide +kernel) ⟨Nat.le_of_ble_eq_true rfl, Nat.le_of_ble_eq_true rfl⟩) (r_recv C0 hW) (Nat.le_of_ble_eq_true rfl) dX10_drop_25 rfl ⟨Nat.le_of_ble_eq_true rfl, Nat.le_of_ble_eq_true rfl⟩ (fun r8 M7 H locs hw hW => ?_)
        try dsimp only at hw
        refine lv_if_eq (tgt := 36) hx hb dX10_drop_28 (by decide) (fun c9 => ?_) (fun c9 => ?_)
        · have hw := hw.1 c9
          try dsimp only at hw
          refine lv_aload_n hx hb dX10_drop_36 rfl (lv_at hl 0 rfl) ?_
          refine lv_iload_n hx hb dX10_drop_37 rfl (lv_at hl 1 rfl) ?_
          refine lv_iload_n hx hb dX10_drop_38 rfl (lv_at hl 2 rfl) ?_
          refine g_calls (As := [.int a2]) (rest := [.int a1, .ref (ad 0)]) ⟨hx, hb, hml, ho, hts⟩ hl.1 (k_at (l := l) _ a2 hw) (va_cwS 1 hts gX10_drop_X10_at rfl rfl rfl (by decide +kernel) ⟨Nat.le_of_ble_eq_true rfl, Nat.le_of_ble_eq_true rfl⟩) (Nat.le_of_ble_eq_true rfl) dX10_drop_39 rfl ⟨Nat.le_of_ble_eq_true rfl, Nat.le_of_ble_eq_true rfl⟩ (fun r10 hw => ?_)
          try dsimp only at hw
          refine g_calli (cw0 := fun M => rcells cI cZ ad M Y) (M := M7) (As := [.int a1, .int r10]) (rest := []) C0 hW hl.1 (k_find (l := l) _ a1 r10 _ hw) (cwV 2 hts gX10_drop_X10_find rfl rfl rfl (by decide +kernel) ⟨Nat.le_of_ble_eq_true rfl, Nat.le_of_ble_eq_true rfl⟩) (r_recv C0 hW) (Nat.le_of_ble_eq_true rfl) dX10_drop_42 rfl ⟨Nat.le_of_ble_eq_true rfl, Nat.le_of_ble_eq_true rfl⟩ (fun r12 M11 H locs hw hW => ?_)
          try dsimp only at hw
          refine lv_istore (lv' := [(4, .int r12), (0, .ref (ad 0)), (1, .int a1), (2, .int a2), (3, .int a3)]) hx hb dX10_drop_45 hl (by decide) rfl (fun ls hl => ?_)
          refine lv_iload hx hb dX10_drop_47 (lv_at hl 0 rfl) ?_
          refine lv_bipush (v := (-5)) hx hb dX10_drop_49 (by decide) ?_
          refine lv_icmp_ne (tgt := 57) hx hb dX10_drop_51 (by decide) (fun c13 => ?_) (fun c13 => ?_)
          · have hw := hw.1 c13
            try dsimp only at hw
            refine lv_aload_n hx hb dX10_drop_57 rfl (lv_at hl 1 rfl) ?_
            refine lv_iload_n hx hb dX10_drop_58 rfl (lv_at hl 2 rfl) ?_
            refine lv_iload hx hb dX10_drop_59 (lv_at hl 0 rfl) ?_
            refine g_calls (As := [.int a1, .int r12]) (rest := [.ref (ad 0)]) ⟨hx, hb, hml, ho, hts⟩ hl.1 (k_valueOf (l := l) _ a1 r12 hw) (va_cwS 2 hts gX10_drop_X10_valueOf rfl rfl rfl (by decide +kernel) ⟨Nat.le_of_ble_eq_true rfl, Nat.le_of_ble_eq_true rfl⟩) (Nat.le_of_ble_eq_true rfl) dX10_drop_61 rfl ⟨Nat.le_of_ble_eq_true rfl, Nat.le_of_ble_eq_true rfl⟩ (fun r14 hw => ?_)
            try dsimp only at hw
            refine lv_iload_n hx hb dX10_drop_64 rfl (lv_at hl 4 rfl) ?_
            refine g_calls (As := [.int a3]) (rest := [.int r14, .ref (ad 0)]) ⟨hx, hb, hml, ho, hts⟩ hl.1 (k_at (l := l) _ a3 hw) (va_cwS 1 hts gX10_drop_X10_at rfl rfl rfl (by decide +kernel) ⟨Nat.le_of_ble_eq_true rfl, Nat.le_of_ble_eq_true rfl⟩) (Nat.le_of_ble_eq_true rfl) dX10_drop_65 rfl ⟨Nat.le_of_ble_eq_true rfl, Nat.le_of_ble_eq_true rfl⟩ (fun r15 hw => ?_)
            try dsimp only at hw
            refine g_callv (cw0 := fun M => rcells cI cZ ad M Y) (M := M11) (As := [.int r14, .int r15]) (rest := []) C0 hW hl.1 (k_copyText (l := l) _ r14 r15 _ hw) (cwV 2 hts gX10_drop_X10_copyText rfl rfl rfl (by decide +kernel) ⟨Nat.le_of_ble_eq_true rfl, Nat.le_of_ble_eq_true rfl⟩) (r_recv C0 hW) (Nat.le_of_ble_eq_true rfl) dX10_drop_68 rfl ⟨Nat.le_of_ble_eq_true rfl, Nat.le_of_ble_eq_true rfl⟩ (fun M16 H locs hw hW => ?_)
            try dsimp only at hw
            refine lv_aload_n hx hb dX10_drop_71 rfl (lv_at hl 1 rfl) ?_
            refine lv_iload_n hx hb dX10_drop_72 rfl (lv_at hl 2 rfl) ?_
            refine lv_iload hx hb dX10_drop_73 (lv_at hl 0 rfl) ?_
            refine g_callv (cw0 := fun M => rcells cI cZ ad M Y) (M := M16) (As := [.int a1, .int r12]) (rest := []) C0 hW hl.1 (k_take (l := l) _ a1 r12 _ hw) (cwV 2 hts gX10_drop_X10_take rfl rfl rfl (by decide +kernel) ⟨Nat.le_of_ble_eq_true rfl, Nat.le_of_ble_eq_true rfl⟩) (r_recv C0 hW) (Nat.le_of_ble_eq_true rfl) dX10_drop_75 rfl ⟨Nat.le_of_ble_eq_true rfl, Nat.le_of_ble_eq_true rfl⟩ (fun M17 H locs hw hW => ?_)
            try dsimp only at hw
            refine lv_aload_n hx hb dX10_drop_78 rfl (lv_at hl 1 rfl) ?_
            refine r_get C0 hin hW 1 (by decide) (v := .ref (ad 2)) rfl (List.mem_of_getElem? (i := 1) rfl) rfl dX10_drop_79 ?_
            refine lv_iload_n hx hb dX10_drop_82 rfl (lv_at hl 2 rfl) ?_
            obtain ⟨h18, hw⟩ := hw
            refine r_iald C0 hW 2 rfl rfl h18 dX10_drop_83 ?_
            exact hret (M17 2 a1.toNatClampNeg) M17 _ _ 0 0 (Nat.le_refl _) (Nat.le_refl _) hw rfl dX10_drop_84 _ _ _ hW hl
          · have hw := hw.2 c13
            try dsimp only at hw
            refine lv_bipush (v := (-5)) hx hb dX10_drop_54 (by decide) ?_
            exact hret (-5) M11 _ _ 0 0 (Nat.le_refl _) (Nat.le_refl _) hw rfl dX10_drop_56 _ _ _ hW hl
        · have hw := hw.2 c9
          try dsimp only at hw
          refine lv_aload_n hx hb dX10_drop_31 rfl (lv_at hl 0 rfl) ?_
          refine g_calli (cw0 := fun M => rcells cI cZ ad M Y) (M := M7) (As := []) (rest := []) C0 hW hl.1 (k_refusedNull (l := l) _  _ hw) (cwV 0 hts gX10_drop_X10_refusedNull rfl rfl rfl (by decide +kernel) ⟨Nat.le_of_ble_eq_true rfl, Nat.le_of_ble_eq_true rfl⟩) (r_recv C0 hW) (Nat.le_of_ble_eq_true rfl) dX10_drop_32 rfl ⟨Nat.le_of_ble_eq_true rfl, Nat.le_of_ble_eq_true rfl⟩ (fun r20 M19 H locs hw hW => ?_)
          try dsimp only at hw
          exact hret r20 M19 _ _ 0 0 (Nat.le_refl _) (Nat.le_refl _) hw rfl dX10_drop_35 _ _ _ hW hl
      · have hw := hw.2 c6
        try dsimp only at hw
        refine lv_iconst (v := (-1)) hx hb dX10_drop_21 (by decide) ?_
        exact hret (-1) M _ _ 0 0 (Nat.le_refl _) (Nat.le_refl _) hw rfl dX10_drop_22 _ _ _ hW hl
set_option maxHeartbeats 4000000 in
set_option maxRecDepth 100000 in
theorem k_drop {l : Launch} {D : va_G} {cI cZ : ClassId} {ty' : List (ClassId × FieldType)} {ad : Nat → Nat} {Y : va_W} {sz : Nat} (post : Int32 → RM → Prop) (a1 a2 a3 : Int32) (M : RM) (hw : w_drop post a1 a2 a3 M) : gMi l yX10_drop wsX10_drop rm_drop D ((cI, .int) :: (cZ, .boolean) :: ty') sz (fun M => rcells cI cZ ad M Y) M [.ref (ad 0), .int a1, .int a2, .int a3] post 0 0 := by
  refine gMi_of (cc := cX10_drop) (nL := 5) (ty := .int) (own := RX10) (by decide) rfl rfl (Nat.le_of_ble_eq_true rfl) ?_
  intro p e s m args below meth c A Q C0 hret
  exact t_drop_0 C0 post hret a1 a2 a3 M hw
abbrev rm_empty : Room := { frames := 1, cells := 0, slots := 0, locals := 20 }
theorem in_empty : ∀ w ∈ wsX100, w ∈ wsX10_empty := fun w hw => List.mem_cons_of_mem _ (List.mem_append_right _ hw)
set_option maxHeartbeats 4000000 in
set_option maxRecDepth 100000 in
theorem t_empty_0 (C0 : rX p s m args c cX10_empty 3 RX10 wsX10_empty D ((cI, .int) :: (cZ, .boolean) :: ty') A) (post : Int32 → RM → Prop) (hret : ∀ (r : Int32) (M' : RM) (pc : Nat) (lv : List (Nat × Value)) (k n : Nat), k ≤ 0 → n ≤ 0 → post r M' → narrow .int (.int r) = .int r → decode cX10_empty pc = .ok (.ireturn, 1) → gG p l e rm_empty s m args below meth c Q D A 3 k n (rcells cI cZ ad M' Y) pc lv [.int r])  : ∀  (a1 : Int32) (M : RM), w_empty post   a1 M → gG p l e rm_empty s m args below meth c Q D A 3 0 0 (rcells cI cZ ad M Y) 0 [(0, .ref (ad 0)), (1, .int a1)] [] := by
  obtain ⟨hx, hb, hml, ho, hts, hK, hA⟩ := id C0
  have hin := in_empty
  intro a1 M hw H locs ls hW hl
  rw [w_empty] at hw
  refine lv_iload_n hx hb dX10_empty_0 rfl (lv_at hl 1 rfl) ?_
  refine g_calls (As := [.int a1]) (rest := []) ⟨hx, hb, hml, ho, hts⟩ hl.1 (k_isLayer (l := l) _ a1 hw) (va_cwS 1 hts gX10_empty_X10_isLayer rfl rfl rfl (by decide +kernel) ⟨Nat.le_of_ble_eq_true rfl, Nat.le_of_ble_eq_true rfl⟩) (Nat.le_of_ble_eq_true rfl) dX10_empty_1 rfl ⟨Nat.le_of_ble_eq_true rfl, Nat.le_of_ble_eq_true rfl⟩ (fun r1 hw => ?_)
  try dsimp only at hw
  refine lv_if_ne (tgt := 9) hx hb dX10_empty_4 (by decide) (fun c2 => ?_) (fun c2 => ?_)
  · have hw := hw.1 c2
    try dsimp only at hw
    refine lv_aload_n hx hb dX10_empty_9 rfl (lv_at hl 0 rfl) ?_
    refine r_get C0 hin hW 1 (by decide) (v := .ref (ad 2)) rfl (List.mem_of_getElem? (i := 1) rfl) rfl dX10_empty_10 ?_
    refine lv_iload_n hx hb dX10_empty_13 rfl (lv_at hl 1 rfl) ?_
    obtain ⟨h3, hw⟩ := hw
    refine r_iald C0 hW 2 rfl rfl h3 dX10_empty_14 ?_
    refine lv_topi (fun v4 ev4 => ?_)
    have hw := hw v4 ev4
    refine lv_istore_n (lv' := [(2, .int v4), (0, .ref (ad 0)), (1, .int a1)]) hx hb dX10_empty_15 rfl hl (by decide) rfl (fun ls hl => ?_)
    refine lv_aload_n hx hb dX10_empty_16 rfl (lv_at hl 1 rfl) ?_
    refine r_get C0 hin hW 1 (by decide) (v := .ref (ad 2)) rfl (List.mem_of_getElem? (i := 1) rfl) rfl dX10_empty_17 ?_
    refine lv_iload_n hx hb dX10_empty_20 rfl (lv_at hl 2 rfl) ?_
    refine lv_iconst (v := 0) hx hb dX10_empty_21 (by decide) ?_
    obtain ⟨h5, hw⟩ := hw
    refine r_iast C0 hW 2 rfl rfl h5 rfl dX10_empty_22 (fun M6 H locs eM6 hW => ?_)
    have hw := hw M6 eM6
    refine lv_iload_n hx hb dX10_empty_23 rfl (lv_at hl 0 rfl) ?_
    exact hret v4 M6 _ _ 0 0 (Nat.le_refl _) (Nat.le_refl _) hw rfl dX10_empty_24 _ _ _ hW hl
  · have hw := hw.2 c2
    try dsimp only at hw
    refine lv_iconst (v := (-1)) hx hb dX10_empty_7 (by decide) ?_
    exact hret (-1) M _ _ 0 0 (Nat.le_refl _) (Nat.le_refl _) hw rfl dX10_empty_8 _ _ _ hW hl
set_option maxHeartbeats 4000000 in
set_option maxRecDepth 100000 in
theorem k_empty {l : Launch} {D : va_G} {cI cZ : ClassId} {ty' : List (ClassId × FieldType)} {ad : Nat → Nat} {Y : va_W} {sz : Nat} (post : Int32 → RM → Prop) (a1 : Int32) (M : RM) (hw : w_empty post a1 M) : gMi l yX10_empty wsX10_empty rm_empty D ((cI, .int) :: (cZ, .boolean) :: ty') sz (fun M => rcells cI cZ ad M Y) M [.ref (ad 0), .int a1] post 0 0 := by
  refine gMi_of (cc := cX10_empty) (nL := 3) (ty := .int) (own := RX10) (by decide) rfl rfl (Nat.le_of_ble_eq_true rfl) ?_
  intro p e s m args below meth c A Q C0 hret
  exact t_empty_0 C0 post hret a1 M hw
abbrev rm_size : Room := { frames := 1, cells := 0, slots := 0, locals := 20 }
theorem in_size : ∀ w ∈ wsX100, w ∈ wsX10_size := fun w hw => List.mem_cons_of_mem _ (List.mem_append_right _ hw)
set_option maxHeartbeats 4000000 in
set_option maxRecDepth 100000 in
theorem t_size_0 (C0 : rX p s m args c cX10_size 2 RX10 wsX10_size D ((cI, .int) :: (cZ, .boolean) :: ty') A) (post : Int32 → RM → Prop) (hret : ∀ (r : Int32) (M' : RM) (pc : Nat) (lv : List (Nat × Value)) (k n : Nat), k ≤ 0 → n ≤ 0 → post r M' → narrow .int (.int r) = .int r → decode cX10_size pc = .ok (.ireturn, 1) → gG p l e rm_size s m args below meth c Q D A 2 k n (rcells cI cZ ad M' Y) pc lv [.int r])  : ∀  (a1 : Int32) (M : RM), w_size post   a1 M → gG p l e rm_size s m args below meth c Q D A 2 0 0 (rcells cI cZ ad M Y) 0 [(0, .ref (ad 0)), (1, .int a1)] [] := by
  obtain ⟨hx, hb, hml, ho, hts, hK, hA⟩ := id C0
  have hin := in_size
  intro a1 M hw H locs ls hW hl
  rw [w_size] at hw
  refine lv_iload_n hx hb dX10_size_0 rfl (lv_at hl 1 rfl) ?_
  refine g_calls (As := [.int a1]) (rest := []) ⟨hx, hb, hml, ho, hts⟩ hl.1 (k_isLayer (l := l) _ a1 hw) (va_cwS 1 hts gX10_size_X10_isLayer rfl rfl rfl (by decide +kernel) ⟨Nat.le_of_ble_eq_true rfl, Nat.le_of_ble_eq_true rfl⟩) (Nat.le_of_ble_eq_true rfl) dX10_size_1 rfl ⟨Nat.le_of_ble_eq_true rfl, Nat.le_of_ble_eq_true rfl⟩ (fun r1 hw => ?_)
  try dsimp only at hw
  refine lv_if_eq (tgt := 16) hx hb dX10_size_4 (by decide) (fun c2 => ?_) (fun c2 => ?_)
  · have hw := hw.1 c2
    try dsimp only at hw
    refine lv_iconst (v := (-1)) hx hb dX10_size_16 (by decide) ?_
    exact hret (-1) M _ _ 0 0 (Nat.le_refl _) (Nat.le_refl _) hw rfl dX10_size_17 _ _ _ hW hl
  · have hw := hw.2 c2
    try dsimp only at hw
    refine lv_aload_n hx hb dX10_size_7 rfl (lv_at hl 0 rfl) ?_
    refine r_get C0 hin hW 1 (by decide) (v := .ref (ad 2)) rfl (List.mem_of_getElem? (i := 1) rfl) rfl dX10_size_8 ?_
    refine lv_iload_n hx hb dX10_size_11 rfl (lv_at hl 1 rfl) ?_
    obtain ⟨h3, hw⟩ := hw
    refine r_iald C0 hW 2 rfl rfl h3 dX10_size_12 ?_
    refine lv_goto (tgt := 17) hx hb dX10_size_13 (by decide) ?_
    exact hret (M 2 a1.toNatClampNeg) M _ _ 0 0 (Nat.le_refl _) (Nat.le_refl _) hw rfl dX10_size_17 _ _ _ hW hl
set_option maxHeartbeats 4000000 in
set_option maxRecDepth 100000 in
theorem k_size {l : Launch} {D : va_G} {cI cZ : ClassId} {ty' : List (ClassId × FieldType)} {ad : Nat → Nat} {Y : va_W} {sz : Nat} (post : Int32 → RM → Prop) (a1 : Int32) (M : RM) (hw : w_size post a1 M) : gMi l yX10_size wsX10_size rm_size D ((cI, .int) :: (cZ, .boolean) :: ty') sz (fun M => rcells cI cZ ad M Y) M [.ref (ad 0), .int a1] post 0 0 := by
  refine gMi_of (cc := cX10_size) (nL := 2) (ty := .int) (own := RX10) (by decide) rfl rfl (Nat.le_of_ble_eq_true rfl) ?_
  intro p e s m args below meth c A Q C0 hret
  exact t_size_0 C0 post hret a1 M hw
abbrev rm_leastLayer : Room := { frames := 1, cells := 0, slots := 0, locals := 24 }
theorem in_leastLayer : ∀ w ∈ wsX100, w ∈ wsX10_leastLayer := fun w hw => List.mem_cons_of_mem _ (List.mem_append_right _ hw)
set_option maxHeartbeats 4000000 in
set_option maxRecDepth 100000 in
theorem t_leastLayer_63 (C0 : rX p s m args c cX10_leastLayer 5 RX10 wsX10_leastLayer D ((cI, .int) :: (cZ, .boolean) :: ty') A) (post : Int32 → RM → Prop) (hret : ∀ (r : Int32) (M' : RM) (pc : Nat) (lv : List (Nat × Value)) (k n : Nat), k ≤ 0 → n ≤ 0 → post r M' → narrow .int (.int r) = .int r → decode cX10_leastLayer pc = .ok (.ireturn, 1) → gG p l e rm_leastLayer s m args below meth c Q D A 5 k n (rcells cI cZ ad M' Y) pc lv [.int r]) (K5 : Int32 → Int32 → Int32 → RM → Prop) (hK5 : ∀ (x1 x2 x3 : Int32) (M : RM), K5 x1 x2 x3 M → gG p l e rm_leastLayer s m args below meth c Q D A 5 0 0 (rcells cI cZ ad M Y) 5 [(0, .ref (ad 0)), (1, .int x1), (2, .int x2), (3, .int x3)] []) : ∀  (x1 x2 x3 s0 : Int32) (M : RM), w_leastLayer_63 post K5  x1 x2 x3 s0 M → gG p l e rm_leastLayer s m args below meth c Q D A 5 0 0 (rcells cI cZ ad M Y) 63 [(0, .ref (ad 0)), (1, .int x1), (2, .int x2), (3, .int x3)] [.int s0] := by
  obtain ⟨hx, hb, hml, ho, hts, hK, hA⟩ := id C0
  have hin := in_leastLayer
  intro x1 x2 x3 s0 M hw H locs ls hW hl
  rw [w_leastLayer_63] at hw
  refine lv_istore (lv' := [(4, .int s0), (0, .ref (ad 0)), (1, .int x1), (2, .int x2), (3, .int x3)]) hx hb dX10_leastLayer_63 hl (by decide) rfl (fun ls hl => ?_)
  refine lv_iload hx hb dX10_leastLayer_65 (lv_at hl 0 rfl) ?_
  refine lv_if_eq (tgt := 74) hx hb dX10_leastLayer_67 (by decide) (fun c14 => ?_) (fun c14 => ?_)
  · have hw := hw.1 c14
    try dsimp only at hw
    refine lv_iload_n hx hb dX10_leastLayer_74 rfl (lv_at hl 3 rfl) ?_
    refine lv_istore_n (lv' := [(2, .int x2), (4, .int s0), (0, .ref (ad 0)), (1, .int x1), (3, .int x3)]) hx hb dX10_leastLayer_75 rfl hl (by decide) rfl (fun ls hl => ?_)
    obtain ⟨v15, ev15⟩ : ∃ y : Int32, y = x3 + 1 := ⟨_, rfl⟩
    have hw := hw v15 ev15
    refine lv_iinc (v := v15) (lv' := [(3, .int v15), (2, .int x2), (4, .int s0), (0, .ref (ad 0)), (1, .int x1)]) hx hb dX10_leastLayer_76 hl (k := 4) rfl (by rw [ev15]; rfl) (by decide) rfl (fun ls hl => ?_)
    refine lv_goto (tgt := 5) hx hb dX10_leastLayer_79 (by decide) ?_
    exact hK5 x1 x2 v15 M hw _ _ _ hW (lv_sub hl [3, 4, 1, 0] rfl)
  · have hw := hw.2 c14
    try dsimp only at hw
    refine lv_iload_n hx hb dX10_leastLayer_70 rfl (lv_at hl 4 rfl) ?_
    refine lv_goto (tgt := 75) hx hb dX10_leastLayer_71 (by decide) ?_
    refine lv_istore_n (lv' := [(2, .int x3), (4, .int s0), (0, .ref (ad 0)), (1, .int x1), (3, .int x3)]) hx hb dX10_leastLayer_75 rfl hl (by decide) rfl (fun ls hl => ?_)
    obtain ⟨v16, ev16⟩ : ∃ y : Int32, y = x3 + 1 := ⟨_, rfl⟩
    have hw := hw v16 ev16
    refine lv_iinc (v := v16) (lv' := [(3, .int v16), (2, .int x3), (4, .int s0), (0, .ref (ad 0)), (1, .int x1)]) hx hb dX10_leastLayer_76 hl (k := 4) rfl (by rw [ev16]; rfl) (by decide) rfl (fun ls hl => ?_)
    refine lv_goto (tgt := 5) hx hb dX10_leastLayer_79 (by decide) ?_
    exact hK5 x1 x3 v16 M hw _ _ _ hW (lv_sub hl [3, 4, 1, 0] rfl)
set_option maxHeartbeats 4000000 in
set_option maxRecDepth 100000 in
theorem t_leastLayer_58 (C0 : rX p s m args c cX10_leastLayer 5 RX10 wsX10_leastLayer D ((cI, .int) :: (cZ, .boolean) :: ty') A) (post : Int32 → RM → Prop) (hret : ∀ (r : Int32) (M' : RM) (pc : Nat) (lv : List (Nat × Value)) (k n : Nat), k ≤ 0 → n ≤ 0 → post r M' → narrow .int (.int r) = .int r → decode cX10_leastLayer pc = .ok (.ireturn, 1) → gG p l e rm_leastLayer s m args below meth c Q D A 5 k n (rcells cI cZ ad M' Y) pc lv [.int r]) (K5 : Int32 → Int32 → Int32 → RM → Prop) (hK5 : ∀ (x1 x2 x3 : Int32) (M : RM), K5 x1 x2 x3 M → gG p l e rm_leastLayer s m args below meth c Q D A 5 0 0 (rcells cI cZ ad M Y) 5 [(0, .ref (ad 0)), (1, .int x1), (2, .int x2), (3, .int x3)] []) : ∀  (x1 x2 x3 : Int32) (M : RM), w_leastLayer_58 post K5  x1 x2 x3 M → gG p l e rm_leastLayer s m args below meth c Q D A 5 0 0 (rcells cI cZ ad M Y) 58 [(0, .ref (ad 0)), (1, .int x1), (2, .int x2), (3, .int x3)] [] := by
  obtain ⟨hx, hb, hml, ho, hts, hK, hA⟩ := id C0
  have hin := in_leastLayer
  intro x1 x2 x3 M hw H locs ls hW hl
  rw [w_leastLayer_58] at hw
  refine lv_iconst (v := 1) hx hb dX10_leastLayer_58 (by decide) ?_
  refine lv_goto (tgt := 63) hx hb dX10_leastLayer_59 (by decide) ?_
  exact t_leastLayer_63 C0 post hret K5 hK5 x1 x2 x3 1 M hw _ _ _ hW (lv_sub hl [0, 1, 2, 3] rfl)
set_option maxHeartbeats 4000000 in
set_option maxRecDepth 100000 in
theorem t_leastLayer_62 (C0 : rX p s m args c cX10_leastLayer 5 RX10 wsX10_leastLayer D ((cI, .int) :: (cZ, .boolean) :: ty') A) (post : Int32 → RM → Prop) (hret : ∀ (r : Int32) (M' : RM) (pc : Nat) (lv : List (Nat × Value)) (k n : Nat), k ≤ 0 → n ≤ 0 → post r M' → narrow .int (.int r) = .int r → decode cX10_leastLayer pc = .ok (.ireturn, 1) → gG p l e rm_leastLayer s m args below meth c Q D A 5 k n (rcells cI cZ ad M' Y) pc lv [.int r]) (K5 : Int32 → Int32 → Int32 → RM → Prop) (hK5 : ∀ (x1 x2 x3 : Int32) (M : RM), K5 x1 x2 x3 M → gG p l e rm_leastLayer s m args below meth c Q D A 5 0 0 (rcells cI cZ ad M Y) 5 [(0, .ref (ad 0)), (1, .int x1), (2, .int x2), (3, .int x3)] []) : ∀  (x1 x2 x3 : Int32) (M : RM), w_leastLayer_62 post K5  x1 x2 x3 M → gG p l e rm_leastLayer s m args below meth c Q D A 5 0 0 (rcells cI cZ ad M Y) 62 [(0, .ref (ad 0)), (1, .int x1), (2, .int x2), (3, .int x3)] [] := by
  obtain ⟨hx, hb, hml, ho, hts, hK, hA⟩ := id C0
  have hin := in_leastLayer
  intro x1 x2 x3 M hw H locs ls hW hl
  rw [w_leastLayer_62] at hw
  refine lv_iconst (v := 0) hx hb dX10_leastLayer_62 (by decide) ?_
  exact t_leastLayer_63 C0 post hret K5 hK5 x1 x2 x3 0 M hw _ _ _ hW (lv_sub hl [0, 1, 2, 3] rfl)
set_option maxHeartbeats 4000000 in
set_option maxRecDepth 100000 in
theorem t_leastLayer_5 (C0 : rX p s m args c cX10_leastLayer 5 RX10 wsX10_leastLayer D ((cI, .int) :: (cZ, .boolean) :: ty') A) (post : Int32 → RM → Prop) (hret : ∀ (r : Int32) (M' : RM) (pc : Nat) (lv : List (Nat × Value)) (k n : Nat), k ≤ 0 → n ≤ 0 → post r M' → narrow .int (.int r) = .int r → decode cX10_leastLayer pc = .ok (.ireturn, 1) → gG p l e rm_leastLayer s m args below meth c Q D A 5 k n (rcells cI cZ ad M' Y) pc lv [.int r])  : ∀ (nf : Nat) (x1 x2 x3 : Int32) (M : RM), w_leastLayer_5 post  nf x1 x2 x3 M → gG p l e rm_leastLayer s m args below meth c Q D A 5 0 0 (rcells cI cZ ad M Y) 5 [(0, .ref (ad 0)), (1, .int x1), (2, .int x2), (3, .int x3)] [] := by
  obtain ⟨hx, hb, hml, ho, hts, hK, hA⟩ := id C0
  have hin := in_leastLayer
  intro nf
  induction nf with
  | zero => intro x1 x2 x3 M hw; exact hw.elim
  | succ nf ih =>
    intro x1 x2 x3 M hw H locs ls hW hl
    rw [w_leastLayer_5] at hw
    refine lv_iload_n hx hb dX10_leastLayer_5 rfl (lv_at hl 3 rfl) ?_
    refine lv_iload_n hx hb dX10_leastLayer_6 rfl (lv_at hl 1 rfl) ?_
    refine lv_icmp_gt (tgt := 82) hx hb dX10_leastLayer_7 (by decide) (fun c2 => ?_) (fun c2 => ?_)
    · have hw := hw.1 c2
      try dsimp only at hw
      refine lv_iload_n hx hb dX10_leastLayer_82 rfl (lv_at hl 2 rfl) ?_
      exact hret x2 M _ _ 0 0 (Nat.le_refl _) (Nat.le_refl _) hw rfl dX10_leastLayer_83 _ _ _ hW hl
    · have hw := hw.2 c2
      try dsimp only at hw
      refine lv_aload_n hx hb dX10_leastLayer_10 rfl (lv_at hl 0 rfl) ?_
      refine r_get C0 hin hW 20 (by decide) (v := .ref (ad 13)) rfl (List.mem_of_getElem? (i := 1) rfl) rfl dX10_leastLayer_11 ?_
      refine lv_iload_n hx hb dX10_leastLayer_14 rfl (lv_at hl 3 rfl) ?_
      obtain ⟨h3, hw⟩ := hw
      refine r_iald C0 hW 13 rfl rfl h3 dX10_leastLayer_15 ?_
      refine lv_aload_n hx hb dX10_leastLayer_16 rfl (lv_at hl 0 rfl) ?_
      refine r_get C0 hin hW 1 (by decide) (v := .ref (ad 2)) rfl (List.mem_of_getElem? (i := 2) rfl) rfl dX10_leastLayer_17 ?_
      refine lv_iload_n hx hb dX10_leastLayer_20 rfl (lv_at hl 3 rfl) ?_
      obtain ⟨h4, hw⟩ := hw
      refine r_iald C0 hW 2 rfl rfl h4 dX10_leastLayer_21 ?_
      refine lv_icmp_ge (tgt := 62) hx hb dX10_leastLayer_22 (by decide) (fun c5 => ?_) (fun c5 => ?_)
      · have hw := hw.1 c5
        try dsimp only at hw
        exact t_leastLayer_62 C0 post hret (w_leastLayer_5 post  nf) ih x1 x2 x3 M hw _ _ _ hW (lv_sub hl [0, 1, 2, 3] rfl)
      · have hw := hw.2 c5
        try dsimp only at hw
        refine lv_iload_n hx hb dX10_leastLayer_25 rfl (lv_at hl 2 rfl) ?_
        refine lv_bipush (v := (-5)) hx hb dX10_leastLayer_26 (by decide) ?_
        refine lv_icmp_eq (tgt := 58) hx hb dX10_leastLayer_28 (by decide) (fun c6 => ?_) (fun c6 => ?_)
        · have hw := hw.1 c6
          try dsimp only at hw
          exact t_leastLayer_58 C0 post hret (w_leastLayer_5 post  nf) ih x1 x2 x3 M hw _ _ _ hW (lv_sub hl [0, 1, 2, 3] rfl)
        · have hw := hw.2 c6
          try dsimp only at hw
          refine lv_aload_n hx hb dX10_leastLayer_31 rfl (lv_at hl 0 rfl) ?_
          refine lv_iload_n hx hb dX10_leastLayer_32 rfl (lv_at hl 3 rfl) ?_
          refine lv_aload_n hx hb dX10_leastLayer_33 rfl (lv_at hl 0 rfl) ?_
          refine r_get C0 hin hW 20 (by decide) (v := .ref (ad 13)) rfl (List.mem_of_getElem? (i := 1) rfl) rfl dX10_leastLayer_34 ?_
          refine lv_iload_n hx hb dX10_leastLayer_37 rfl (lv_at hl 3 rfl) ?_
          obtain ⟨h7, hw⟩ := hw
          refine r_iald C0 hW 13 rfl rfl h7 dX10_leastLayer_38 ?_
          refine g_calls (As := [.int x3, .int (M 13 x3.toNatClampNeg)]) (rest := [.ref (ad 0)]) ⟨hx, hb, hml, ho, hts⟩ hl.1 (k_entryOf (l := l) _ x3 (M 13 x3.toNatClampNeg) hw) (va_cwS 2 hts gX10_leastLayer_X10_entryOf rfl rfl rfl (by decide +kernel) ⟨Nat.le_of_ble_eq_true rfl, Nat.le_of_ble_eq_true rfl⟩) (Nat.le_of_ble_eq_true rfl) dX10_leastLayer_39 rfl ⟨Nat.le_of_ble_eq_true rfl, Nat.le_of_ble_eq_true rfl⟩ (fun r8 hw => ?_)
          try dsimp only at hw
          refine lv_iload_n hx hb dX10_leastLayer_42 rfl (lv_at hl 2 rfl) ?_
          refine lv_aload_n hx hb dX10_leastLayer_43 rfl (lv_at hl 0 rfl) ?_
          refine r_get C0 hin hW 20 (by decide) (v := .ref (ad 13)) rfl (List.mem_of_getElem? (i := 1) rfl) rfl dX10_leastLayer_44 ?_
          refine lv_iload_n hx hb dX10_leastLayer_47 rfl (lv_at hl 2 rfl) ?_
          obtain ⟨h9, hw⟩ := hw
          refine r_iald C0 hW 13 rfl rfl h9 dX10_leastLayer_48 ?_
          refine g_calls (As := [.int x2, .int (M 13 x2.toNatClampNeg)]) (rest := [.int r8, .ref (ad 0)]) ⟨hx, hb, hml, ho, hts⟩ hl.1 (k_entryOf (l := l) _ x2 (M 13 x2.toNatClampNeg) hw) (va_cwS 2 hts gX10_leastLayer_X10_entryOf rfl rfl rfl (by decide +kernel) ⟨Nat.le_of_ble_eq_true rfl, Nat.le_of_ble_eq_true rfl⟩) (Nat.le_of_ble_eq_true rfl) dX10_leastLayer_49 rfl ⟨Nat.le_of_ble_eq_true rfl, Nat.le_of_ble_eq_true rfl⟩ (fun r10 hw => ?_)
          try dsimp only at hw
          refine g_calli (cw0 := fun M => rcells cI cZ ad M Y) (M := M) (As := [.int r8, .int r10]) (rest := []) C0 hW hl.1 (k_compare (l := l) _ r8 r10 _ hw) (cwV 2 hts gX10_leastLayer_X10_compare rfl rfl rfl (by decide +kernel) ⟨Nat.le_of_ble_eq_true rfl, Nat.le_of_ble_eq_true rfl⟩) (r_recv C0 hW) (Nat.le_of_ble_eq_true rfl) dX10_leastLayer_52 rfl ⟨Nat.le_of_ble_eq_true rfl, Nat.le_of_ble_eq_true rfl⟩ (fun r12 M11 H locs hw hW => ?_)
          try dsimp only at hw
          refine lv_if_ge (tgt := 62) hx hb dX10_leastLayer_55 (by decide) (fun c13 => ?_) (fun c13 => ?_)
          · have hw := hw.1 c13
            try dsimp only at hw
            exact t_leastLayer_62 C0 post hret (w_leastLayer_5 post  nf) ih x1 x2 x3 M11 hw _ _ _ hW (lv_sub hl [0, 1, 2, 3] rfl)
          · have hw := hw.2 c13
            try dsimp only at hw
            exact t_leastLayer_58 C0 post hret (w_leastLayer_5 post  nf) ih x1 x2 x3 M11 hw _ _ _ hW (lv_sub hl [0, 1, 2, 3] rfl)
set_option maxHeartbeats 4000000 in
set_option maxRecDepth 100000 in
theorem t_leastLayer_0 (C0 : rX p s m args c cX10_leastLayer 5 RX10 wsX10_leastLayer D ((cI, .int) :: (cZ, .boolean) :: ty') A) (post : Int32 → RM → Prop) (hret : ∀ (r : Int32) (M' : RM) (pc : Nat) (lv : List (Nat × Value)) (k n : Nat), k ≤ 0 → n ≤ 0 → post r M' → narrow .int (.int r) = .int r → decode cX10_leastLayer pc = .ok (.ireturn, 1) → gG p l e rm_leastLayer s m args below meth c Q D A 5 k n (rcells cI cZ ad M' Y) pc lv [.int r])  : ∀  (a1 : Int32) (M : RM), w_leastLayer post   a1 M → gG p l e rm_leastLayer s m args below meth c Q D A 5 0 0 (rcells cI cZ ad M Y) 0 [(0, .ref (ad 0)), (1, .int a1)] [] := by
  obtain ⟨hx, hb, hml, ho, hts, hK, hA⟩ := id C0
  have hin := in_leastLayer
  intro a1 M hw H locs ls hW hl
  rw [w_leastLayer] at hw
  refine lv_bipush (v := (-5)) hx hb dX10_leastLayer_0 (by decide) ?_
  refine lv_istore_n (lv' := [(2, .int (-5)), (0, .ref (ad 0)), (1, .int a1)]) hx hb dX10_leastLayer_2 rfl hl (by decide) rfl (fun ls hl => ?_)
  refine lv_iconst (v := 0) hx hb dX10_leastLayer_3 (by decide) ?_
  refine lv_istore_n (lv' := [(3, .int 0), (2, .int (-5)), (0, .ref (ad 0)), (1, .int a1)]) hx hb dX10_leastLayer_4 rfl hl (by decide) rfl (fun ls hl => ?_)
  obtain ⟨n1, hw⟩ := hw
  exact t_leastLayer_5 C0 post hret  n1 a1 (-5) 0 M hw _ _ _ hW (lv_sub hl [2, 3, 1, 0] rfl)
set_option maxHeartbeats 4000000 in
set_option maxRecDepth 100000 in
theorem k_leastLayer {l : Launch} {D : va_G} {cI cZ : ClassId} {ty' : List (ClassId × FieldType)} {ad : Nat → Nat} {Y : va_W} {sz : Nat} (post : Int32 → RM → Prop) (a1 : Int32) (M : RM) (hw : w_leastLayer post a1 M) : gMi l yX10_leastLayer wsX10_leastLayer rm_leastLayer D ((cI, .int) :: (cZ, .boolean) :: ty') sz (fun M => rcells cI cZ ad M Y) M [.ref (ad 0), .int a1] post 0 0 := by
  refine gMi_of (cc := cX10_leastLayer) (nL := 5) (ty := .int) (own := RX10) (by decide) rfl rfl (Nat.le_of_ble_eq_true rfl) ?_
  intro p e s m args below meth c A Q C0 hret
  exact t_leastLayer_0 C0 post hret a1 M hw
abbrev rm_layName : Room := { frames := 2, cells := 0, slots := 0, locals := 48 }
theorem in_layName : ∀ w ∈ wsX100, w ∈ wsX10_layName := fun w hw => List.mem_cons_of_mem _ (List.mem_append_right _ hw)
set_option maxHeartbeats 4000000 in
set_option maxRecDepth 100000 in
theorem t_layName_33 (C0 : rX p s m args c cX10_layName 4 RX10 wsX10_layName D ((cI, .int) :: (cZ, .boolean) :: ty') A) (post : Int32 → RM → Prop) (hret : ∀ (r : Int32) (M' : RM) (pc : Nat) (lv : List (Nat × Value)) (k n : Nat), k ≤ 0 → n ≤ 0 → post r M' → narrow .boolean (.int r) = .int r → decode cX10_layName pc = .ok (.ireturn, 1) → gG p l e rm_layName s m args below meth c Q D A 4 k n (rcells cI cZ ad M' Y) pc lv [.int r])  : ∀ (nf : Nat) (x1 x3 : Int32) (M : RM), w_layName_33 post  nf x1 x3 M → gG p l e rm_layName s m args below meth c Q D A 4 0 0 (rcells cI cZ ad M Y) 33 [(0, .ref (ad 0)), (1, .int x1), (3, .int x3)] [] := by
  obtain ⟨hx, hb, hml, ho, hts, hK, hA⟩ := id C0
  have hin := in_layName
  intro nf
  induction nf with
  | zero => intro x1 x3 M hw; exact hw.elim
  | succ nf ih =>
    intro x1 x3 M hw H locs ls hW hl
    rw [w_layName_33] at hw
    refine lv_iload_n hx hb dX10_layName_33 rfl (lv_at hl 2 rfl) ?_
    refine lv_iload_n hx hb dX10_layName_34 rfl (lv_at hl 1 rfl) ?_
    refine lv_icmp_gt (tgt := 93) hx hb dX10_layName_35 (by decide) (fun c8 => ?_) (fun c8 => ?_)
    · have hw := hw.1 c8
      try dsimp only at hw
      refine lv_iconst (v := 1) hx hb dX10_layName_93 (by decide) ?_
      exact hret 1 M _ _ 0 0 (Nat.le_refl _) (Nat.le_refl _) hw (by decide) dX10_layName_94 _ _ _ hW hl
    · have hw := hw.2 c8
      try dsimp only at hw
      refine lv_aload_n hx hb dX10_layName_38 rfl (lv_at hl 0 rfl) ?_
      refine r_get C0 hin hW 20 (by decide) (v := .ref (ad 13)) rfl (List.mem_of_getElem? (i := 1) rfl) rfl dX10_layName_39 ?_
      refine lv_iload_n hx hb dX10_layName_42 rfl (lv_at hl 2 rfl) ?_
      refine lv_dup2_11 hx hb dX10_layName_43 rfl rfl ?_
      obtain ⟨h9, hw⟩ := hw
      refine r_iald C0 hW 13 rfl rfl h9 dX10_layName_44 ?_
      refine lv_aload_n hx hb dX10_layName_45 rfl (lv_at hl 0 rfl) ?_
      refine r_get C0 hin hW 20 (by decide) (v := .ref (ad 13)) rfl (List.mem_of_getElem? (i := 1) rfl) rfl dX10_layName_46 ?_
      refine lv_iload_n hx hb dX10_layName_49 rfl (lv_at hl 2 rfl) ?_
      obtain ⟨h10, hw⟩ := hw
      refine r_iald C0 hW 13 rfl rfl h10 dX10_layName_50 ?_
      refine lv_aload_n hx hb dX10_layName_51 rfl (lv_at hl 0 rfl) ?_
      refine r_get C0 hin hW 1 (by decide) (v := .ref (ad 2)) rfl (List.mem_of_getElem? (i := 2) rfl) rfl dX10_layName_52 ?_
      refine lv_iload_n hx hb dX10_layName_55 rfl (lv_at hl 2 rfl) ?_
      obtain ⟨h11, hw⟩ := hw
      refine r_iald C0 hW 2 rfl rfl h11 dX10_layName_56 ?_
      refine lv_icmp_ge (tgt := 84) hx hb dX10_layName_57 (by decide) (fun c12 => ?_) (fun c12 => ?_)
      · have hw := hw.1 c12
        try dsimp only at hw
        refine lv_iconst (v := 0) hx hb dX10_layName_84 (by decide) ?_
        refine lv_iadd hx hb dX10_layName_85 ?_
        obtain ⟨h13, hw⟩ := hw
        refine r_iast C0 hW 13 rfl rfl h13 rfl dX10_layName_86 (fun M14 H locs eM14 hW => ?_)
        have hw := hw M14 eM14
        obtain ⟨v15, ev15⟩ : ∃ y : Int32, y = x3 + 1 := ⟨_, rfl⟩
        have hw := hw v15 ev15
        refine lv_iinc (v := v15) (lv' := [(3, .int v15), (0, .ref (ad 0)), (1, .int x1)]) hx hb dX10_layName_87 hl (k := 2) rfl (by rw [ev15]; rfl) (by decide) rfl (fun ls hl => ?_)
        refine lv_goto (tgt := 33) hx hb dX10_layName_90 (by decide) ?_
        exact ih x1 v15 M14 hw _ _ _ hW (lv_sub hl [1, 2, 0] rfl)
      · have hw := hw.2 c12
        try dsimp only at hw
        refine lv_aload_n hx hb dX10_layName_60 rfl (lv_at hl 0 rfl) ?_
        refine lv_iload_n hx hb dX10_layName_61 rfl (lv_at hl 2 rfl) ?_
        refine lv_aload_n hx hb dX10_layName_62 rfl (lv_at hl 0 rfl) ?_
        refine r_get C0 hin hW 20 (by decide) (v := .ref (ad 13)) rfl (List.mem_of_getElem? (i := 1) rfl) rfl dX10_layName_63 ?_
        refine lv_iload_n hx hb dX10_layName_66 rfl (lv_at hl 2 rfl) ?_
        obtain ⟨h16, hw⟩ := hw
        refine r_iald C0 hW 13 rfl rfl h16 dX10_layName_67 ?_
        refine g_calls (As := [.int x3, .int (M 13 x3.toNatClampNeg)]) (rest := [.ref (ad 0), .int (M 13 x3.toNatClampNeg), .int x3, .ref (ad 13)]) ⟨hx, hb, hml, ho, hts⟩ hl.1 (k_entryOf (l := l) _ x3 (M 13 x3.toNatClampNeg) hw) (va_cwS 2 hts gX10_layName_X10_entryOf rfl rfl rfl (by decide +kernel) ⟨Nat.le_of_ble_eq_true rfl, Nat.le_of_ble_eq_true rfl⟩) (Nat.le_of_ble_eq_true rfl) dX10_layName_68 rfl ⟨Nat.le_of_ble_eq_true rfl, Nat.le_of_ble_eq_true rfl⟩ (fun r17 hw => ?_)
        try dsimp only at hw
        refine lv_sipush (v := 1806) hx hb dX10_layName_71 (by decide) ?_
        refine g_calli (cw0 := fun M => rcells cI cZ ad M Y) (M := M) (As := [.int r17, .int 1806]) (rest := [.int (M 13 x3.toNatClampNeg), .int x3, .ref (ad 13)]) C0 hW hl.1 (k_compare (l := l) _ r17 1806 _ hw) (cwV 2 hts gX10_layName_X10_compare rfl rfl rfl (by decide +kernel) ⟨Nat.le_of_ble_eq_true rfl, Nat.le_of_ble_eq_true rfl⟩) (r_recv C0 hW) (Nat.le_of_ble_eq_true rfl) dX10_layName_74 rfl ⟨Nat.le_of_ble_eq_true rfl, Nat.le_of_ble_eq_true rfl⟩ (fun r19 M18 H locs hw hW => ?_)
        try dsimp only at hw
        refine lv_if_ne (tgt := 84) hx hb dX10_layName_77 (by decide) (fun c20 => ?_) (fun c20 => ?_)
        · have hw := hw.1 c20
          try dsimp only at hw
          refine lv_iconst (v := 0) hx hb dX10_layName_84 (by decide) ?_
          refine lv_iadd hx hb dX10_layName_85 ?_
          obtain ⟨h21, hw⟩ := hw
          refine r_iast C0 hW 13 rfl rfl h21 rfl dX10_layName_86 (fun M22 H locs eM22 hW => ?_)
          have hw := hw M22 eM22
          obtain ⟨v23, ev23⟩ : ∃ y : Int32, y = x3 + 1 := ⟨_, rfl⟩
          have hw := hw v23 ev23
          refine lv_iinc (v := v23) (lv' := [(3, .int v23), (0, .ref (ad 0)), (1, .int x1)]) hx hb dX10_layName_87 hl (k := 2) rfl (by rw [ev23]; rfl) (by decide) rfl (fun ls hl => ?_)
          refine lv_goto (tgt := 33) hx hb dX10_layName_90 (by decide) ?_
          exact ih x1 v23 M22 hw _ _ _ hW (lv_sub hl [1, 2, 0] rfl)
        · have hw := hw.2 c20
          try dsimp only at hw
          refine lv_iconst (v := 1) hx hb dX10_layName_80 (by decide) ?_
          refine lv_goto (tgt := 85) hx hb dX10_layName_81 (by decide) ?_
          refine lv_iadd hx hb dX10_layName_85 ?_
          obtain ⟨h24, hw⟩ := hw
          refine r_iast C0 hW 13 rfl rfl h24 rfl dX10_layName_86 (fun M25 H locs eM25 hW => ?_)
          have hw := hw M25 eM25
          obtain ⟨v26, ev26⟩ : ∃ y : Int32, y = x3 + 1 := ⟨_, rfl⟩
          have hw := hw v26 ev26
          refine lv_iinc (v := v26) (lv' := [(3, .int v26), (0, .ref (ad 0)), (1, .int x1)]) hx hb dX10_layName_87 hl (k := 2) rfl (by rw [ev26]; rfl) (by decide) rfl (fun ls hl => ?_)
          refine lv_goto (tgt := 33) hx hb dX10_layName_90 (by decide) ?_
          exact ih x1 v26 M25 hw _ _ _ hW (lv_sub hl [1, 2, 0] rfl)
set_option maxHeartbeats 4000000 in
set_option maxRecDepth 100000 in
theorem t_layName_0 (C0 : rX p s m args c cX10_layName 4 RX10 wsX10_layName D ((cI, .int) :: (cZ, .boolean) :: ty') A) (post : Int32 → RM → Prop) (hret : ∀ (r : Int32) (M' : RM) (pc : Nat) (lv : List (Nat × Value)) (k n : Nat), k ≤ 0 → n ≤ 0 → post r M' → narrow .boolean (.int r) = .int r → decode cX10_layName pc = .ok (.ireturn, 1) → gG p l e rm_layName s m args below meth c Q D A 4 k n (rcells cI cZ ad M' Y) pc lv [.int r])  : ∀  (a1 : Int32) (M : RM), w_layName post   a1 M → gG p l e rm_layName s m args below meth c Q D A 4 0 0 (rcells cI cZ ad M Y) 0 [(0, .ref (ad 0)), (1, .int a1)] [] := by
  obtain ⟨hx, hb, hml, ho, hts, hK, hA⟩ := id C0
  have hin := in_layName
  intro a1 M hw H locs ls hW hl
  rw [w_layName] at hw
  refine lv_aload_n hx hb dX10_layName_0 rfl (lv_at hl 0 rfl) ?_
  refine lv_iload_n hx hb dX10_layName_1 rfl (lv_at hl 1 rfl) ?_
  refine g_calli (cw0 := fun M => rcells cI cZ ad M Y) (M := M) (As := [.int a1]) (rest := []) C0 hW hl.1 (k_leastLayer (l := l) _ a1 _ hw) (cwV 1 hts gX10_layName_X10_leastLayer rfl rfl rfl (by decide +kernel) ⟨Nat.le_of_ble_eq_true rfl, Nat.le_of_ble_eq_true rfl⟩) (r_recv C0 hW) (Nat.le_of_ble_eq_true rfl) dX10_layName_2 rfl ⟨Nat.le_of_ble_eq_true rfl, Nat.le_of_ble_eq_true rfl⟩ (fun r2 M1 H locs hw hW => ?_)
  try dsimp only at hw
  refine lv_istore_n (lv' := [(2, .int r2), (0, .ref (ad 0)), (1, .int a1)]) hx hb dX10_layName_5 rfl hl (by decide) rfl (fun ls hl => ?_)
  refine lv_iload_n hx hb dX10_layName_6 rfl (lv_at hl 0 rfl) ?_
  refine lv_bipush (v := (-5)) hx hb dX10_layName_7 (by decide) ?_
  refine lv_icmp_ne (tgt := 14) hx hb dX10_layName_9 (by decide) (fun c3 => ?_) (fun c3 => ?_)
  · have hw := hw.1 c3
    try dsimp only at hw
    refine lv_aload_n hx hb dX10_layName_14 rfl (lv_at hl 1 rfl) ?_
    refine lv_iload_n hx hb dX10_layName_15 rfl (lv_at hl 0 rfl) ?_
    refine lv_aload_n hx hb dX10_layName_16 rfl (lv_at hl 1 rfl) ?_
    refine r_get C0 hin hW 20 (by decide) (v := .ref (ad 13)) rfl (List.mem_of_getElem? (i := 1) rfl) rfl dX10_layName_17 ?_
    refine lv_iload_n hx hb dX10_layName_20 rfl (lv_at hl 0 rfl) ?_
    obtain ⟨h4, hw⟩ := hw
    refine r_iald C0 hW 13 rfl rfl h4 dX10_layName_21 ?_
    refine g_calls (As := [.int r2, .int (M1 13 r2.toNatClampNeg)]) (rest := [.ref (ad 0)]) ⟨hx, hb, hml, ho, hts⟩ hl.1 (k_entryOf (l := l) _ r2 (M1 13 r2.toNatClampNeg) hw) (va_cwS 2 hts gX10_layName_X10_entryOf rfl rfl rfl (by decide +kernel) ⟨Nat.le_of_ble_eq_true rfl, Nat.le_of_ble_eq_true rfl⟩) (Nat.le_of_ble_eq_true rfl) dX10_layName_22 rfl ⟨Nat.le_of_ble_eq_true rfl, Nat.le_of_ble_eq_true rfl⟩ (fun r5 hw => ?_)
    try dsimp only at hw
    refine lv_sipush (v := 1806) hx hb dX10_layName_25 (by decide) ?_
    refine g_callv (cw0 := fun M => rcells cI cZ ad M Y) (M := M1) (As := [.int r5, .int 1806]) (rest := []) C0 hW hl.1 (k_copyText (l := l) _ r5 1806 _ hw) (cwV 2 hts gX10_layName_X10_copyText rfl rfl rfl (by decide +kernel) ⟨Nat.le_of_ble_eq_true rfl, Nat.le_of_ble_eq_true rfl⟩) (r_recv C0 hW) (Nat.le_of_ble_eq_true rfl) dX10_layName_28 rfl ⟨Nat.le_of_ble_eq_true rfl, Nat.le_of_ble_eq_true rfl⟩ (fun M6 H locs hw hW => ?_)
    try dsimp only at hw
    refine lv_iconst (v := 0) hx hb dX10_layName_31 (by decide) ?_
    refine lv_istore_n (lv' := [(3, .int 0), (2, .int r2), (0, .ref (ad 0)), (1, .int a1)]) hx hb dX10_layName_32 rfl hl (by decide) rfl (fun ls hl => ?_)
    obtain ⟨n7, hw⟩ := hw
    exact t_layName_33 C0 post hret  n7 a1 0 M6 hw _ _ _ hW (lv_sub hl [2, 3, 0] rfl)
  · have hw := hw.2 c3
    try dsimp only at hw
    refine lv_iconst (v := 0) hx hb dX10_layName_12 (by decide) ?_
    exact hret 0 M1 _ _ 0 0 (Nat.le_refl _) (Nat.le_refl _) hw (by decide) dX10_layName_13 _ _ _ hW hl
set_option maxHeartbeats 4000000 in
set_option maxRecDepth 100000 in
theorem k_layName {l : Launch} {D : va_G} {cI cZ : ClassId} {ty' : List (ClassId × FieldType)} {ad : Nat → Nat} {Y : va_W} {sz : Nat} (post : Int32 → RM → Prop) (a1 : Int32) (M : RM) (hw : w_layName post a1 M) : gMi l yX10_layName wsX10_layName rm_layName D ((cI, .int) :: (cZ, .boolean) :: ty') sz (fun M => rcells cI cZ ad M Y) M [.ref (ad 0), .int a1] post 0 0 := by
  refine gMi_of (cc := cX10_layName) (nL := 4) (ty := .boolean) (own := RX10) (by decide) rfl rfl (Nat.le_of_ble_eq_true rfl) ?_
  intro p e s m args below meth c A Q C0 hret
  exact t_layName_0 C0 post hret a1 M hw
abbrev rm_toNames : Room := { frames := 0, cells := 0, slots := 0, locals := 0 }
theorem in_toNames : ∀ w ∈ wsX100, w ∈ wsX10_toNames := fun w hw => List.mem_cons_of_mem _ (List.mem_append_right _ hw)
set_option maxHeartbeats 4000000 in
set_option maxRecDepth 100000 in
theorem t_toNames_2 (C0 : rX p s m args c cX10_toNames 2 RX10 wsX10_toNames D ((cI, .int) :: (cZ, .boolean) :: ty') A) (post : RM → Prop) (hret : ∀ (M' : RM) (pc : Nat) (lv : List (Nat × Value)) (k n : Nat), k ≤ 0 → n ≤ 0 → post M' → decode cX10_toNames pc = .ok (.return_, 1) → gG p l e rm_toNames s m args below meth c Q D A 2 k n (rcells cI cZ ad M' Y) pc lv [])  : ∀ (nf : Nat) (x1 : Int32) (M : RM), w_toNames_2 post  nf x1 M → gG p l e rm_toNames s m args below meth c Q D A 2 0 0 (rcells cI cZ ad M Y) 2 [(0, .ref (ad 0)), (1, .int x1)] [] := by
  obtain ⟨hx, hb, hml, ho, hts, hK, hA⟩ := id C0
  have hin := in_toNames
  intro nf
  induction nf with
  | zero => intro x1 M hw; exact hw.elim
  | succ nf ih =>
    intro x1 M hw H locs ls hW hl
    rw [w_toNames_2] at hw
    refine lv_iload_n hx hb dX10_toNames_2 rfl (lv_at hl 1 rfl) ?_
    refine lv_iconst (v := 4) hx hb dX10_toNames_3 (by decide) ?_
    refine lv_icmp_ge (tgt := 20) hx hb dX10_toNames_4 (by decide) (fun c2 => ?_) (fun c2 => ?_)
    · have hw := hw.1 c2
      try dsimp only at hw
      exact hret M _ _ 0 0 (Nat.le_refl _) (Nat.le_refl _) hw dX10_toNames_20 _ _ _ hW hl
    · have hw := hw.2 c2
      try dsimp only at hw
      refine lv_aload_n hx hb dX10_toNames_7 rfl (lv_at hl 0 rfl) ?_
      refine r_get C0 hin hW 20 (by decide) (v := .ref (ad 13)) rfl (List.mem_of_getElem? (i := 1) rfl) rfl dX10_toNames_8 ?_
      refine lv_iload_n hx hb dX10_toNames_11 rfl (lv_at hl 1 rfl) ?_
      refine lv_iconst (v := 0) hx hb dX10_toNames_12 (by decide) ?_
      obtain ⟨h3, hw⟩ := hw
      refine r_iast C0 hW 13 rfl rfl h3 rfl dX10_toNames_13 (fun M4 H locs eM4 hW => ?_)
      have hw := hw M4 eM4
      obtain ⟨v5, ev5⟩ : ∃ y : Int32, y = x1 + 1 := ⟨_, rfl⟩
      have hw := hw v5 ev5
      refine lv_iinc (v := v5) (lv' := [(1, .int v5), (0, .ref (ad 0))]) hx hb dX10_toNames_14 hl (k := 1) rfl (by rw [ev5]; rfl) (by decide) rfl (fun ls hl => ?_)
      refine lv_goto (tgt := 2) hx hb dX10_toNames_17 (by decide) ?_
      exact ih v5 M4 hw _ _ _ hW (lv_sub hl [1, 0] rfl)
set_option maxHeartbeats 4000000 in
set_option maxRecDepth 100000 in
theorem t_toNames_0 (C0 : rX p s m args c cX10_toNames 2 RX10 wsX10_toNames D ((cI, .int) :: (cZ, .boolean) :: ty') A) (post : RM → Prop) (hret : ∀ (M' : RM) (pc : Nat) (lv : List (Nat × Value)) (k n : Nat), k ≤ 0 → n ≤ 0 → post M' → decode cX10_toNames pc = .ok (.return_, 1) → gG p l e rm_toNames s m args below meth c Q D A 2 k n (rcells cI cZ ad M' Y) pc lv [])  : ∀  (M : RM), w_toNames post    M → gG p l e rm_toNames s m args below meth c Q D A 2 0 0 (rcells cI cZ ad M Y) 0 [(0, .ref (ad 0))] [] := by
  obtain ⟨hx, hb, hml, ho, hts, hK, hA⟩ := id C0
  have hin := in_toNames
  intro  M hw H locs ls hW hl
  rw [w_toNames] at hw
  refine lv_iconst (v := 0) hx hb dX10_toNames_0 (by decide) ?_
  refine lv_istore_n (lv' := [(1, .int 0), (0, .ref (ad 0))]) hx hb dX10_toNames_1 rfl hl (by decide) rfl (fun ls hl => ?_)
  obtain ⟨n1, hw⟩ := hw
  exact t_toNames_2 C0 post hret  n1 0 M hw _ _ _ hW (lv_sub hl [1, 0] rfl)
set_option maxHeartbeats 4000000 in
set_option maxRecDepth 100000 in
theorem k_toNames {l : Launch} {D : va_G} {cI cZ : ClassId} {ty' : List (ClassId × FieldType)} {ad : Nat → Nat} {Y : va_W} {sz : Nat} (post : RM → Prop) (M : RM) (hw : w_toNames post  M) : gMv l yX10_toNames wsX10_toNames rm_toNames D ((cI, .int) :: (cZ, .boolean) :: ty') sz (fun M => rcells cI cZ ad M Y) M [.ref (ad 0)] post 0 0 := by
  refine gMv_of (cc := cX10_toNames) (nL := 2) (own := RX10) (by decide) rfl rfl (Nat.le_of_ble_eq_true rfl) ?_
  intro p e s m args below meth c A Q C0 hret
  exact t_toNames_0 C0 post hret  M hw
abbrev rm_names : Room := { frames := 3, cells := 0, slots := 0, locals := 71 }
theorem in_names : ∀ w ∈ wsX100, w ∈ wsX10_names := fun w hw => List.mem_cons_of_mem _ (List.mem_append_right _ hw)
set_option maxHeartbeats 4000000 in
set_option maxRecDepth 100000 in
theorem t_names_15 (C0 : rX p s m args c cX10_names 3 RX10 wsX10_names D ((cI, .int) :: (cZ, .boolean) :: ty') A) (post : Int32 → RM → Prop) (hret : ∀ (r : Int32) (M' : RM) (pc : Nat) (lv : List (Nat × Value)) (k n : Nat), k ≤ 0 → n ≤ 0 → post r M' → narrow .int (.int r) = .int r → decode cX10_names pc = .ok (.ireturn, 1) → gG p l e rm_names s m args below meth c Q D A 3 k n (rcells cI cZ ad M' Y) pc lv [.int r])  : ∀ (nf : Nat) (x1 x2 : Int32) (M : RM), w_names_15 post  nf x1 x2 M → gG p l e rm_names s m args below meth c Q D A 3 0 0 (rcells cI cZ ad M Y) 15 [(0, .ref (ad 0)), (1, .int x1), (2, .int x2)] [] := by
  obtain ⟨hx, hb, hml, ho, hts, hK, hA⟩ := id C0
  have hin := in_names
  intro nf
  induction nf with
  | zero => intro x1 x2 M hw; exact hw.elim
  | succ nf ih =>
    intro x1 x2 M hw H locs ls hW hl
    rw [w_names_15] at hw
    refine lv_aload_n hx hb dX10_names_15 rfl (lv_at hl 0 rfl) ?_
    refine lv_iload_n hx hb dX10_names_16 rfl (lv_at hl 1 rfl) ?_
    refine g_calli (cw0 := fun M => rcells cI cZ ad M Y) (M := M) (As := [.int x1]) (rest := []) C0 hW hl.1 (k_layName (l := l) _ x1 _ hw) (cwV 1 hts gX10_names_X10_layName rfl rfl rfl (by decide +kernel) ⟨Nat.le_of_ble_eq_true rfl, Nat.le_of_ble_eq_true rfl⟩) (r_recv C0 hW) (Nat.le_of_ble_eq_true rfl) dX10_names_17 rfl ⟨Nat.le_of_ble_eq_true rfl, Nat.le_of_ble_eq_true rfl⟩ (fun r6 M5 H locs hw hW => ?_)
    try dsimp only at hw
    refine lv_if_eq (tgt := 29) hx hb dX10_names_20 (by decide) (fun c7 => ?_) (fun c7 => ?_)
    · have hw := hw.1 c7
      try dsimp only at hw
      refine lv_iload_n hx hb dX10_names_29 rfl (lv_at hl 2 rfl) ?_
      exact hret x2 M5 _ _ 0 0 (Nat.le_refl _) (Nat.le_refl _) hw rfl dX10_names_30 _ _ _ hW hl
    · have hw := hw.2 c7
      try dsimp only at hw
      obtain ⟨v8, ev8⟩ : ∃ y : Int32, y = x2 + 1 := ⟨_, rfl⟩
      have hw := hw v8 ev8
      refine lv_iinc (v := v8) (lv' := [(2, .int v8), (0, .ref (ad 0)), (1, .int x1)]) hx hb dX10_names_23 hl (k := 2) rfl (by rw [ev8]; rfl) (by decide) rfl (fun ls hl => ?_)
      refine lv_goto (tgt := 15) hx hb dX10_names_26 (by decide) ?_
      exact ih x1 v8 M5 hw _ _ _ hW (lv_sub hl [1, 2, 0] rfl)
set_option maxHeartbeats 4000000 in
set_option maxRecDepth 100000 in
theorem t_names_0 (C0 : rX p s m args c cX10_names 3 RX10 wsX10_names D ((cI, .int) :: (cZ, .boolean) :: ty') A) (post : Int32 → RM → Prop) (hret : ∀ (r : Int32) (M' : RM) (pc : Nat) (lv : List (Nat × Value)) (k n : Nat), k ≤ 0 → n ≤ 0 → post r M' → narrow .int (.int r) = .int r → decode cX10_names pc = .ok (.ireturn, 1) → gG p l e rm_names s m args below meth c Q D A 3 k n (rcells cI cZ ad M' Y) pc lv [.int r])  : ∀  (a1 : Int32) (M : RM), w_names post   a1 M → gG p l e rm_names s m args below meth c Q D A 3 0 0 (rcells cI cZ ad M Y) 0 [(0, .ref (ad 0)), (1, .int a1)] [] := by
  obtain ⟨hx, hb, hml, ho, hts, hK, hA⟩ := id C0
  have hin := in_names
  intro a1 M hw H locs ls hW hl
  rw [w_names] at hw
  refine lv_iload_n hx hb dX10_names_0 rfl (lv_at hl 1 rfl) ?_
  refine g_calls (As := [.int a1]) (rest := []) ⟨hx, hb, hml, ho, hts⟩ hl.1 (k_isLayer (l := l) _ a1 hw) (va_cwS 1 hts gX10_names_X10_isLayer rfl rfl rfl (by decide +kernel) ⟨Nat.le_of_ble_eq_true rfl, Nat.le_of_ble_eq_true rfl⟩) (Nat.le_of_ble_eq_true rfl) dX10_names_1 rfl ⟨Nat.le_of_ble_eq_true rfl, Nat.le_of_ble_eq_true rfl⟩ (fun r1 hw => ?_)
  try dsimp only at hw
  refine lv_if_ne (tgt := 9) hx hb dX10_names_4 (by decide) (fun c2 => ?_) (fun c2 => ?_)
  · have hw := hw.1 c2
    try dsimp only at hw
    refine lv_aload_n hx hb dX10_names_9 rfl (lv_at hl 0 rfl) ?_
    refine g_callv (cw0 := fun M => rcells cI cZ ad M Y) (M := M) (As := []) (rest := []) C0 hW hl.1 (k_toNames (l := l) _  _ hw) (cwV 0 hts gX10_names_X10_toNames rfl rfl rfl (by decide +kernel) ⟨Nat.le_of_ble_eq_true rfl, Nat.le_of_ble_eq_true rfl⟩) (r_recv C0 hW) (Nat.le_of_ble_eq_true rfl) dX10_names_10 rfl ⟨Nat.le_of_ble_eq_true rfl, Nat.le_of_ble_eq_true rfl⟩ (fun M3 H locs hw hW => ?_)
    try dsimp only at hw
    refine lv_iconst (v := 0) hx hb dX10_names_13 (by decide) ?_
    refine lv_istore_n (lv' := [(2, .int 0), (0, .ref (ad 0)), (1, .int a1)]) hx hb dX10_names_14 rfl hl (by decide) rfl (fun ls hl => ?_)
    obtain ⟨n4, hw⟩ := hw
    exact t_names_15 C0 post hret  n4 a1 0 M3 hw _ _ _ hW (lv_sub hl [1, 2, 0] rfl)
  · have hw := hw.2 c2
    try dsimp only at hw
    refine lv_iconst (v := (-1)) hx hb dX10_names_7 (by decide) ?_
    exact hret (-1) M _ _ 0 0 (Nat.le_refl _) (Nat.le_refl _) hw rfl dX10_names_8 _ _ _ hW hl
set_option maxHeartbeats 4000000 in
set_option maxRecDepth 100000 in
theorem k_names {l : Launch} {D : va_G} {cI cZ : ClassId} {ty' : List (ClassId × FieldType)} {ad : Nat → Nat} {Y : va_W} {sz : Nat} (post : Int32 → RM → Prop) (a1 : Int32) (M : RM) (hw : w_names post a1 M) : gMi l yX10_names wsX10_names rm_names D ((cI, .int) :: (cZ, .boolean) :: ty') sz (fun M => rcells cI cZ ad M Y) M [.ref (ad 0), .int a1] post 0 0 := by
  refine gMi_of (cc := cX10_names) (nL := 3) (ty := .int) (own := RX10) (by decide) rfl rfl (Nat.le_of_ble_eq_true rfl) ?_
  intro p e s m args below meth c A Q C0 hret
  exact t_names_0 C0 post hret a1 M hw
abbrev rm_name : Room := { frames := 3, cells := 0, slots := 0, locals := 71 }
theorem in_name : ∀ w ∈ wsX100, w ∈ wsX10_name := fun w hw => List.mem_cons_of_mem _ (List.mem_append_right _ hw)
set_option maxHeartbeats 4000000 in
set_option maxRecDepth 100000 in
theorem t_name_30 (C0 : rX p s m args c cX10_name 5 RX10 wsX10_name D ((cI, .int) :: (cZ, .boolean) :: ty') A) (post : Int32 → RM → Prop) (hret : ∀ (r : Int32) (M' : RM) (pc : Nat) (lv : List (Nat × Value)) (k n : Nat), k ≤ 0 → n ≤ 0 → post r M' → narrow .int (.int r) = .int r → decode cX10_name pc = .ok (.ireturn, 1) → gG p l e rm_name s m args below meth c Q D A 5 k n (rcells cI cZ ad M' Y) pc lv [.int r])  : ∀ (nf : Nat) (x1 x2 x3 x4 : Int32) (M : RM), w_name_30 post  nf x1 x2 x3 x4 M → gG p l e rm_name s m args below meth c Q D A 5 0 0 (rcells cI cZ ad M Y) 30 [(0, .ref (ad 0)), (1, .int x1), (2, .int x2), (3, .int x3), (4, .int x4)] [] := by
  obtain ⟨hx, hb, hml, ho, hts, hK, hA⟩ := id C0
  have hin := in_name
  intro nf
  induction nf with
  | zero => intro x1 x2 x3 x4 M hw; exact hw.elim
  | succ nf ih =>
    intro x1 x2 x3 x4 M hw H locs ls hW hl
    rw [w_name_30] at hw
    refine lv_aload_n hx hb dX10_name_30 rfl (lv_at hl 0 rfl) ?_
    refine lv_iload_n hx hb dX10_name_31 rfl (lv_at hl 1 rfl) ?_
    refine g_calli (cw0 := fun M => rcells cI cZ ad M Y) (M := M) (As := [.int x1]) (rest := []) C0 hW hl.1 (k_layName (l := l) _ x1 _ hw) (cwV 1 hts gX10_name_X10_layName rfl rfl rfl (by decide +kernel) ⟨Nat.le_of_ble_eq_true rfl, Nat.le_of_ble_eq_true rfl⟩) (r_recv C0 hW) (Nat.le_of_ble_eq_true rfl) dX10_name_32 rfl ⟨Nat.le_of_ble_eq_true rfl, Nat.le_of_ble_eq_true rfl⟩ (fun r9 M8 H locs hw hW => ?_)
    try dsimp only at hw
    refine lv_if_eq (tgt := 70) hx hb dX10_name_35 (by decide) (fun c10 => ?_) (fun c10 => ?_)
    · have hw := hw.1 c10
      try dsimp only at hw
      refine lv_bipush (v := (-5)) hx hb dX10_name_70 (by decide) ?_
      exact hret (-5) M8 _ _ 0 0 (Nat.le_refl _) (Nat.le_refl _) hw rfl dX10_name_72 _ _ _ hW hl
    · have hw := hw.2 c10
      try dsimp only at hw
      refine lv_iload hx hb dX10_name_38 (lv_at hl 4 rfl) ?_
      refine lv_iload_n hx hb dX10_name_40 rfl (lv_at hl 2 rfl) ?_
      refine lv_icmp_ne (tgt := 64) hx hb dX10_name_41 (by decide) (fun c11 => ?_) (fun c11 => ?_)
      · have hw := hw.1 c11
        try dsimp only at hw
        obtain ⟨v12, ev12⟩ : ∃ y : Int32, y = x4 + 1 := ⟨_, rfl⟩
        have hw := hw v12 ev12
        refine lv_iinc (v := v12) (lv' := [(4, .int v12), (0, .ref (ad 0)), (1, .int x1), (2, .int x2), (3, .int x3)]) hx hb dX10_name_64 hl (k := 4) rfl (by rw [ev12]; rfl) (by decide) rfl (fun ls hl => ?_)
        refine lv_goto (tgt := 30) hx hb dX10_name_67 (by decide) ?_
        exact ih x1 x2 x3 v12 M8 hw _ _ _ hW (lv_sub hl [1, 2, 3, 4, 0] rfl)
      · have hw := hw.2 c11
        try dsimp only at hw
        refine lv_aload_n hx hb dX10_name_44 rfl (lv_at hl 0 rfl) ?_
        refine lv_sipush (v := 1806) hx hb dX10_name_45 (by decide) ?_
        refine lv_iload_n hx hb dX10_name_48 rfl (lv_at hl 3 rfl) ?_
        refine g_calls (As := [.int x3]) (rest := [.int 1806, .ref (ad 0)]) ⟨hx, hb, hml, ho, hts⟩ hl.1 (k_at (l := l) _ x3 hw) (va_cwS 1 hts gX10_name_X10_at rfl rfl rfl (by decide +kernel) ⟨Nat.le_of_ble_eq_true rfl, Nat.le_of_ble_eq_true rfl⟩) (Nat.le_of_ble_eq_true rfl) dX10_name_49 rfl ⟨Nat.le_of_ble_eq_true rfl, Nat.le_of_ble_eq_true rfl⟩ (fun r13 hw => ?_)
        try dsimp only at hw
        refine g_callv (cw0 := fun M => rcells cI cZ ad M Y) (M := M8) (As := [.int 1806, .int r13]) (rest := []) C0 hW hl.1 (k_copyText (l := l) _ 1806 r13 _ hw) (cwV 2 hts gX10_name_X10_copyText rfl rfl rfl (by decide +kernel) ⟨Nat.le_of_ble_eq_true rfl, Nat.le_of_ble_eq_true rfl⟩) (r_recv C0 hW) (Nat.le_of_ble_eq_true rfl) dX10_name_52 rfl ⟨Nat.le_of_ble_eq_true rfl, Nat.le_of_ble_eq_true rfl⟩ (fun M14 H locs hw hW => ?_)
        try dsimp only at hw
        refine lv_aload_n hx hb dX10_name_55 rfl (lv_at hl 0 rfl) ?_
        refine r_get C0 hin hW 0 (by decide) (v := .ref (ad 1)) rfl (List.mem_of_getElem? (i := 1) rfl) rfl dX10_name_56 ?_
        refine lv_sipush (v := 1806) hx hb dX10_name_59 (by decide) ?_
        obtain ⟨h15, hw⟩ := hw
        refine r_iald C0 hW 1 rfl rfl h15 dX10_name_62 ?_
        exact hret (M14 1 (1806 : Int32).toNatClampNeg) M14 _ _ 0 0 (Nat.le_refl _) (Nat.le_refl _) hw rfl dX10_name_63 _ _ _ hW hl
set_option maxHeartbeats 4000000 in
set_option maxRecDepth 100000 in
theorem t_name_0 (C0 : rX p s m args c cX10_name 5 RX10 wsX10_name D ((cI, .int) :: (cZ, .boolean) :: ty') A) (post : Int32 → RM → Prop) (hret : ∀ (r : Int32) (M' : RM) (pc : Nat) (lv : List (Nat × Value)) (k n : Nat), k ≤ 0 → n ≤ 0 → post r M' → narrow .int (.int r) = .int r → decode cX10_name pc = .ok (.ireturn, 1) → gG p l e rm_name s m args below meth c Q D A 5 k n (rcells cI cZ ad M' Y) pc lv [.int r])  : ∀  (a1 a2 a3 : Int32) (M : RM), w_name post   a1 a2 a3 M → gG p l e rm_name s m args below meth c Q D A 5 0 0 (rcells cI cZ ad M Y) 0 [(0, .ref (ad 0)), (1, .int a1), (2, .int a2), (3, .int a3)] [] := by
  obtain ⟨hx, hb, hml, ho, hts, hK, hA⟩ := id C0
  have hin := in_name
  intro a1 a2 a3 M hw H locs ls hW hl
  rw [w_name] at hw
  refine lv_iload_n hx hb dX10_name_0 rfl (lv_at hl 1 rfl) ?_
  refine g_calls (As := [.int a1]) (rest := []) ⟨hx, hb, hml, ho, hts⟩ hl.1 (k_isLayer (l := l) _ a1 hw) (va_cwS 1 hts gX10_name_X10_isLayer rfl rfl rfl (by decide +kernel) ⟨Nat.le_of_ble_eq_true rfl, Nat.le_of_ble_eq_true rfl⟩) (Nat.le_of_ble_eq_true rfl) dX10_name_1 rfl ⟨Nat.le_of_ble_eq_true rfl, Nat.le_of_ble_eq_true rfl⟩ (fun r1 hw => ?_)
  try dsimp only at hw
  refine lv_if_eq (tgt := 14) hx hb dX10_name_4 (by decide) (fun c2 => ?_) (fun c2 => ?_)
  · have hw := hw.1 c2
    try dsimp only at hw
    refine lv_iconst (v := (-1)) hx hb dX10_name_14 (by decide) ?_
    exact hret (-1) M _ _ 0 0 (Nat.le_refl _) (Nat.le_refl _) hw rfl dX10_name_15 _ _ _ hW hl
  · have hw := hw.2 c2
    try dsimp only at hw
    refine lv_iload_n hx hb dX10_name_7 rfl (lv_at hl 3 rfl) ?_
    refine g_calls (As := [.int a3]) (rest := []) ⟨hx, hb, hml, ho, hts⟩ hl.1 (k_isSlot (l := l) _ a3 hw) (va_cwS 1 hts gX10_name_X10_isSlot rfl rfl rfl (by decide +kernel) ⟨Nat.le_of_ble_eq_true rfl, Nat.le_of_ble_eq_true rfl⟩) (Nat.le_of_ble_eq_true rfl) dX10_name_8 rfl ⟨Nat.le_of_ble_eq_true rfl, Nat.le_of_ble_eq_true rfl⟩ (fun r3 hw => ?_)
    try dsimp only at hw
    refine lv_if_ne (tgt := 16) hx hb dX10_name_11 (by decide) (fun c4 => ?_) (fun c4 => ?_)
    · have hw := hw.1 c4
      try dsimp only at hw
      refine lv_iload_n hx hb dX10_name_16 rfl (lv_at hl 2 rfl) ?_
      refine lv_if_ge (tgt := 23) hx hb dX10_name_17 (by decide) (fun c5 => ?_) (fun c5 => ?_)
      · have hw := hw.1 c5
        try dsimp only at hw
        refine lv_aload_n hx hb dX10_name_23 rfl (lv_at hl 0 rfl) ?_
        refine g_callv (cw0 := fun M => rcells cI cZ ad M Y) (M := M) (As := []) (rest := []) C0 hW hl.1 (k_toNames (l := l) _  _ hw) (cwV 0 hts gX10_name_X10_toNames rfl rfl rfl (by decide +kernel) ⟨Nat.le_of_ble_eq_true rfl, Nat.le_of_ble_eq_true rfl⟩) (r_recv C0 hW) (Nat.le_of_ble_eq_true rfl) dX10_name_24 rfl ⟨Nat.le_of_ble_eq_true rfl, Nat.le_of_ble_eq_true rfl⟩ (fun M6 H locs hw hW => ?_)
        try dsimp only at hw
        refine lv_iconst (v := 0) hx hb dX10_name_27 (by decide) ?_
        refine lv_istore (lv' := [(4, .int 0), (0, .ref (ad 0)), (1, .int a1), (2, .int a2), (3, .int a3)]) hx hb dX10_name_28 hl (by decide) rfl (fun ls hl => ?_)
        obtain ⟨n7, hw⟩ := hw
        exact t_name_30 C0 post hret  n7 a1 a2 a3 0 M6 hw _ _ _ hW (lv_sub hl [1, 2, 3, 4, 0] rfl)
      · have hw := hw.2 c5
        try dsimp only at hw
        refine lv_bipush (v := (-5)) hx hb dX10_name_20 (by decide) ?_
        exact hret (-5) M _ _ 0 0 (Nat.le_refl _) (Nat.le_refl _) hw rfl dX10_name_22 _ _ _ hW hl
    · have hw := hw.2 c4
      try dsimp only at hw
      refine lv_iconst (v := (-1)) hx hb dX10_name_14 (by decide) ?_
      exact hret (-1) M _ _ 0 0 (Nat.le_refl _) (Nat.le_refl _) hw rfl dX10_name_15 _ _ _ hW hl
set_option maxHeartbeats 4000000 in
set_option maxRecDepth 100000 in
theorem k_name {l : Launch} {D : va_G} {cI cZ : ClassId} {ty' : List (ClassId × FieldType)} {ad : Nat → Nat} {Y : va_W} {sz : Nat} (post : Int32 → RM → Prop) (a1 a2 a3 : Int32) (M : RM) (hw : w_name post a1 a2 a3 M) : gMi l yX10_name wsX10_name rm_name D ((cI, .int) :: (cZ, .boolean) :: ty') sz (fun M => rcells cI cZ ad M Y) M [.ref (ad 0), .int a1, .int a2, .int a3] post 0 0 := by
  refine gMi_of (cc := cX10_name) (nL := 5) (ty := .int) (own := RX10) (by decide) rfl rfl (Nat.le_of_ble_eq_true rfl) ?_
  intro p e s m args below meth c A Q C0 hret
  exact t_name_0 C0 post hret a1 a2 a3 M hw
end REFM
