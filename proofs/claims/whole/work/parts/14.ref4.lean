section REFM
variable {p : Program} {l : Launch} {e : Env} {s : State} {m : MethodId} {args : Array Value} {below : List Frame} {meth : Method} {c : Code} {Q : State → Prop}
variable {D : va_G} {A : Nat → Prop} {cI cZ : ClassId} {ty' : List (ClassId × FieldType)} {ad : Nat → Nat} {Y : va_W}
abbrev rm_keyFrom : Room := { frames := 2, cells := 0, slots := 0, locals := 47 }
theorem in_keyFrom : ∀ w ∈ wsX100, w ∈ wsX10_keyFrom := fun w hw => List.mem_cons_of_mem _ (List.mem_append_right _ hw)
set_option maxHeartbeats 4000000 in
set_option maxRecDepth 100000 in
theorem t_keyFrom_0 (C0 : rX p s m args c cX10_keyFrom 5 RX10 wsX10_keyFrom D ((cI, .int) :: (cZ, .boolean) :: ty') A) (post : Int32 → RM → Prop) (hret : ∀ (r : Int32) (M' : RM) (pc : Nat) (lv : List (Nat × Value)) (k n : Nat), k ≤ 0 → n ≤ 0 → post r M' → narrow .int (.int r) = .int r → decode cX10_keyFrom pc = .ok (.ireturn, 1) → gG p l e rm_keyFrom s m args below meth c Q D A 5 k n (rcells cI cZ ad M' Y) pc lv [.int r])  : ∀  (a1 a2 a3 : Int32) (M : RM), w_keyFrom post   a1 a2 a3 M → gG p l e rm_keyFrom s m args below meth c Q D A 5 0 0 (rcells cI cZ ad M Y) 0 [(0, .ref (ad 0)), (1, .int a1), (2, .int a2), (3, .int a3)] [] := by
  obtain ⟨hx, hb, hml, ho, hts, hK, hA⟩ := id C0
  have hin := in_keyFrom
  intro a1 a2 a3 M hw H locs ls hW hl
  rw [w_keyFrom] at hw
  refine lv_iload_n hx hb dX10_keyFrom_0 rfl (lv_at hl 1 rfl) ?_
  refine g_calls (As := [.int a1]) (rest := []) ⟨hx, hb, hml, ho, hts⟩ hl.1 (k_isLayer (l := l) _ a1 hw) (va_cwS 1 hts gX10_keyFrom_X10_isLayer rfl rfl rfl (by decide +kernel) ⟨Nat.le_of_ble_eq_true rfl, Nat.le_of_ble_eq_true rfl⟩) (Nat.le_of_ble_eq_true rfl) dX10_keyFrom_1 rfl ⟨Nat.le_of_ble_eq_true rfl, Nat.le_of_ble_eq_true rfl⟩ (fun r1 hw => ?_)
  try dsimp only at hw
  refine lv_if_eq (tgt := 21) hx hb dX10_keyFrom_4 (by decide) (fun c2 => ?_) (fun c2 => ?_)
  · have hw := hw.1 c2
    try dsimp only at hw
    refine lv_iconst (v := (-1)) hx hb dX10_keyFrom_21 (by decide) ?_
    exact hret (-1) M _ _ 0 0 (Nat.le_refl _) (Nat.le_refl _) hw rfl dX10_keyFrom_22 _ _ _ hW hl
  · have hw := hw.2 c2
    try dsimp only at hw
    refine lv_iload_n hx hb dX10_keyFrom_7 rfl (lv_at hl 2 rfl) ?_
    refine g_calls (As := [.int a2]) (rest := []) ⟨hx, hb, hml, ho, hts⟩ hl.1 (k_isSlot (l := l) _ a2 hw) (va_cwS 1 hts gX10_keyFrom_X10_isSlot rfl rfl rfl (by decide +kernel) ⟨Nat.le_of_ble_eq_true rfl, Nat.le_of_ble_eq_true rfl⟩) (Nat.le_of_ble_eq_true rfl) dX10_keyFrom_8 rfl ⟨Nat.le_of_ble_eq_true rfl, Nat.le_of_ble_eq_true rfl⟩ (fun r3 hw => ?_)
    try dsimp only at hw
    refine lv_if_eq (tgt := 21) hx hb dX10_keyFrom_11 (by decide) (fun c4 => ?_) (fun c4 => ?_)
    · have hw := hw.1 c4
      try dsimp only at hw
      refine lv_iconst (v := (-1)) hx hb dX10_keyFrom_21 (by decide) ?_
      exact hret (-1) M _ _ 0 0 (Nat.le_refl _) (Nat.le_refl _) hw rfl dX10_keyFrom_22 _ _ _ hW hl
    · have hw := hw.2 c4
      try dsimp only at hw
      refine lv_iload_n hx hb dX10_keyFrom_14 rfl (lv_at hl 3 rfl) ?_
      refine g_calls (As := [.int a3]) (rest := []) ⟨hx, hb, hml, ho, hts⟩ hl.1 (k_isSlot (l := l) _ a3 hw) (va_cwS 1 hts gX10_keyFrom_X10_isSlot rfl rfl rfl (by decide +kernel) ⟨Nat.le_of_ble_eq_true rfl, Nat.le_of_ble_eq_true rfl⟩) (Nat.le_of_ble_eq_true rfl) dX10_keyFrom_15 rfl ⟨Nat.le_of_ble_eq_true rfl, Nat.le_of_ble_eq_true rfl⟩ (fun r5 hw => ?_)
      try dsimp only at hw
      refine lv_if_ne (tgt := 23) hx hb dX10_keyFrom_18 (by decide) (fun c6 => ?_) (fun c6 => ?_)
      · have hw := hw.1 c6
        try dsimp only at hw
        refine lv_aload_n hx hb dX10_keyFrom_23 rfl (lv_at hl 0 rfl) ?_
        refine lv_iload_n hx hb dX10_keyFrom_24 rfl (lv_at hl 2 rfl) ?_
        refine g_calli (cw0 := fun M => rcells cI cZ ad M Y) (M := M) (As := [.int a2]) (rest := []) C0 hW hl.1 (k_hasNothing (l := l) _ a2 _ hw) (cwV 1 hts gX10_keyFrom_X10_hasNothing rfl rfl rfl (by decide +kernel) ⟨Nat.le_of_ble_eq_true rfl, Nat.le_of_ble_eq_true rfl⟩) (r_recv C0 hW) (Nat.le_of_ble_eq_true rfl) dX10_keyFrom_25 rfl ⟨Nat.le_of_ble_eq_true rfl, Nat.le_of_ble_eq_true rfl⟩ (fun r8 M7 H locs hw hW => ?_)
        try dsimp only at hw
        refine lv_if_eq (tgt := 34) hx hb dX10_keyFrom_28 (by decide) (fun c9 => ?_) (fun c9 => ?_)
        · have hw := hw.1 c9
          try dsimp only at hw
          refine lv_aload_n hx hb dX10_keyFrom_34 rfl (lv_at hl 0 rfl) ?_
          refine lv_iload_n hx hb dX10_keyFrom_35 rfl (lv_at hl 1 rfl) ?_
          refine lv_iload_n hx hb dX10_keyFrom_36 rfl (lv_at hl 2 rfl) ?_
          refine g_calls (As := [.int a2]) (rest := [.int a1, .ref (ad 0)]) ⟨hx, hb, hml, ho, hts⟩ hl.1 (k_at (l := l) _ a2 hw) (va_cwS 1 hts gX10_keyFrom_X10_at rfl rfl rfl (by decide +kernel) ⟨Nat.le_of_ble_eq_true rfl, Nat.le_of_ble_eq_true rfl⟩) (Nat.le_of_ble_eq_true rfl) dX10_keyFrom_37 rfl ⟨Nat.le_of_ble_eq_true rfl, Nat.le_of_ble_eq_true rfl⟩ (fun r10 hw => ?_)
          try dsimp only at hw
          refine g_calli (cw0 := fun M => rcells cI cZ ad M Y) (M := M7) (As := [.int a1, .int r10]) (rest := []) C0 hW hl.1 (k_placeOf (l := l) _ a1 r10 _ hw) (cwV 2 hts gX10_keyFrom_X10_placeOf rfl rfl rfl (by decide +kernel) ⟨Nat.le_of_ble_eq_true rfl, Nat.le_of_ble_eq_true rfl⟩) (r_recv C0 hW) (Nat.le_of_ble_eq_true rfl) dX10_keyFrom_40 rfl ⟨Nat.le_of_ble_eq_true rfl, Nat.le_of_ble_eq_true rfl⟩ (fun r12 M11 H locs hw hW => ?_)
          try dsimp only at hw
          refine lv_istore (lv' := [(4, .int r12), (0, .ref (ad 0)), (1, .int a1), (2, .int a2), (3, .int a3)]) hx hb dX10_keyFrom_43 hl (by decide) rfl (fun ls hl => ?_)
          refine lv_iload hx hb dX10_keyFrom_45 (lv_at hl 0 rfl) ?_
          refine lv_aload_n hx hb dX10_keyFrom_47 rfl (lv_at hl 1 rfl) ?_
          refine r_get C0 hin hW 1 (by decide) (v := .ref (ad 2)) rfl (List.mem_of_getElem? (i := 1) rfl) rfl dX10_keyFrom_48 ?_
          refine lv_iload_n hx hb dX10_keyFrom_51 rfl (lv_at hl 2 rfl) ?_
          obtain ⟨h13, hw⟩ := hw
          refine r_iald C0 hW 2 rfl rfl h13 dX10_keyFrom_52 ?_
          refine lv_icmp_ne (tgt := 59) hx hb dX10_keyFrom_53 (by decide) (fun c14 => ?_) (fun c14 => ?_)
          · have hw := hw.1 c14
            try dsimp only at hw
            refine lv_aload_n hx hb dX10_keyFrom_59 rfl (lv_at hl 1 rfl) ?_
            refine lv_iload_n hx hb dX10_keyFrom_60 rfl (lv_at hl 2 rfl) ?_
            refine lv_iload hx hb dX10_keyFrom_61 (lv_at hl 0 rfl) ?_
            refine g_calls (As := [.int a1, .int r12]) (rest := [.ref (ad 0)]) ⟨hx, hb, hml, ho, hts⟩ hl.1 (k_entryOf (l := l) _ a1 r12 hw) (va_cwS 2 hts gX10_keyFrom_X10_entryOf rfl rfl rfl (by decide +kernel) ⟨Nat.le_of_ble_eq_true rfl, Nat.le_of_ble_eq_true rfl⟩) (Nat.le_of_ble_eq_true rfl) dX10_keyFrom_63 rfl ⟨Nat.le_of_ble_eq_true rfl, Nat.le_of_ble_eq_true rfl⟩ (fun r15 hw => ?_)
            try dsimp only at hw
            refine lv_iload_n hx hb dX10_keyFrom_66 rfl (lv_at hl 4 rfl) ?_
            refine g_calls (As := [.int a3]) (rest := [.int r15, .ref (ad 0)]) ⟨hx, hb, hml, ho, hts⟩ hl.1 (k_at (l := l) _ a3 hw) (va_cwS 1 hts gX10_keyFrom_X10_at rfl rfl rfl (by decide +kernel) ⟨Nat.le_of_ble_eq_true rfl, Nat.le_of_ble_eq_true rfl⟩) (Nat.le_of_ble_eq_true rfl) dX10_keyFrom_67 rfl ⟨Nat.le_of_ble_eq_true rfl, Nat.le_of_ble_eq_true rfl⟩ (fun r16 hw => ?_)
            try dsimp only at hw
            refine g_callv (cw0 := fun M => rcells cI cZ ad M Y) (M := M11) (As := [.int r15, .int r16]) (rest := []) C0 hW hl.1 (k_copyText (l := l) _ r15 r16 _ hw) (cwV 2 hts gX10_keyFrom_X10_copyText rfl rfl rfl (by decide +kernel) ⟨Nat.le_of_ble_eq_true rfl, Nat.le_of_ble_eq_true rfl⟩) (r_recv C0 hW) (Nat.le_of_ble_eq_true rfl) dX10_keyFrom_70 rfl ⟨Nat.le_of_ble_eq_true rfl, Nat.le_of_ble_eq_true rfl⟩ (fun M17 H locs hw hW => ?_)
            try dsimp only at hw
            refine lv_aload_n hx hb dX10_keyFrom_73 rfl (lv_at hl 1 rfl) ?_
            refine r_get C0 hin hW 0 (by decide) (v := .ref (ad 1)) rfl (List.mem_of_getElem? (i := 2) rfl) rfl dX10_keyFrom_74 ?_
            refine lv_iload_n hx hb dX10_keyFrom_77 rfl (lv_at hl 4 rfl) ?_
            refine g_calls (As := [.int a3]) (rest := [.ref (ad 1)]) ⟨hx, hb, hml, ho, hts⟩ hl.1 (k_at (l := l) _ a3 hw) (va_cwS 1 hts gX10_keyFrom_X10_at rfl rfl rfl (by decide +kernel) ⟨Nat.le_of_ble_eq_true rfl, Nat.le_of_ble_eq_true rfl⟩) (Nat.le_of_ble_eq_true rfl) dX10_keyFrom_78 rfl ⟨Nat.le_of_ble_eq_true rfl, Nat.le_of_ble_eq_true rfl⟩ (fun r18 hw => ?_)
            try dsimp only at hw
            obtain ⟨h19, hw⟩ := hw
            refine r_iald C0 hW 1 rfl rfl h19 dX10_keyFrom_81 ?_
            exact hret (M17 1 r18.toNatClampNeg) M17 _ _ 0 0 (Nat.le_refl _) (Nat.le_refl _) hw rfl dX10_keyFrom_82 _ _ _ hW hl
          · have hw := hw.2 c14
            try dsimp only at hw
            refine lv_bipush (v := (-5)) hx hb dX10_keyFrom_56 (by decide) ?_
            exact hret (-5) M11 _ _ 0 0 (Nat.le_refl _) (Nat.le_refl _) hw rfl dX10_keyFrom_58 _ _ _ hW hl
        · have hw := hw.2 c9
          try dsimp only at hw
          refine lv_bipush (v := (-2)) hx hb dX10_keyFrom_31 (by decide) ?_
          exact hret (-2) M7 _ _ 0 0 (Nat.le_refl _) (Nat.le_refl _) hw rfl dX10_keyFrom_33 _ _ _ hW hl
      · have hw := hw.2 c6
        try dsimp only at hw
        refine lv_iconst (v := (-1)) hx hb dX10_keyFrom_21 (by decide) ?_
        exact hret (-1) M _ _ 0 0 (Nat.le_refl _) (Nat.le_refl _) hw rfl dX10_keyFrom_22 _ _ _ hW hl
set_option maxHeartbeats 4000000 in
set_option maxRecDepth 100000 in
theorem k_keyFrom {l : Launch} {D : va_G} {cI cZ : ClassId} {ty' : List (ClassId × FieldType)} {ad : Nat → Nat} {Y : va_W} {sz : Nat} (post : Int32 → RM → Prop) (a1 a2 a3 : Int32) (M : RM) (hw : w_keyFrom post a1 a2 a3 M) : gMi l yX10_keyFrom wsX10_keyFrom rm_keyFrom D ((cI, .int) :: (cZ, .boolean) :: ty') sz (fun M => rcells cI cZ ad M Y) M [.ref (ad 0), .int a1, .int a2, .int a3] post 0 0 := by
  refine gMi_of (cc := cX10_keyFrom) (nL := 5) (ty := .int) (own := RX10) (by decide) rfl rfl (Nat.le_of_ble_eq_true rfl) ?_
  intro p e s m args below meth c A Q C0 hret
  exact t_keyFrom_0 C0 post hret a1 a2 a3 M hw
abbrev rm_alike : Room := { frames := 2, cells := 0, slots := 0, locals := 42 }
theorem in_alike : ∀ w ∈ wsX100, w ∈ wsX10_alike := fun w hw => List.mem_cons_of_mem _ (List.mem_append_right _ hw)
set_option maxHeartbeats 4000000 in
set_option maxRecDepth 100000 in
theorem t_alike_40 (C0 : rX p s m args c cX10_alike 5 RX10 wsX10_alike D ((cI, .int) :: (cZ, .boolean) :: ty') A) (post : Int32 → RM → Prop) (hret : ∀ (r : Int32) (M' : RM) (pc : Nat) (lv : List (Nat × Value)) (k n : Nat), k ≤ 0 → n ≤ 0 → post r M' → narrow .int (.int r) = .int r → decode cX10_alike pc = .ok (.ireturn, 1) → gG p l e rm_alike s m args below meth c Q D A 5 k n (rcells cI cZ ad M' Y) pc lv [.int r])  : ∀ (nf : Nat) (x1 x2 x3 x4 : Int32) (M : RM), w_alike_40 post  nf x1 x2 x3 x4 M → gG p l e rm_alike s m args below meth c Q D A 5 0 0 (rcells cI cZ ad M Y) 40 [(0, .ref (ad 0)), (1, .int x1), (2, .int x2), (3, .int x3), (4, .int x4)] [] := by
  obtain ⟨hx, hb, hml, ho, hts, hK, hA⟩ := id C0
  have hin := in_alike
  intro nf
  induction nf with
  | zero => intro x1 x2 x3 x4 M hw; exact hw.elim
  | succ nf ih =>
    intro x1 x2 x3 x4 M hw H locs ls hW hl
    rw [w_alike_40] at hw
    refine lv_iload hx hb dX10_alike_40 (lv_at hl 4 rfl) ?_
    refine lv_aload_n hx hb dX10_alike_42 rfl (lv_at hl 0 rfl) ?_
    refine r_get C0 hin hW 1 (by decide) (v := .ref (ad 2)) rfl (List.mem_of_getElem? (i := 1) rfl) rfl dX10_alike_43 ?_
    refine lv_iload_n hx hb dX10_alike_46 rfl (lv_at hl 1 rfl) ?_
    obtain ⟨h10, hw⟩ := hw
    refine r_iald C0 hW 2 rfl rfl h10 dX10_alike_47 ?_
    refine lv_icmp_ge (tgt := 105) hx hb dX10_alike_48 (by decide) (fun c11 => ?_) (fun c11 => ?_)
    · have hw := hw.1 c11
      try dsimp only at hw
      refine lv_iload_n hx hb dX10_alike_105 rfl (lv_at hl 3 rfl) ?_
      refine lv_if_eq (tgt := 113) hx hb dX10_alike_106 (by decide) (fun c12 => ?_) (fun c12 => ?_)
      · have hw := hw.1 c12
        try dsimp only at hw
        refine lv_iconst (v := 0) hx hb dX10_alike_113 (by decide) ?_
        exact hret 0 M _ _ 0 0 (Nat.le_refl _) (Nat.le_refl _) hw rfl dX10_alike_114 _ _ _ hW hl
      · have hw := hw.2 c12
        try dsimp only at hw
        refine lv_iconst (v := 1) hx hb dX10_alike_109 (by decide) ?_
        refine lv_goto (tgt := 114) hx hb dX10_alike_110 (by decide) ?_
        exact hret 1 M _ _ 0 0 (Nat.le_refl _) (Nat.le_refl _) hw rfl dX10_alike_114 _ _ _ hW hl
    · have hw := hw.2 c11
      try dsimp only at hw
      refine lv_iload_n hx hb dX10_alike_51 rfl (lv_at hl 3 rfl) ?_
      refine lv_if_eq (tgt := 105) hx hb dX10_alike_52 (by decide) (fun c13 => ?_) (fun c13 => ?_)
      · have hw := hw.1 c13
        try dsimp only at hw
        refine lv_iload_n hx hb dX10_alike_105 rfl (lv_at hl 3 rfl) ?_
        refine lv_if_eq (tgt := 113) hx hb dX10_alike_106 (by decide) (fun c14 => ?_) (fun c14 => ?_)
        · have hw := hw.1 c14
          try dsimp only at hw
          refine lv_iconst (v := 0) hx hb dX10_alike_113 (by decide) ?_
          exact hret 0 M _ _ 0 0 (Nat.le_refl _) (Nat.le_refl _) hw rfl dX10_alike_114 _ _ _ hW hl
        · have hw := hw.2 c14
          try dsimp only at hw
          refine lv_iconst (v := 1) hx hb dX10_alike_109 (by decide) ?_
          refine lv_goto (tgt := 114) hx hb dX10_alike_110 (by decide) ?_
          exact hret 1 M _ _ 0 0 (Nat.le_refl _) (Nat.le_refl _) hw rfl dX10_alike_114 _ _ _ hW hl
      · have hw := hw.2 c13
        try dsimp only at hw
        refine lv_aload_n hx hb dX10_alike_55 rfl (lv_at hl 0 rfl) ?_
        refine lv_iload_n hx hb dX10_alike_56 rfl (lv_at hl 1 rfl) ?_
        refine lv_iload hx hb dX10_alike_57 (lv_at hl 4 rfl) ?_
        refine g_calls (As := [.int x1, .int x4]) (rest := [.ref (ad 0)]) ⟨hx, hb, hml, ho, hts⟩ hl.1 (k_entryOf (l := l) _ x1 x4 hw) (va_cwS 2 hts gX10_alike_X10_entryOf rfl rfl rfl (by decide +kernel) ⟨Nat.le_of_ble_eq_true rfl, Nat.le_of_ble_eq_true rfl⟩) (Nat.le_of_ble_eq_true rfl) dX10_alike_59 rfl ⟨Nat.le_of_ble_eq_true rfl, Nat.le_of_ble_eq_true rfl⟩ (fun r15 hw => ?_)
        try dsimp only at hw
        refine lv_iload_n hx hb dX10_alike_62 rfl (lv_at hl 2 rfl) ?_
        refine lv_iload hx hb dX10_alike_63 (lv_at hl 4 rfl) ?_
        refine g_calls (As := [.int x2, .int x4]) (rest := [.int r15, .ref (ad 0)]) ⟨hx, hb, hml, ho, hts⟩ hl.1 (k_entryOf (l := l) _ x2 x4 hw) (va_cwS 2 hts gX10_alike_X10_entryOf rfl rfl rfl (by decide +kernel) ⟨Nat.le_of_ble_eq_true rfl, Nat.le_of_ble_eq_true rfl⟩) (Nat.le_of_ble_eq_true rfl) dX10_alike_65 rfl ⟨Nat.le_of_ble_eq_true rfl, Nat.le_of_ble_eq_true rfl⟩ (fun r16 hw => ?_)
        try dsimp only at hw
        refine g_calli (cw0 := fun M => rcells cI cZ ad M Y) (M := M) (As := [.int r15, .int r16]) (rest := []) C0 hW hl.1 (k_compare (l := l) _ r15 r16 _ hw) (cwV 2 hts gX10_alike_X10_compare rfl rfl rfl (by decide +kernel) ⟨Nat.le_of_ble_eq_true rfl, Nat.le_of_ble_eq_true rfl⟩) (r_recv C0 hW) (Nat.le_of_ble_eq_true rfl) dX10_alike_68 rfl ⟨Nat.le_of_ble_eq_true rfl, Nat.le_of_ble_eq_true rfl⟩ (fun r18 M17 H locs hw hW => ?_)
        try dsimp only at hw
        refine lv_if_ne (tgt := 97) hx hb dX10_alike_71 (by decide) (fun c19 => ?_) (fun c19 => ?_)
        · have hw := hw.1 c19
          try dsimp only at hw
          refine lv_iconst (v := 0) hx hb dX10_alike_97 (by decide) ?_
          refine lv_istore_n (lv' := [(3, .int 0), (0, .ref (ad 0)), (1, .int x1), (2, .int x2), (4, .int x4)]) hx hb dX10_alike_98 rfl hl (by decide) rfl (fun ls hl => ?_)
          obtain ⟨v20, ev20⟩ : ∃ y : Int32, y = x4 + 1 := ⟨_, rfl⟩
          have hw := hw v20 ev20
          refine lv_iinc (v := v20) (lv' := [(4, .int v20), (3, .int 0), (0, .ref (ad 0)), (1, .int x1), (2, .int x2)]) hx hb dX10_alike_99 hl (k := 4) rfl (by rw [ev20]; rfl) (by decide) rfl (fun ls hl => ?_)
          refine lv_goto (tgt := 40) hx hb dX10_alike_102 (by decide) ?_
          exact ih x1 x2 0 v20 M17 hw _ _ _ hW (lv_sub hl [2, 3, 4, 1, 0] rfl)
        · have hw := hw.2 c19
          try dsimp only at hw
          refine lv_aload_n hx hb dX10_alike_74 rfl (lv_at hl 0 rfl) ?_
          refine lv_iload_n hx hb dX10_alike_75 rfl (lv_at hl 1 rfl) ?_
          refine lv_iload hx hb dX10_alike_76 (lv_at hl 4 rfl) ?_
          refine g_calls (As := [.int x1, .int x4]) (rest := [.ref (ad 0)]) ⟨hx, hb, hml, ho, hts⟩ hl.1 (k_valueOf (l := l) _ x1 x4 hw) (va_cwS 2 hts gX10_alike_X10_valueOf rfl rfl rfl (by decide +kernel) ⟨Nat.le_of_ble_eq_true rfl, Nat.le_of_ble_eq_true rfl⟩) (Nat.le_of_ble_eq_true rfl) dX10_alike_78 rfl ⟨Nat.le_of_ble_eq_true rfl, Nat.le_of_ble_eq_true rfl⟩ (fun r21 hw => ?_)
          try dsimp only at hw
          refine lv_iload_n hx hb dX10_alike_81 rfl (lv_at hl 2 rfl) ?_
          refine lv_iload hx hb dX10_alike_82 (lv_at hl 4 rfl) ?_
          refine g_calls (As := [.int x2, .int x4]) (rest := [.int r21, .ref (ad 0)]) ⟨hx, hb, hml, ho, hts⟩ hl.1 (k_valueOf (l := l) _ x2 x4 hw) (va_cwS 2 hts gX10_alike_X10_valueOf rfl rfl rfl (by decide +kernel) ⟨Nat.le_of_ble_eq_true rfl, Nat.le_of_ble_eq_true rfl⟩) (Nat.le_of_ble_eq_true rfl) dX10_alike_84 rfl ⟨Nat.le_of_ble_eq_true rfl, Nat.le_of_ble_eq_true rfl⟩ (fun r22 hw => ?_)
          try dsimp only at hw
          refine g_calli (cw0 := fun M => rcells cI cZ ad M Y) (M := M17) (As := [.int r21, .int r22]) (rest := []) C0 hW hl.1 (k_compare (l := l) _ r21 r22 _ hw) (cwV 2 hts gX10_alike_X10_compare rfl rfl rfl (by decide +kernel) ⟨Nat.le_of_ble_eq_true rfl, Nat.le_of_ble_eq_true rfl⟩) (r_recv C0 hW) (Nat.le_of_ble_eq_true rfl) dX10_alike_87 rfl ⟨Nat.le_of_ble_eq_true rfl, Nat.le_of_ble_eq_true rfl⟩ (fun r24 M23 H locs hw hW => ?_)
          try dsimp only at hw
          refine lv_if_ne (tgt := 97) hx hb dX10_alike_90 (by decide) (fun c25 => ?_) (fun c25 => ?_)
          · have hw := hw.1 c25
            try dsimp only at hw
            refine lv_iconst (v := 0) hx hb dX10_alike_97 (by decide) ?_
            refine lv_istore_n (lv' := [(3, .int 0), (0, .ref (ad 0)), (1, .int x1), (2, .int x2), (4, .int x4)]) hx hb dX10_alike_98 rfl hl (by decide) rfl (fun ls hl => ?_)
            obtain ⟨v26, ev26⟩ : ∃ y : Int32, y = x4 + 1 := ⟨_, rfl⟩
            have hw := hw v26 ev26
            refine lv_iinc (v := v26) (lv' := [(4, .int v26), (3, .int 0), (0, .ref (ad 0)), (1, .int x1), (2, .int x2)]) hx hb dX10_alike_99 hl (k := 4) rfl (by rw [ev26]; rfl) (by decide) rfl (fun ls hl => ?_)
            refine lv_goto (tgt := 40) hx hb dX10_alike_102 (by decide) ?_
            exact ih x1 x2 0 v26 M23 hw _ _ _ hW (lv_sub hl [2, 3, 4, 1, 0] rfl)
          · have hw := hw.2 c25
            try dsimp only at hw
            refine lv_iconst (v := 1) hx hb dX10_alike_93 (by decide) ?_
            refine lv_goto (tgt := 98) hx hb dX10_alike_94 (by decide) ?_
            refine lv_istore_n (lv' := [(3, .int 1), (0, .ref (ad 0)), (1, .int x1), (2, .int x2), (4, .int x4)]) hx hb dX10_alike_98 rfl hl (by decide) rfl (fun ls hl => ?_)
            obtain ⟨v27, ev27⟩ : ∃ y : Int32, y = x4 + 1 := ⟨_, rfl⟩
            have hw := hw v27 ev27
            refine lv_iinc (v := v27) (lv' := [(4, .int v27), (3, .int 1), (0, .ref (ad 0)), (1, .int x1), (2, .int x2)]) hx hb dX10_alike_99 hl (k := 4) rfl (by rw [ev27]; rfl) (by decide) rfl (fun ls hl => ?_)
            refine lv_goto (tgt := 40) hx hb dX10_alike_102 (by decide) ?_
            exact ih x1 x2 1 v27 M23 hw _ _ _ hW (lv_sub hl [2, 3, 4, 1, 0] rfl)
set_option maxHeartbeats 4000000 in
set_option maxRecDepth 100000 in
theorem t_alike_0 (C0 : rX p s m args c cX10_alike 5 RX10 wsX10_alike D ((cI, .int) :: (cZ, .boolean) :: ty') A) (post : Int32 → RM → Prop) (hret : ∀ (r : Int32) (M' : RM) (pc : Nat) (lv : List (Nat × Value)) (k n : Nat), k ≤ 0 → n ≤ 0 → post r M' → narrow .int (.int r) = .int r → decode cX10_alike pc = .ok (.ireturn, 1) → gG p l e rm_alike s m args below meth c Q D A 5 k n (rcells cI cZ ad M' Y) pc lv [.int r])  : ∀  (a1 a2 : Int32) (M : RM), w_alike post   a1 a2 M → gG p l e rm_alike s m args below meth c Q D A 5 0 0 (rcells cI cZ ad M Y) 0 [(0, .ref (ad 0)), (1, .int a1), (2, .int a2)] [] := by
  obtain ⟨hx, hb, hml, ho, hts, hK, hA⟩ := id C0
  have hin := in_alike
  intro a1 a2 M hw H locs ls hW hl
  rw [w_alike] at hw
  refine lv_iload_n hx hb dX10_alike_0 rfl (lv_at hl 1 rfl) ?_
  refine g_calls (As := [.int a1]) (rest := []) ⟨hx, hb, hml, ho, hts⟩ hl.1 (k_isLayer (l := l) _ a1 hw) (va_cwS 1 hts gX10_alike_X10_isLayer rfl rfl rfl (by decide +kernel) ⟨Nat.le_of_ble_eq_true rfl, Nat.le_of_ble_eq_true rfl⟩) (Nat.le_of_ble_eq_true rfl) dX10_alike_1 rfl ⟨Nat.le_of_ble_eq_true rfl, Nat.le_of_ble_eq_true rfl⟩ (fun r1 hw => ?_)
  try dsimp only at hw
  refine lv_if_eq (tgt := 14) hx hb dX10_alike_4 (by decide) (fun c2 => ?_) (fun c2 => ?_)
  · have hw := hw.1 c2
    try dsimp only at hw
    refine lv_iconst (v := (-1)) hx hb dX10_alike_14 (by decide) ?_
    exact hret (-1) M _ _ 0 0 (Nat.le_refl _) (Nat.le_refl _) hw rfl dX10_alike_15 _ _ _ hW hl
  · have hw := hw.2 c2
    try dsimp only at hw
    refine lv_iload_n hx hb dX10_alike_7 rfl (lv_at hl 2 rfl) ?_
    refine g_calls (As := [.int a2]) (rest := []) ⟨hx, hb, hml, ho, hts⟩ hl.1 (k_isLayer (l := l) _ a2 hw) (va_cwS 1 hts gX10_alike_X10_isLayer rfl rfl rfl (by decide +kernel) ⟨Nat.le_of_ble_eq_true rfl, Nat.le_of_ble_eq_true rfl⟩) (Nat.le_of_ble_eq_true rfl) dX10_alike_8 rfl ⟨Nat.le_of_ble_eq_true rfl, Nat.le_of_ble_eq_true rfl⟩ (fun r3 hw => ?_)
    try dsimp only at hw
    refine lv_if_ne (tgt := 16) hx hb dX10_alike_11 (by decide) (fun c4 => ?_) (fun c4 => ?_)
    · have hw := hw.1 c4
      try dsimp only at hw
      refine lv_aload_n hx hb dX10_alike_16 rfl (lv_at hl 0 rfl) ?_
      refine r_get C0 hin hW 1 (by decide) (v := .ref (ad 2)) rfl (List.mem_of_getElem? (i := 1) rfl) rfl dX10_alike_17 ?_
      refine lv_iload_n hx hb dX10_alike_20 rfl (lv_at hl 1 rfl) ?_
      obtain ⟨h5, hw⟩ := hw
      refine r_iald C0 hW 2 rfl rfl h5 dX10_alike_21 ?_
      refine lv_aload_n hx hb dX10_alike_22 rfl (lv_at hl 0 rfl) ?_
      refine r_get C0 hin hW 1 (by decide) (v := .ref (ad 2)) rfl (List.mem_of_getElem? (i := 1) rfl) rfl dX10_alike_23 ?_
      refine lv_iload_n hx hb dX10_alike_26 rfl (lv_at hl 2 rfl) ?_
      obtain ⟨h6, hw⟩ := hw
      refine r_iald C0 hW 2 rfl rfl h6 dX10_alike_27 ?_
      refine lv_icmp_ne (tgt := 35) hx hb dX10_alike_28 (by decide) (fun c7 => ?_) (fun c7 => ?_)
      · have hw := hw.1 c7
        try dsimp only at hw
        refine lv_iconst (v := 0) hx hb dX10_alike_35 (by decide) ?_
        refine lv_istore_n (lv' := [(3, .int 0), (0, .ref (ad 0)), (1, .int a1), (2, .int a2)]) hx hb dX10_alike_36 rfl hl (by decide) rfl (fun ls hl => ?_)
        refine lv_iconst (v := 0) hx hb dX10_alike_37 (by decide) ?_
        refine lv_istore (lv' := [(4, .int 0), (3, .int 0), (0, .ref (ad 0)), (1, .int a1), (2, .int a2)]) hx hb dX10_alike_38 hl (by decide) rfl (fun ls hl => ?_)
        obtain ⟨n8, hw⟩ := hw
        exact t_alike_40 C0 post hret  n8 a1 a2 0 0 M hw _ _ _ hW (lv_sub hl [2, 3, 4, 1, 0] rfl)
      · have hw := hw.2 c7
        try dsimp only at hw
        refine lv_iconst (v := 1) hx hb dX10_alike_31 (by decide) ?_
        refine lv_goto (tgt := 36) hx hb dX10_alike_32 (by decide) ?_
        refine lv_istore_n (lv' := [(3, .int 1), (0, .ref (ad 0)), (1, .int a1), (2, .int a2)]) hx hb dX10_alike_36 rfl hl (by decide) rfl (fun ls hl => ?_)
        refine lv_iconst (v := 0) hx hb dX10_alike_37 (by decide) ?_
        refine lv_istore (lv' := [(4, .int 0), (3, .int 1), (0, .ref (ad 0)), (1, .int a1), (2, .int a2)]) hx hb dX10_alike_38 hl (by decide) rfl (fun ls hl => ?_)
        obtain ⟨n9, hw⟩ := hw
        exact t_alike_40 C0 post hret  n9 a1 a2 1 0 M hw _ _ _ hW (lv_sub hl [2, 3, 4, 1, 0] rfl)
    · have hw := hw.2 c4
      try dsimp only at hw
      refine lv_iconst (v := (-1)) hx hb dX10_alike_14 (by decide) ?_
      exact hret (-1) M _ _ 0 0 (Nat.le_refl _) (Nat.le_refl _) hw rfl dX10_alike_15 _ _ _ hW hl
set_option maxHeartbeats 4000000 in
set_option maxRecDepth 100000 in
theorem k_alike {l : Launch} {D : va_G} {cI cZ : ClassId} {ty' : List (ClassId × FieldType)} {ad : Nat → Nat} {Y : va_W} {sz : Nat} (post : Int32 → RM → Prop) (a1 a2 : Int32) (M : RM) (hw : w_alike post a1 a2 M) : gMi l yX10_alike wsX10_alike rm_alike D ((cI, .int) :: (cZ, .boolean) :: ty') sz (fun M => rcells cI cZ ad M Y) M [.ref (ad 0), .int a1, .int a2] post 0 0 := by
  refine gMi_of (cc := cX10_alike) (nL := 5) (ty := .int) (own := RX10) (by decide) rfl rfl (Nat.le_of_ble_eq_true rfl) ?_
  intro p e s m args below meth c A Q C0 hret
  exact t_alike_0 C0 post hret a1 a2 M hw
abbrev rm_mixed : Room := { frames := 0, cells := 0, slots := 0, locals := 0 }
theorem in_mixed : ∀ w ∈ wsX100, w ∈ wsX10_mixed := fun w hw => List.mem_cons_of_mem _ (List.mem_append_right _ hw)
set_option maxHeartbeats 4000000 in
set_option maxRecDepth 100000 in
theorem t_mixed_6 (C0 : rX p s m args c cX10_mixed 6 RX10 wsX10_mixed D ((cI, .int) :: (cZ, .boolean) :: ty') A) (post : Int32 → RM → Prop) (hret : ∀ (r : Int32) (M' : RM) (pc : Nat) (lv : List (Nat × Value)) (k n : Nat), k ≤ 0 → n ≤ 0 → post r M' → narrow .int (.int r) = .int r → decode cX10_mixed pc = .ok (.ireturn, 1) → gG p l e rm_mixed s m args below meth c Q D A 6 k n (rcells cI cZ ad M' Y) pc lv [.int r])  : ∀ (nf : Nat) (x2 x3 x4 x5 : Int32) (M : RM), w_mixed_6 post  nf x2 x3 x4 x5 M → gG p l e rm_mixed s m args below meth c Q D A 6 0 0 (rcells cI cZ ad M Y) 6 [(0, .ref (ad 0)), (2, .int x2), (3, .int x3), (4, .int x4), (5, .int x5)] [] := by
  obtain ⟨hx, hb, hml, ho, hts, hK, hA⟩ := id C0
  have hin := in_mixed
  intro nf
  induction nf with
  | zero => intro x2 x3 x4 x5 M hw; exact hw.elim
  | succ nf ih =>
    intro x2 x3 x4 x5 M hw H locs ls hW hl
    rw [w_mixed_6] at hw
    refine lv_iload hx hb dX10_mixed_6 (lv_at hl 4 rfl) ?_
    refine lv_aload_n hx hb dX10_mixed_8 rfl (lv_at hl 0 rfl) ?_
    refine r_get C0 hin hW 0 (by decide) (v := .ref (ad 1)) rfl (List.mem_of_getElem? (i := 1) rfl) rfl dX10_mixed_9 ?_
    refine lv_iload_n hx hb dX10_mixed_12 rfl (lv_at hl 1 rfl) ?_
    obtain ⟨h2, hw⟩ := hw
    refine r_iald C0 hW 1 rfl rfl h2 dX10_mixed_13 ?_
    refine lv_icmp_gt (tgt := 40) hx hb dX10_mixed_14 (by decide) (fun c3 => ?_) (fun c3 => ?_)
    · have hw := hw.1 c3
      try dsimp only at hw
      refine lv_bipush (v := 31) hx hb dX10_mixed_40 (by decide) ?_
      refine lv_iload hx hb dX10_mixed_42 (lv_at hl 3 rfl) ?_
      refine lv_imul hx hb dX10_mixed_44 ?_
      refine lv_iload_n hx hb dX10_mixed_45 rfl (lv_at hl 2 rfl) ?_
      refine lv_iadd hx hb dX10_mixed_46 ?_
      exact hret ((31 * x4) + x3) M _ _ 0 0 (Nat.le_refl _) (Nat.le_refl _) hw rfl dX10_mixed_47 _ _ _ hW hl
    · have hw := hw.2 c3
      try dsimp only at hw
      refine lv_bipush (v := 31) hx hb dX10_mixed_17 (by decide) ?_
      refine lv_iload hx hb dX10_mixed_19 (lv_at hl 3 rfl) ?_
      refine lv_imul hx hb dX10_mixed_21 ?_
      refine lv_aload_n hx hb dX10_mixed_22 rfl (lv_at hl 0 rfl) ?_
      refine r_get C0 hin hW 0 (by decide) (v := .ref (ad 1)) rfl (List.mem_of_getElem? (i := 1) rfl) rfl dX10_mixed_23 ?_
      refine lv_iload_n hx hb dX10_mixed_26 rfl (lv_at hl 1 rfl) ?_
      refine lv_iload hx hb dX10_mixed_27 (lv_at hl 4 rfl) ?_
      refine lv_iadd hx hb dX10_mixed_29 ?_
      obtain ⟨h4, hw⟩ := hw
      refine r_iald C0 hW 1 rfl rfl h4 dX10_mixed_30 ?_
      refine lv_iadd hx hb dX10_mixed_31 ?_
      refine lv_topi (fun v5 ev5 => ?_)
      have hw := hw v5 ev5
      refine lv_istore (lv' := [(4, .int v5), (0, .ref (ad 0)), (2, .int x2), (3, .int x3), (5, .int x5)]) hx hb dX10_mixed_32 hl (by decide) rfl (fun ls hl => ?_)
      obtain ⟨v6, ev6⟩ : ∃ y : Int32, y = x5 + 1 := ⟨_, rfl⟩
      have hw := hw v6 ev6
      refine lv_iinc (v := v6) (lv' := [(5, .int v6), (4, .int v5), (0, .ref (ad 0)), (2, .int x2), (3, .int x3)]) hx hb dX10_mixed_34 hl (k := 4) rfl (by rw [ev6]; rfl) (by decide) rfl (fun ls hl => ?_)
      refine lv_goto (tgt := 6) hx hb dX10_mixed_37 (by decide) ?_
      exact ih x2 x3 v5 v6 M hw _ _ _ hW (lv_sub hl [2, 3, 4, 1, 0] rfl)
set_option maxHeartbeats 4000000 in
set_option maxRecDepth 100000 in
theorem t_mixed_0 (C0 : rX p s m args c cX10_mixed 6 RX10 wsX10_mixed D ((cI, .int) :: (cZ, .boolean) :: ty') A) (post : Int32 → RM → Prop) (hret : ∀ (r : Int32) (M' : RM) (pc : Nat) (lv : List (Nat × Value)) (k n : Nat), k ≤ 0 → n ≤ 0 → post r M' → narrow .int (.int r) = .int r → decode cX10_mixed pc = .ok (.ireturn, 1) → gG p l e rm_mixed s m args below meth c Q D A 6 k n (rcells cI cZ ad M' Y) pc lv [.int r])  : ∀  (a1 a2 a3 : Int32) (M : RM), w_mixed post   a1 a2 a3 M → gG p l e rm_mixed s m args below meth c Q D A 6 0 0 (rcells cI cZ ad M Y) 0 [(0, .ref (ad 0)), (1, .int a1), (2, .int a2), (3, .int a3)] [] := by
  obtain ⟨hx, hb, hml, ho, hts, hK, hA⟩ := id C0
  have hin := in_mixed
  intro a1 a2 a3 M hw H locs ls hW hl
  rw [w_mixed] at hw
  refine lv_iload_n hx hb dX10_mixed_0 rfl (lv_at hl 1 rfl) ?_
  refine lv_istore (lv' := [(4, .int a1), (0, .ref (ad 0)), (1, .int a1), (2, .int a2), (3, .int a3)]) hx hb dX10_mixed_1 hl (by decide) rfl (fun ls hl => ?_)
  refine lv_iconst (v := 1) hx hb dX10_mixed_3 (by decide) ?_
  refine lv_istore (lv' := [(5, .int 1), (4, .int a1), (0, .ref (ad 0)), (1, .int a1), (2, .int a2), (3, .int a3)]) hx hb dX10_mixed_4 hl (by decide) rfl (fun ls hl => ?_)
  obtain ⟨n1, hw⟩ := hw
  exact t_mixed_6 C0 post hret  n1 a2 a3 a1 1 M hw _ _ _ hW (lv_sub hl [2, 4, 5, 1, 0] rfl)
set_option maxHeartbeats 4000000 in
set_option maxRecDepth 100000 in
theorem k_mixed {l : Launch} {D : va_G} {cI cZ : ClassId} {ty' : List (ClassId × FieldType)} {ad : Nat → Nat} {Y : va_W} {sz : Nat} (post : Int32 → RM → Prop) (a1 a2 a3 : Int32) (M : RM) (hw : w_mixed post a1 a2 a3 M) : gMi l yX10_mixed wsX10_mixed rm_mixed D ((cI, .int) :: (cZ, .boolean) :: ty') sz (fun M => rcells cI cZ ad M Y) M [.ref (ad 0), .int a1, .int a2, .int a3] post 0 0 := by
  refine gMi_of (cc := cX10_mixed) (nL := 6) (ty := .int) (own := RX10) (by decide) rfl rfl (Nat.le_of_ble_eq_true rfl) ?_
  intro p e s m args below meth c A Q C0 hret
  exact t_mixed_0 C0 post hret a1 a2 a3 M hw
abbrev rm_digest : Room := { frames := 2, cells := 0, slots := 0, locals := 42 }
theorem in_digest : ∀ w ∈ wsX100, w ∈ wsX10_digest := fun w hw => List.mem_cons_of_mem _ (List.mem_append_right _ hw)
set_option maxHeartbeats 4000000 in
set_option maxRecDepth 100000 in
theorem t_digest_14 (C0 : rX p s m args c cX10_digest 4 RX10 wsX10_digest D ((cI, .int) :: (cZ, .boolean) :: ty') A) (post : Int32 → RM → Prop) (hret : ∀ (r : Int32) (M' : RM) (pc : Nat) (lv : List (Nat × Value)) (k n : Nat), k ≤ 0 → n ≤ 0 → post r M' → narrow .int (.int r) = .int r → decode cX10_digest pc = .ok (.ireturn, 1) → gG p l e rm_digest s m args below meth c Q D A 4 k n (rcells cI cZ ad M' Y) pc lv [.int r])  : ∀ (nf : Nat) (x1 x2 x3 : Int32) (M : RM), w_digest_14 post  nf x1 x2 x3 M → gG p l e rm_digest s m args below meth c Q D A 4 0 0 (rcells cI cZ ad M Y) 14 [(0, .ref (ad 0)), (1, .int x1), (2, .int x2), (3, .int x3)] [] := by
  obtain ⟨hx, hb, hml, ho, hts, hK, hA⟩ := id C0
  have hin := in_digest
  intro nf
  induction nf with
  | zero => intro x1 x2 x3 M hw; exact hw.elim
  | succ nf ih =>
    intro x1 x2 x3 M hw H locs ls hW hl
    rw [w_digest_14] at hw
    refine lv_iload_n hx hb dX10_digest_14 rfl (lv_at hl 3 rfl) ?_
    refine lv_aload_n hx hb dX10_digest_15 rfl (lv_at hl 0 rfl) ?_
    refine r_get C0 hin hW 1 (by decide) (v := .ref (ad 2)) rfl (List.mem_of_getElem? (i := 1) rfl) rfl dX10_digest_16 ?_
    refine lv_iload_n hx hb dX10_digest_19 rfl (lv_at hl 1 rfl) ?_
    obtain ⟨h4, hw⟩ := hw
    refine r_iald C0 hW 2 rfl rfl h4 dX10_digest_20 ?_
    refine lv_icmp_ge (tgt := 56) hx hb dX10_digest_21 (by decide) (fun c5 => ?_) (fun c5 => ?_)
    · have hw := hw.1 c5
      try dsimp only at hw
      refine lv_iload_n hx hb dX10_digest_56 rfl (lv_at hl 2 rfl) ?_
      exact hret x2 M _ _ 0 0 (Nat.le_refl _) (Nat.le_refl _) hw rfl dX10_digest_57 _ _ _ hW hl
    · have hw := hw.2 c5
      try dsimp only at hw
      refine lv_aload_n hx hb dX10_digest_24 rfl (lv_at hl 0 rfl) ?_
      refine lv_aload_n hx hb dX10_digest_25 rfl (lv_at hl 0 rfl) ?_
      refine lv_iload_n hx hb dX10_digest_26 rfl (lv_at hl 2 rfl) ?_
      refine lv_iload_n hx hb dX10_digest_27 rfl (lv_at hl 1 rfl) ?_
      refine lv_iload_n hx hb dX10_digest_28 rfl (lv_at hl 3 rfl) ?_
      refine g_calls (As := [.int x1, .int x3]) (rest := [.int x2, .ref (ad 0), .ref (ad 0)]) ⟨hx, hb, hml, ho, hts⟩ hl.1 (k_entryOf (l := l) _ x1 x3 hw) (va_cwS 2 hts gX10_digest_X10_entryOf rfl rfl rfl (by decide +kernel) ⟨Nat.le_of_ble_eq_true rfl, Nat.le_of_ble_eq_true rfl⟩) (Nat.le_of_ble_eq_true rfl) dX10_digest_29 rfl ⟨Nat.le_of_ble_eq_true rfl, Nat.le_of_ble_eq_true rfl⟩ (fun r6 hw => ?_)
      try dsimp only at hw
      refine lv_sipush (v := 256) hx hb dX10_digest_32 (by decide) ?_
      refine g_calli (cw0 := fun M => rcells cI cZ ad M Y) (M := M) (As := [.int x2, .int r6, .int 256]) (rest := [.ref (ad 0)]) C0 hW hl.1 (k_mixed (l := l) _ x2 r6 256 _ hw) (cwV 3 hts gX10_digest_X10_mixed rfl rfl rfl (by decide +kernel) ⟨Nat.le_of_ble_eq_true rfl, Nat.le_of_ble_eq_true rfl⟩) (r_recv C0 hW) (Nat.le_of_ble_eq_true rfl) dX10_digest_35 rfl ⟨Nat.le_of_ble_eq_true rfl, Nat.le_of_ble_eq_true rfl⟩ (fun r8 M7 H locs hw hW => ?_)
      try dsimp only at hw
      refine lv_iload_n hx hb dX10_digest_38 rfl (lv_at hl 1 rfl) ?_
      refine lv_iload_n hx hb dX10_digest_39 rfl (lv_at hl 3 rfl) ?_
      refine g_calls (As := [.int x1, .int x3]) (rest := [.int r8, .ref (ad 0)]) ⟨hx, hb, hml, ho, hts⟩ hl.1 (k_valueOf (l := l) _ x1 x3 hw) (va_cwS 2 hts gX10_digest_X10_valueOf rfl rfl rfl (by decide +kernel) ⟨Nat.le_of_ble_eq_true rfl, Nat.le_of_ble_eq_true rfl⟩) (Nat.le_of_ble_eq_true rfl) dX10_digest_40 rfl ⟨Nat.le_of_ble_eq_true rfl, Nat.le_of_ble_eq_true rfl⟩ (fun r9 hw => ?_)
      try dsimp only at hw
      refine lv_sipush (v := 257) hx hb dX10_digest_43 (by decide) ?_
      refine g_calli (cw0 := fun M => rcells cI cZ ad M Y) (M := M7) (As := [.int r8, .int r9, .int 257]) (rest := []) C0 hW hl.1 (k_mixed (l := l) _ r8 r9 257 _ hw) (cwV 3 hts gX10_digest_X10_mixed rfl rfl rfl (by decide +kernel) ⟨Nat.le_of_ble_eq_true rfl, Nat.le_of_ble_eq_true rfl⟩) (r_recv C0 hW) (Nat.le_of_ble_eq_true rfl) dX10_digest_46 rfl ⟨Nat.le_of_ble_eq_true rfl, Nat.le_of_ble_eq_true rfl⟩ (fun r11 M10 H locs hw hW => ?_)
      try dsimp only at hw
      refine lv_istore_n (lv' := [(2, .int r11), (0, .ref (ad 0)), (1, .int x1), (3, .int x3)]) hx hb dX10_digest_49 rfl hl (by decide) rfl (fun ls hl => ?_)
      obtain ⟨v12, ev12⟩ : ∃ y : Int32, y = x3 + 1 := ⟨_, rfl⟩
      have hw := hw v12 ev12
      refine lv_iinc (v := v12) (lv' := [(3, .int v12), (2, .int r11), (0, .ref (ad 0)), (1, .int x1)]) hx hb dX10_digest_50 hl (k := 3) rfl (by rw [ev12]; rfl) (by decide) rfl (fun ls hl => ?_)
      refine lv_goto (tgt := 14) hx hb dX10_digest_53 (by decide) ?_
      exact ih x1 r11 v12 M10 hw _ _ _ hW (lv_sub hl [2, 3, 1, 0] rfl)
set_option maxHeartbeats 4000000 in
set_option maxRecDepth 100000 in
theorem t_digest_0 (C0 : rX p s m args c cX10_digest 4 RX10 wsX10_digest D ((cI, .int) :: (cZ, .boolean) :: ty') A) (post : Int32 → RM → Prop) (hret : ∀ (r : Int32) (M' : RM) (pc : Nat) (lv : List (Nat × Value)) (k n : Nat), k ≤ 0 → n ≤ 0 → post r M' → narrow .int (.int r) = .int r → decode cX10_digest pc = .ok (.ireturn, 1) → gG p l e rm_digest s m args below meth c Q D A 4 k n (rcells cI cZ ad M' Y) pc lv [.int r])  : ∀  (a1 : Int32) (M : RM), w_digest post   a1 M → gG p l e rm_digest s m args below meth c Q D A 4 0 0 (rcells cI cZ ad M Y) 0 [(0, .ref (ad 0)), (1, .int a1)] [] := by
  obtain ⟨hx, hb, hml, ho, hts, hK, hA⟩ := id C0
  have hin := in_digest
  intro a1 M hw H locs ls hW hl
  rw [w_digest] at hw
  refine lv_iload_n hx hb dX10_digest_0 rfl (lv_at hl 1 rfl) ?_
  refine g_calls (As := [.int a1]) (rest := []) ⟨hx, hb, hml, ho, hts⟩ hl.1 (k_isLayer (l := l) _ a1 hw) (va_cwS 1 hts gX10_digest_X10_isLayer rfl rfl rfl (by decide +kernel) ⟨Nat.le_of_ble_eq_true rfl, Nat.le_of_ble_eq_true rfl⟩) (Nat.le_of_ble_eq_true rfl) dX10_digest_1 rfl ⟨Nat.le_of_ble_eq_true rfl, Nat.le_of_ble_eq_true rfl⟩ (fun r1 hw => ?_)
  try dsimp only at hw
  refine lv_if_ne (tgt := 9) hx hb dX10_digest_4 (by decide) (fun c2 => ?_) (fun c2 => ?_)
  · have hw := hw.1 c2
    try dsimp only at hw
    refine lv_bipush (v := 7) hx hb dX10_digest_9 (by decide) ?_
    refine lv_istore_n (lv' := [(2, .int 7), (0, .ref (ad 0)), (1, .int a1)]) hx hb dX10_digest_11 rfl hl (by decide) rfl (fun ls hl => ?_)
    refine lv_iconst (v := 0) hx hb dX10_digest_12 (by decide) ?_
    refine lv_istore_n (lv' := [(3, .int 0), (2, .int 7), (0, .ref (ad 0)), (1, .int a1)]) hx hb dX10_digest_13 rfl hl (by decide) rfl (fun ls hl => ?_)
    obtain ⟨n3, hw⟩ := hw
    exact t_digest_14 C0 post hret  n3 a1 7 0 M hw _ _ _ hW (lv_sub hl [2, 3, 1, 0] rfl)
  · have hw := hw.2 c2
    try dsimp only at hw
    refine lv_iconst (v := 0) hx hb dX10_digest_7 (by decide) ?_
    exact hret 0 M _ _ 0 0 (Nat.le_refl _) (Nat.le_refl _) hw rfl dX10_digest_8 _ _ _ hW hl
set_option maxHeartbeats 4000000 in
set_option maxRecDepth 100000 in
theorem k_digest {l : Launch} {D : va_G} {cI cZ : ClassId} {ty' : List (ClassId × FieldType)} {ad : Nat → Nat} {Y : va_W} {sz : Nat} (post : Int32 → RM → Prop) (a1 : Int32) (M : RM) (hw : w_digest post a1 M) : gMi l yX10_digest wsX10_digest rm_digest D ((cI, .int) :: (cZ, .boolean) :: ty') sz (fun M => rcells cI cZ ad M Y) M [.ref (ad 0), .int a1] post 0 0 := by
  refine gMi_of (cc := cX10_digest) (nL := 4) (ty := .int) (own := RX10) (by decide) rfl rfl (Nat.le_of_ble_eq_true rfl) ?_
  intro p e s m args below meth c A Q C0 hret
  exact t_digest_0 C0 post hret a1 M hw
abbrev rm_isTokenizer : Room := { frames := 0, cells := 0, slots := 0, locals := 0 }
set_option maxHeartbeats 4000000 in
set_option maxRecDepth 100000 in
theorem k_isTokenizer {l : Launch} (post : Int32 → Prop) (a1 : Int32) (hw : q_isTokenizer post a1) : gMs l yX10_isTokenizer wsX10_isTokenizer rm_isTokenizer [.int a1] post := by
  refine gMs_of (cc := cX10_isTokenizer) (nL := 1) (ty := .boolean) (own := RX10) (by decide) rfl rfl (Nat.le_of_ble_eq_true rfl) ?_
  intro p e s m args below meth c Q hx hb hml ho hts hret ls hl
  rw [q_isTokenizer] at hw
  refine lv_iload_n hx hb dX10_isTokenizer_0 rfl (lv_at hl 0 rfl) ?_
  refine lv_if_eq (tgt := 9) hx hb dX10_isTokenizer_1 (by decide) (fun c1 => ?_) (fun c1 => ?_)
  · have hw := hw.1 c1
    try dsimp only at hw
    refine lv_iconst (v := 1) hx hb dX10_isTokenizer_9 (by decide) ?_
    refine lv_goto (tgt := 14) hx hb dX10_isTokenizer_10 (by decide) ?_
    exact hret 1 _ _ hw (by decide) dX10_isTokenizer_14
  · have hw := hw.2 c1
    try dsimp only at hw
    refine lv_iload_n hx hb dX10_isTokenizer_4 rfl (lv_at hl 0 rfl) ?_
    refine lv_iconst (v := 1) hx hb dX10_isTokenizer_5 (by decide) ?_
    refine lv_icmp_ne (tgt := 13) hx hb dX10_isTokenizer_6 (by decide) (fun c2 => ?_) (fun c2 => ?_)
    · have hw := hw.1 c2
      try dsimp only at hw
      refine lv_iconst (v := 0) hx hb dX10_isTokenizer_13 (by decide) ?_
      exact hret 0 _ _ hw (by decide) dX10_isTokenizer_14
    · have hw := hw.2 c2
      try dsimp only at hw
      refine lv_iconst (v := 1) hx hb dX10_isTokenizer_9 (by decide) ?_
      refine lv_goto (tgt := 14) hx hb dX10_isTokenizer_10 (by decide) ?_
      exact hret 1 _ _ hw (by decide) dX10_isTokenizer_14
abbrev rm_tokenText : Room := { frames := 0, cells := 0, slots := 0, locals := 0 }
set_option maxHeartbeats 4000000 in
set_option maxRecDepth 100000 in
theorem k_tokenText {l : Launch} (post : Int32 → Prop) (a1 : Int32) (hw : q_tokenText post a1) : gMs l yX10_tokenText wsX10_tokenText rm_tokenText [.int a1] post := by
  refine gMs_of (cc := cX10_tokenText) (nL := 1) (ty := .int) (own := RX10) (by decide) rfl rfl (Nat.le_of_ble_eq_true rfl) ?_
  intro p e s m args below meth c Q hx hb hml ho hts hret ls hl
  rw [q_tokenText] at hw
  refine lv_sipush (v := 6930) hx hb dX10_tokenText_0 (by decide) ?_
  refine lv_sipush (v := 301) hx hb dX10_tokenText_3 (by decide) ?_
  refine lv_iload_n hx hb dX10_tokenText_6 rfl (lv_at hl 0 rfl) ?_
  refine lv_imul hx hb dX10_tokenText_7 ?_
  refine lv_iadd hx hb dX10_tokenText_8 ?_
  exact hret (6930 + (301 * a1)) _ _ hw rfl dX10_tokenText_9
abbrev rm_isDelimiter : Room := { frames := 0, cells := 0, slots := 0, locals := 0 }
theorem in_isDelimiter : ∀ w ∈ wsX100, w ∈ wsX10_isDelimiter := fun w hw => List.mem_cons_of_mem _ (List.mem_append_right _ hw)
set_option maxHeartbeats 4000000 in
set_option maxRecDepth 100000 in
theorem t_isDelimiter_0 (C0 : rX p s m args c cX10_isDelimiter 3 RX10 wsX10_isDelimiter D ((cI, .int) :: (cZ, .boolean) :: ty') A) (post : Int32 → RM → Prop) (hret : ∀ (r : Int32) (M' : RM) (pc : Nat) (lv : List (Nat × Value)) (k n : Nat), k ≤ 0 → n ≤ 0 → post r M' → narrow .boolean (.int r) = .int r → decode cX10_isDelimiter pc = .ok (.ireturn, 1) → gG p l e rm_isDelimiter s m args below meth c Q D A 3 k n (rcells cI cZ ad M' Y) pc lv [.int r])  : ∀  (a1 a2 : Int32) (M : RM), w_isDelimiter post   a1 a2 M → gG p l e rm_isDelimiter s m args below meth c Q D A 3 0 0 (rcells cI cZ ad M Y) 0 [(0, .ref (ad 0)), (1, .int a1), (2, .int a2)] [] := by
  obtain ⟨hx, hb, hml, ho, hts, hK, hA⟩ := id C0
  have hin := in_isDelimiter
  intro a1 a2 M hw H locs ls hW hl
  rw [w_isDelimiter] at hw
  refine lv_aload_n hx hb dX10_isDelimiter_0 rfl (lv_at hl 0 rfl) ?_
  refine r_get C0 hin hW 0 (by decide) (v := .ref (ad 1)) rfl (List.mem_of_getElem? (i := 1) rfl) rfl dX10_isDelimiter_1 ?_
  refine lv_sipush (v := 7540) hx hb dX10_isDelimiter_4 (by decide) ?_
  refine lv_sipush (v := 256) hx hb dX10_isDelimiter_7 (by decide) ?_
  refine lv_iload_n hx hb dX10_isDelimiter_10 rfl (lv_at hl 1 rfl) ?_
  refine lv_imul hx hb dX10_isDelimiter_11 ?_
  refine lv_iadd hx hb dX10_isDelimiter_12 ?_
  refine lv_iload_n hx hb dX10_isDelimiter_13 rfl (lv_at hl 2 rfl) ?_
  refine lv_iadd hx hb dX10_isDelimiter_14 ?_
  obtain ⟨h1, hw⟩ := hw
  refine r_iald C0 hW 1 rfl rfl h1 dX10_isDelimiter_15 ?_
  refine lv_iconst (v := 1) hx hb dX10_isDelimiter_16 (by decide) ?_
  refine lv_icmp_ne (tgt := 24) hx hb dX10_isDelimiter_17 (by decide) (fun c2 => ?_) (fun c2 => ?_)
  · have hw := hw.1 c2
    try dsimp only at hw
    refine lv_iconst (v := 0) hx hb dX10_isDelimiter_24 (by decide) ?_
    exact hret 0 M _ _ 0 0 (Nat.le_refl _) (Nat.le_refl _) hw (by decide) dX10_isDelimiter_25 _ _ _ hW hl
  · have hw := hw.2 c2
    try dsimp only at hw
    refine lv_iconst (v := 1) hx hb dX10_isDelimiter_20 (by decide) ?_
    refine lv_goto (tgt := 25) hx hb dX10_isDelimiter_21 (by decide) ?_
    exact hret 1 M _ _ 0 0 (Nat.le_refl _) (Nat.le_refl _) hw (by decide) dX10_isDelimiter_25 _ _ _ hW hl
set_option maxHeartbeats 4000000 in
set_option maxRecDepth 100000 in
theorem k_isDelimiter {l : Launch} {D : va_G} {cI cZ : ClassId} {ty' : List (ClassId × FieldType)} {ad : Nat → Nat} {Y : va_W} {sz : Nat} (post : Int32 → RM → Prop) (a1 a2 : Int32) (M : RM) (hw : w_isDelimiter post a1 a2 M) : gMi l yX10_isDelimiter wsX10_isDelimiter rm_isDelimiter D ((cI, .int) :: (cZ, .boolean) :: ty') sz (fun M => rcells cI cZ ad M Y) M [.ref (ad 0), .int a1, .int a2] post 0 0 := by
  refine gMi_of (cc := cX10_isDelimiter) (nL := 3) (ty := .boolean) (own := RX10) (by decide) rfl rfl (Nat.le_of_ble_eq_true rfl) ?_
  intro p e s m args below meth c A Q C0 hret
  exact t_isDelimiter_0 C0 post hret a1 a2 M hw
abbrev rm_layDelimiters : Room := { frames := 0, cells := 0, slots := 0, locals := 0 }
theorem in_layDelimiters : ∀ w ∈ wsX100, w ∈ wsX10_layDelimiters := fun w hw => List.mem_cons_of_mem _ (List.mem_append_right _ hw)
set_option maxHeartbeats 4000000 in
set_option maxRecDepth 100000 in
theorem t_layDelimiters_34 (C0 : rX p s m args c cX10_layDelimiters 4 RX10 wsX10_layDelimiters D ((cI, .int) :: (cZ, .boolean) :: ty') A) (post : RM → Prop) (hret : ∀ (M' : RM) (pc : Nat) (lv : List (Nat × Value)) (k n : Nat), k ≤ 0 → n ≤ 0 → post M' → decode cX10_layDelimiters pc = .ok (.return_, 1) → gG p l e rm_layDelimiters s m args below meth c Q D A 4 k n (rcells cI cZ ad M' Y) pc lv [])  : ∀ (nf : Nat) (x1 x2 x3 : Int32) (M : RM), w_layDelimiters_34 post  nf x1 x2 x3 M → gG p l e rm_layDelimiters s m args below meth c Q D A 4 0 0 (rcells cI cZ ad M Y) 34 [(0, .ref (ad 0)), (1, .int x1), (2, .int x2), (3, .int x3)] [] := by
  obtain ⟨hx, hb, hml, ho, hts, hK, hA⟩ := id C0
  have hin := in_layDelimiters
  intro nf
  induction nf with
  | zero => intro x1 x2 x3 M hw; exact hw.elim
  | succ nf ih =>
    intro x1 x2 x3 M hw H locs ls hW hl
    rw [w_layDelimiters_34] at hw
    refine lv_iload_n hx hb dX10_layDelimiters_34 rfl (lv_at hl 3 rfl) ?_
    refine lv_aload_n hx hb dX10_layDelimiters_35 rfl (lv_at hl 0 rfl) ?_
    refine r_get C0 hin hW 0 (by decide) (v := .ref (ad 1)) rfl (List.mem_of_getElem? (i := 1) rfl) rfl dX10_layDelimiters_36 ?_
    refine lv_iload_n hx hb dX10_layDelimiters_39 rfl (lv_at hl 2 rfl) ?_
    obtain ⟨h7, hw⟩ := hw
    refine r_iald C0 hW 1 rfl rfl h7 dX10_layDelimiters_40 ?_
    refine lv_icmp_gt (tgt := 74) hx hb dX10_layDelimiters_41 (by decide) (fun c8 => ?_) (fun c8 => ?_)
    · have hw := hw.1 c8
      try dsimp only at hw
      exact hret M _ _ 0 0 (Nat.le_refl _) (Nat.le_refl _) hw dX10_layDelimiters_74 _ _ _ hW hl
    · have hw := hw.2 c8
      try dsimp only at hw
      refine lv_aload_n hx hb dX10_layDelimiters_44 rfl (lv_at hl 0 rfl) ?_
      refine r_get C0 hin hW 0 (by decide) (v := .ref (ad 1)) rfl (List.mem_of_getElem? (i := 1) rfl) rfl dX10_layDelimiters_45 ?_
      refine lv_sipush (v := 7540) hx hb dX10_layDelimiters_48 (by decide) ?_
      refine lv_sipush (v := 256) hx hb dX10_layDelimiters_51 (by decide) ?_
      refine lv_iload_n hx hb dX10_layDelimiters_54 rfl (lv_at hl 1 rfl) ?_
      refine lv_imul hx hb dX10_layDelimiters_55 ?_
      refine lv_iadd hx hb dX10_layDelimiters_56 ?_
      refine lv_aload_n hx hb dX10_layDelimiters_57 rfl (lv_at hl 0 rfl) ?_
      refine r_get C0 hin hW 0 (by decide) (v := .ref (ad 1)) rfl (List.mem_of_getElem? (i := 1) rfl) rfl dX10_layDelimiters_58 ?_
      refine lv_iload_n hx hb dX10_layDelimiters_61 rfl (lv_at hl 2 rfl) ?_
      refine lv_iload_n hx hb dX10_layDelimiters_62 rfl (lv_at hl 3 rfl) ?_
      refine lv_iadd hx hb dX10_layDelimiters_63 ?_
      obtain ⟨h9, hw⟩ := hw
      refine r_iald C0 hW 1 rfl rfl h9 dX10_layDelimiters_64 ?_
      refine lv_iadd hx hb dX10_layDelimiters_65 ?_
      refine lv_iconst (v := 1) hx hb dX10_layDelimiters_66 (by decide) ?_
      obtain ⟨h10, hw⟩ := hw
      refine r_iast C0 hW 1 rfl rfl h10 rfl dX10_layDelimiters_67 (fun M11 H locs eM11 hW => ?_)
      have hw := hw M11 eM11
      obtain ⟨v12, ev12⟩ : ∃ y : Int32, y = x3 + 1 := ⟨_, rfl⟩
      have hw := hw v12 ev12
      refine lv_iinc (v := v12) (lv' := [(3, .int v12), (0, .ref (ad 0)), (1, .int x1), (2, .int x2)]) hx hb dX10_layDelimiters_68 hl (k := 3) rfl (by rw [ev12]; rfl) (by decide) rfl (fun ls hl => ?_)
      refine lv_goto (tgt := 34) hx hb dX10_layDelimiters_71 (by decide) ?_
      exact ih x1 x2 v12 M11 hw _ _ _ hW (lv_sub hl [1, 2, 3, 0] rfl)
set_option maxHeartbeats 4000000 in
set_option maxRecDepth 100000 in
theorem t_layDelimiters_2 (C0 : rX p s m args c cX10_layDelimiters 4 RX10 wsX10_layDelimiters D ((cI, .int) :: (cZ, .boolean) :: ty') A) (post : RM → Prop) (hret : ∀ (M' : RM) (pc : Nat) (lv : List (Nat × Value)) (k n : Nat), k ≤ 0 → n ≤ 0 → post M' → decode cX10_layDelimiters pc = .ok (.return_, 1) → gG p l e rm_layDelimiters s m args below meth c Q D A 4 k n (rcells cI cZ ad M' Y) pc lv [])  : ∀ (nf : Nat) (x1 x2 x3 : Int32) (M : RM), w_layDelimiters_2 post  nf x1 x2 x3 M → gG p l e rm_layDelimiters s m args below meth c Q D A 4 0 0 (rcells cI cZ ad M Y) 2 [(0, .ref (ad 0)), (1, .int x1), (2, .int x2), (3, .int x3)] [] := by
  obtain ⟨hx, hb, hml, ho, hts, hK, hA⟩ := id C0
  have hin := in_layDelimiters
  intro nf
  induction nf with
  | zero => intro x1 x2 x3 M hw; exact hw.elim
  | succ nf ih =>
    intro x1 x2 x3 M hw H locs ls hW hl
    rw [w_layDelimiters_2] at hw
    refine lv_iload_n hx hb dX10_layDelimiters_2 rfl (lv_at hl 3 rfl) ?_
    refine lv_sipush (v := 256) hx hb dX10_layDelimiters_3 (by decide) ?_
    refine lv_icmp_ge (tgt := 32) hx hb dX10_layDelimiters_6 (by decide) (fun c2 => ?_) (fun c2 => ?_)
    · have hw := hw.1 c2
      try dsimp only at hw
      refine lv_iconst (v := 1) hx hb dX10_layDelimiters_32 (by decide) ?_
      refine lv_istore_n (lv' := [(3, .int 1), (0, .ref (ad 0)), (1, .int x1), (2, .int x2)]) hx hb dX10_layDelimiters_33 rfl hl (by decide) rfl (fun ls hl => ?_)
      obtain ⟨n3, hw⟩ := hw
      exact t_layDelimiters_34 C0 post hret  n3 x1 x2 1 M hw _ _ _ hW (lv_sub hl [1, 2, 3, 0] rfl)
    · have hw := hw.2 c2
      try dsimp only at hw
      refine lv_aload_n hx hb dX10_layDelimiters_9 rfl (lv_at hl 0 rfl) ?_
      refine r_get C0 hin hW 0 (by decide) (v := .ref (ad 1)) rfl (List.mem_of_getElem? (i := 1) rfl) rfl dX10_layDelimiters_10 ?_
      refine lv_sipush (v := 7540) hx hb dX10_layDelimiters_13 (by decide) ?_
      refine lv_sipush (v := 256) hx hb dX10_layDelimiters_16 (by decide) ?_
      refine lv_iload_n hx hb dX10_layDelimiters_19 rfl (lv_at hl 1 rfl) ?_
      refine lv_imul hx hb dX10_layDelimiters_20 ?_
      refine lv_iadd hx hb dX10_layDelimiters_21 ?_
      refine lv_iload_n hx hb dX10_layDelimiters_22 rfl (lv_at hl 3 rfl) ?_
      refine lv_iadd hx hb dX10_layDelimiters_23 ?_
      refine lv_iconst (v := 0) hx hb dX10_layDelimiters_24 (by decide) ?_
      obtain ⟨h4, hw⟩ := hw
      refine r_iast C0 hW 1 rfl rfl h4 rfl dX10_layDelimiters_25 (fun M5 H locs eM5 hW => ?_)
      have hw := hw M5 eM5
      obtain ⟨v6, ev6⟩ : ∃ y : Int32, y = x3 + 1 := ⟨_, rfl⟩
      have hw := hw v6 ev6
      refine lv_iinc (v := v6) (lv' := [(3, .int v6), (0, .ref (ad 0)), (1, .int x1), (2, .int x2)]) hx hb dX10_layDelimiters_26 hl (k := 3) rfl (by rw [ev6]; rfl) (by decide) rfl (fun ls hl => ?_)
      refine lv_goto (tgt := 2) hx hb dX10_layDelimiters_29 (by decide) ?_
      exact ih x1 x2 v6 M5 hw _ _ _ hW (lv_sub hl [1, 2, 3, 0] rfl)
set_option maxHeartbeats 4000000 in
set_option maxRecDepth 100000 in
theorem t_layDelimiters_0 (C0 : rX p s m args c cX10_layDelimiters 4 RX10 wsX10_layDelimiters D ((cI, .int) :: (cZ, .boolean) :: ty') A) (post : RM → Prop) (hret : ∀ (M' : RM) (pc : Nat) (lv : List (Nat × Value)) (k n : Nat), k ≤ 0 → n ≤ 0 → post M' → decode cX10_layDelimiters pc = .ok (.return_, 1) → gG p l e rm_layDelimiters s m args below meth c Q D A 4 k n (rcells cI cZ ad M' Y) pc lv [])  : ∀  (a1 a2 : Int32) (M : RM), w_layDelimiters post   a1 a2 M → gG p l e rm_layDelimiters s m args below meth c Q D A 4 0 0 (rcells cI cZ ad M Y) 0 [(0, .ref (ad 0)), (1, .int a1), (2, .int a2)] [] := by
  obtain ⟨hx, hb, hml, ho, hts, hK, hA⟩ := id C0
  have hin := in_layDelimiters
  intro a1 a2 M hw H locs ls hW hl
  rw [w_layDelimiters] at hw
  refine lv_iconst (v := 0) hx hb dX10_layDelimiters_0 (by decide) ?_
  refine lv_istore_n (lv' := [(3, .int 0), (0, .ref (ad 0)), (1, .int a1), (2, .int a2)]) hx hb dX10_layDelimiters_1 rfl hl (by decide) rfl (fun ls hl => ?_)
  obtain ⟨n1, hw⟩ := hw
  exact t_layDelimiters_2 C0 post hret  n1 a1 a2 0 M hw _ _ _ hW (lv_sub hl [1, 2, 3, 0] rfl)
set_option maxHeartbeats 4000000 in
set_option maxRecDepth 100000 in
theorem k_layDelimiters {l : Launch} {D : va_G} {cI cZ : ClassId} {ty' : List (ClassId × FieldType)} {ad : Nat → Nat} {Y : va_W} {sz : Nat} (post : RM → Prop) (a1 a2 : Int32) (M : RM) (hw : w_layDelimiters post a1 a2 M) : gMv l yX10_layDelimiters wsX10_layDelimiters rm_layDelimiters D ((cI, .int) :: (cZ, .boolean) :: ty') sz (fun M => rcells cI cZ ad M Y) M [.ref (ad 0), .int a1, .int a2] post 0 0 := by
  refine gMv_of (cc := cX10_layDelimiters) (nL := 4) (own := RX10) (by decide) rfl rfl (Nat.le_of_ble_eq_true rfl) ?_
  intro p e s m args below meth c A Q C0 hret
  exact t_layDelimiters_0 C0 post hret a1 a2 M hw
abbrev rm_signOf : Room := { frames := 1, cells := 0, slots := 0, locals := 20 }
theorem in_signOf : ∀ w ∈ wsX100, w ∈ wsX10_signOf := fun w hw => List.mem_cons_of_mem _ (List.mem_append_right _ hw)
set_option maxHeartbeats 4000000 in
set_option maxRecDepth 100000 in
theorem t_signOf_0 (C0 : rX p s m args c cX10_signOf 3 RX10 wsX10_signOf D ((cI, .int) :: (cZ, .boolean) :: ty') A) (post : Int32 → RM → Prop) (hret : ∀ (r : Int32) (M' : RM) (pc : Nat) (lv : List (Nat × Value)) (k n : Nat), k ≤ 0 → n ≤ 0 → post r M' → narrow .int (.int r) = .int r → decode cX10_signOf pc = .ok (.ireturn, 1) → gG p l e rm_signOf s m args below meth c Q D A 3 k n (rcells cI cZ ad M' Y) pc lv [.int r])  : ∀  (a1 a2 : Int32) (M : RM), w_signOf post   a1 a2 M → gG p l e rm_signOf s m args below meth c Q D A 3 0 0 (rcells cI cZ ad M Y) 0 [(0, .ref (ad 0)), (1, .int a1), (2, .int a2)] [] := by
  obtain ⟨hx, hb, hml, ho, hts, hK, hA⟩ := id C0
  have hin := in_signOf
  intro a1 a2 M hw H locs ls hW hl
  rw [w_signOf] at hw
  refine lv_aload_n hx hb dX10_signOf_0 rfl (lv_at hl 0 rfl) ?_
  refine r_get C0 hin hW 0 (by decide) (v := .ref (ad 1)) rfl (List.mem_of_getElem? (i := 1) rfl) rfl dX10_signOf_1 ?_
  refine lv_iload_n hx hb dX10_signOf_4 rfl (lv_at hl 1 rfl) ?_
  refine g_calls (As := [.int a1]) (rest := [.ref (ad 1)]) ⟨hx, hb, hml, ho, hts⟩ hl.1 (k_tokenText (l := l) _ a1 hw) (va_cwS 1 hts gX10_signOf_X10_tokenText rfl rfl rfl (by decide +kernel) ⟨Nat.le_of_ble_eq_true rfl, Nat.le_of_ble_eq_true rfl⟩) (Nat.le_of_ble_eq_true rfl) dX10_signOf_5 rfl ⟨Nat.le_of_ble_eq_true rfl, Nat.le_of_ble_eq_true rfl⟩ (fun r1 hw => ?_)
  try dsimp only at hw
  refine lv_iconst (v := 1) hx hb dX10_signOf_8 (by decide) ?_
  refine lv_iadd hx hb dX10_signOf_9 ?_
  refine lv_iload_n hx hb dX10_signOf_10 rfl (lv_at hl 2 rfl) ?_
  refine lv_iadd hx hb dX10_signOf_11 ?_
  obtain ⟨h2, hw⟩ := hw
  refine r_iald C0 hW 1 rfl rfl h2 dX10_signOf_12 ?_
  exact hret (M 1 (((r1 + 1) + a2) : Int32).toNatClampNeg) M _ _ 0 0 (Nat.le_refl _) (Nat.le_refl _) hw rfl dX10_signOf_13 _ _ _ hW hl
set_option maxHeartbeats 4000000 in
set_option maxRecDepth 100000 in
theorem k_signOf {l : Launch} {D : va_G} {cI cZ : ClassId} {ty' : List (ClassId × FieldType)} {ad : Nat → Nat} {Y : va_W} {sz : Nat} (post : Int32 → RM → Prop) (a1 a2 : Int32) (M : RM) (hw : w_signOf post a1 a2 M) : gMi l yX10_signOf wsX10_signOf rm_signOf D ((cI, .int) :: (cZ, .boolean) :: ty') sz (fun M => rcells cI cZ ad M Y) M [.ref (ad 0), .int a1, .int a2] post 0 0 := by
  refine gMi_of (cc := cX10_signOf) (nL := 3) (ty := .int) (own := RX10) (by decide) rfl rfl (Nat.le_of_ble_eq_true rfl) ?_
  intro p e s m args below meth c A Q C0 hret
  exact t_signOf_0 C0 post hret a1 a2 M hw
abbrev rm_beginOf : Room := { frames := 2, cells := 0, slots := 0, locals := 42 }
theorem in_beginOf : ∀ w ∈ wsX100, w ∈ wsX10_beginOf := fun w hw => List.mem_cons_of_mem _ (List.mem_append_right _ hw)
set_option maxHeartbeats 4000000 in
set_option maxRecDepth 100000 in
theorem t_beginOf_2 (C0 : rX p s m args c cX10_beginOf 4 RX10 wsX10_beginOf D ((cI, .int) :: (cZ, .boolean) :: ty') A) (post : Int32 → RM → Prop) (hret : ∀ (r : Int32) (M' : RM) (pc : Nat) (lv : List (Nat × Value)) (k n : Nat), k ≤ 0 → n ≤ 0 → post r M' → narrow .int (.int r) = .int r → decode cX10_beginOf pc = .ok (.ireturn, 1) → gG p l e rm_beginOf s m args below meth c Q D A 4 k n (rcells cI cZ ad M' Y) pc lv [.int r])  : ∀ (nf : Nat) (x1 x3 : Int32) (M : RM), w_beginOf_2 post  nf x1 x3 M → gG p l e rm_beginOf s m args below meth c Q D A 4 0 0 (rcells cI cZ ad M Y) 2 [(0, .ref (ad 0)), (1, .int x1), (3, .int x3)] [] := by
  obtain ⟨hx, hb, hml, ho, hts, hK, hA⟩ := id C0
  have hin := in_beginOf
  intro nf
  induction nf with
  | zero => intro x1 x3 M hw; exact hw.elim
  | succ nf ih =>
    intro x1 x3 M hw H locs ls hW hl
    rw [w_beginOf_2] at hw
    refine lv_aload_n hx hb dX10_beginOf_2 rfl (lv_at hl 0 rfl) ?_
    refine r_get C0 hin hW 8 (by decide) (v := .ref (ad 7)) rfl (List.mem_of_getElem? (i := 1) rfl) rfl dX10_beginOf_3 ?_
    refine lv_iload_n hx hb dX10_beginOf_6 rfl (lv_at hl 1 rfl) ?_
    obtain ⟨h2, hw⟩ := hw
    refine r_zald C0 hW 7 rfl rfl h2 dX10_beginOf_7 ?_
    refine lv_if_ne (tgt := 44) hx hb dX10_beginOf_8 (by decide) (fun c3 => ?_) (fun c3 => ?_)
    · have hw := hw.1 c3
      try dsimp only at hw
      refine lv_iload_n hx hb dX10_beginOf_44 rfl (lv_at hl 2 rfl) ?_
      exact hret x3 M _ _ 0 0 (Nat.le_refl _) (Nat.le_refl _) hw rfl dX10_beginOf_45 _ _ _ hW hl
    · have hw := hw.2 c3
      try dsimp only at hw
      refine lv_iload_n hx hb dX10_beginOf_11 rfl (lv_at hl 2 rfl) ?_
      refine lv_aload_n hx hb dX10_beginOf_12 rfl (lv_at hl 0 rfl) ?_
      refine r_get C0 hin hW 0 (by decide) (v := .ref (ad 1)) rfl (List.mem_of_getElem? (i := 2) rfl) rfl dX10_beginOf_13 ?_
      refine lv_iload_n hx hb dX10_beginOf_16 rfl (lv_at hl 1 rfl) ?_
      refine g_calls (As := [.int x1]) (rest := [.ref (ad 1), .int x3]) ⟨hx, hb, hml, ho, hts⟩ hl.1 (k_tokenText (l := l) _ x1 hw) (va_cwS 1 hts gX10_beginOf_X10_tokenText rfl rfl rfl (by decide +kernel) ⟨Nat.le_of_ble_eq_true rfl, Nat.le_of_ble_eq_true rfl⟩) (Nat.le_of_ble_eq_true rfl) dX10_beginOf_17 rfl ⟨Nat.le_of_ble_eq_true rfl, Nat.le_of_ble_eq_true rfl⟩ (fun r4 hw => ?_)
      try dsimp only at hw
      obtain ⟨h5, hw⟩ := hw
      refine r_iald C0 hW 1 rfl rfl h5 dX10_beginOf_20 ?_
      refine lv_icmp_ge (tgt := 44) hx hb dX10_beginOf_21 (by decide) (fun c6 => ?_) (fun c6 => ?_)
      · have hw := hw.1 c6
        try dsimp only at hw
        refine lv_iload_n hx hb dX10_beginOf_44 rfl (lv_at hl 2 rfl) ?_
        exact hret x3 M _ _ 0 0 (Nat.le_refl _) (Nat.le_refl _) hw rfl dX10_beginOf_45 _ _ _ hW hl
      · have hw := hw.2 c6
        try dsimp only at hw
        refine lv_aload_n hx hb dX10_beginOf_24 rfl (lv_at hl 0 rfl) ?_
        refine lv_iload_n hx hb dX10_beginOf_25 rfl (lv_at hl 1 rfl) ?_
        refine lv_aload_n hx hb dX10_beginOf_26 rfl (lv_at hl 0 rfl) ?_
        refine lv_iload_n hx hb dX10_beginOf_27 rfl (lv_at hl 1 rfl) ?_
        refine lv_iload_n hx hb dX10_beginOf_28 rfl (lv_at hl 2 rfl) ?_
        refine g_calli (cw0 := fun M => rcells cI cZ ad M Y) (M := M) (As := [.int x1, .int x3]) (rest := [.int x1, .ref (ad 0)]) C0 hW hl.1 (k_signOf (l := l) _ x1 x3 _ hw) (cwV 2 hts gX10_beginOf_X10_signOf rfl rfl rfl (by decide +kernel) ⟨Nat.le_of_ble_eq_true rfl, Nat.le_of_ble_eq_true rfl⟩) (r_recv C0 hW) (Nat.le_of_ble_eq_true rfl) dX10_beginOf_29 rfl ⟨Nat.le_of_ble_eq_true rfl, Nat.le_of_ble_eq_true rfl⟩ (fun r8 M7 H locs hw hW => ?_)
        try dsimp only at hw
        refine g_calli (cw0 := fun M => rcells cI cZ ad M Y) (M := M7) (As := [.int x1, .int r8]) (rest := []) C0 hW hl.1 (k_isDelimiter (l := l) _ x1 r8 _ hw) (cwV 2 hts gX10_beginOf_X10_isDelimiter rfl rfl rfl (by decide +kernel) ⟨Nat.le_of_ble_eq_true rfl, Nat.le_of_ble_eq_true rfl⟩) (r_recv C0 hW) (Nat.le_of_ble_eq_true rfl) dX10_beginOf_32 rfl ⟨Nat.le_of_ble_eq_true rfl, Nat.le_of_ble_eq_true rfl⟩ (fun r10 M9 H locs hw hW => ?_)
        try dsimp only at hw
        refine lv_if_eq (tgt := 44) hx hb dX10_beginOf_35 (by decide) (fun c11 => ?_) (fun c11 => ?_)
        · have hw := hw.1 c11
          try dsimp only at hw
          refine lv_iload_n hx hb dX10_beginOf_44 rfl (lv_at hl 2 rfl) ?_
          exact hret x3 M9 _ _ 0 0 (Nat.le_refl _) (Nat.le_refl _) hw rfl dX10_beginOf_45 _ _ _ hW hl
        · have hw := hw.2 c11
          try dsimp only at hw
          obtain ⟨v12, ev12⟩ : ∃ y : Int32, y = x3 + 1 := ⟨_, rfl⟩
          have hw := hw v12 ev12
          refine lv_iinc (v := v12) (lv' := [(3, .int v12), (0, .ref (ad 0)), (1, .int x1)]) hx hb dX10_beginOf_38 hl (k := 2) rfl (by rw [ev12]; rfl) (by decide) rfl (fun ls hl => ?_)
          refine lv_goto (tgt := 2) hx hb dX10_beginOf_41 (by decide) ?_
          exact ih x1 v12 M9 hw _ _ _ hW (lv_sub hl [1, 2, 0] rfl)
set_option maxHeartbeats 4000000 in
set_option maxRecDepth 100000 in
theorem t_beginOf_0 (C0 : rX p s m args c cX10_beginOf 4 RX10 wsX10_beginOf D ((cI, .int) :: (cZ, .boolean) :: ty') A) (post : Int32 → RM → Prop) (hret : ∀ (r : Int32) (M' : RM) (pc : Nat) (lv : List (Nat × Value)) (k n : Nat), k ≤ 0 → n ≤ 0 → post r M' → narrow .int (.int r) = .int r → decode cX10_beginOf pc = .ok (.ireturn, 1) → gG p l e rm_beginOf s m args below meth c Q D A 4 k n (rcells cI cZ ad M' Y) pc lv [.int r])  : ∀  (a1 a2 : Int32) (M : RM), w_beginOf post   a1 a2 M → gG p l e rm_beginOf s m args below meth c Q D A 4 0 0 (rcells cI cZ ad M Y) 0 [(0, .ref (ad 0)), (1, .int a1), (2, .int a2)] [] := by
  obtain ⟨hx, hb, hml, ho, hts, hK, hA⟩ := id C0
  have hin := in_beginOf
  intro a1 a2 M hw H locs ls hW hl
  rw [w_beginOf] at hw
  refine lv_iload_n hx hb dX10_beginOf_0 rfl (lv_at hl 2 rfl) ?_
  refine lv_istore_n (lv' := [(3, .int a2), (0, .ref (ad 0)), (1, .int a1), (2, .int a2)]) hx hb dX10_beginOf_1 rfl hl (by decide) rfl (fun ls hl => ?_)
  obtain ⟨n1, hw⟩ := hw
  exact t_beginOf_2 C0 post hret  n1 a1 a2 M hw _ _ _ hW (lv_sub hl [1, 2, 0] rfl)
set_option maxHeartbeats 4000000 in
set_option maxRecDepth 100000 in
theorem k_beginOf {l : Launch} {D : va_G} {cI cZ : ClassId} {ty' : List (ClassId × FieldType)} {ad : Nat → Nat} {Y : va_W} {sz : Nat} (post : Int32 → RM → Prop) (a1 a2 : Int32) (M : RM) (hw : w_beginOf post a1 a2 M) : gMi l yX10_beginOf wsX10_beginOf rm_beginOf D ((cI, .int) :: (cZ, .boolean) :: ty') sz (fun M => rcells cI cZ ad M Y) M [.ref (ad 0), .int a1, .int a2] post 0 0 := by
  refine gMi_of (cc := cX10_beginOf) (nL := 4) (ty := .int) (own := RX10) (by decide) rfl rfl (Nat.le_of_ble_eq_true rfl) ?_
  intro p e s m args below meth c A Q C0 hret
  exact t_beginOf_0 C0 post hret a1 a2 M hw
abbrev rm_endOf : Room := { frames := 2, cells := 0, slots := 0, locals := 42 }
theorem in_endOf : ∀ w ∈ wsX100, w ∈ wsX10_endOf := fun w hw => List.mem_cons_of_mem _ (List.mem_append_right _ hw)
set_option maxHeartbeats 4000000 in
set_option maxRecDepth 100000 in
theorem t_endOf_20 (C0 : rX p s m args c cX10_endOf 4 RX10 wsX10_endOf D ((cI, .int) :: (cZ, .boolean) :: ty') A) (post : Int32 → RM → Prop) (hret : ∀ (r : Int32) (M' : RM) (pc : Nat) (lv : List (Nat × Value)) (k n : Nat), k ≤ 0 → n ≤ 0 → post r M' → narrow .int (.int r) = .int r → decode cX10_endOf pc = .ok (.ireturn, 1) → gG p l e rm_endOf s m args below meth c Q D A 4 k n (rcells cI cZ ad M' Y) pc lv [.int r])  : ∀ (nf : Nat) (x1 x3 : Int32) (M : RM), w_endOf_20 post  nf x1 x3 M → gG p l e rm_endOf s m args below meth c Q D A 4 0 0 (rcells cI cZ ad M Y) 20 [(0, .ref (ad 0)), (1, .int x1), (3, .int x3)] [] := by
  obtain ⟨hx, hb, hml, ho, hts, hK, hA⟩ := id C0
  have hin := in_endOf
  intro nf
  induction nf with
  | zero => intro x1 x3 M hw; exact hw.elim
  | succ nf ih =>
    intro x1 x3 M hw H locs ls hW hl
    rw [w_endOf_20] at hw
    refine lv_iload_n hx hb dX10_endOf_20 rfl (lv_at hl 2 rfl) ?_
    refine lv_aload_n hx hb dX10_endOf_21 rfl (lv_at hl 0 rfl) ?_
    refine r_get C0 hin hW 0 (by decide) (v := .ref (ad 1)) rfl (List.mem_of_getElem? (i := 1) rfl) rfl dX10_endOf_22 ?_
    refine lv_iload_n hx hb dX10_endOf_25 rfl (lv_at hl 1 rfl) ?_
    refine g_calls (As := [.int x1]) (rest := [.ref (ad 1), .int x3]) ⟨hx, hb, hml, ho, hts⟩ hl.1 (k_tokenText (l := l) _ x1 hw) (va_cwS 1 hts gX10_endOf_X10_tokenText rfl rfl rfl (by decide +kernel) ⟨Nat.le_of_ble_eq_true rfl, Nat.le_of_ble_eq_true rfl⟩) (Nat.le_of_ble_eq_true rfl) dX10_endOf_26 rfl ⟨Nat.le_of_ble_eq_true rfl, Nat.le_of_ble_eq_true rfl⟩ (fun r7 hw => ?_)
    try dsimp only at hw
    obtain ⟨h8, hw⟩ := hw
    refine r_iald C0 hW 1 rfl rfl h8 dX10_endOf_29 ?_
    refine lv_icmp_ge (tgt := 53) hx hb dX10_endOf_30 (by decide) (fun c9 => ?_) (fun c9 => ?_)
    · have hw := hw.1 c9
      try dsimp only at hw
      refine lv_iload_n hx hb dX10_endOf_53 rfl (lv_at hl 2 rfl) ?_
      exact hret x3 M _ _ 0 0 (Nat.le_refl _) (Nat.le_refl _) hw rfl dX10_endOf_54 _ _ _ hW hl
    · have hw := hw.2 c9
      try dsimp only at hw
      refine lv_aload_n hx hb dX10_endOf_33 rfl (lv_at hl 0 rfl) ?_
      refine lv_iload_n hx hb dX10_endOf_34 rfl (lv_at hl 1 rfl) ?_
      refine lv_aload_n hx hb dX10_endOf_35 rfl (lv_at hl 0 rfl) ?_
      refine lv_iload_n hx hb dX10_endOf_36 rfl (lv_at hl 1 rfl) ?_
      refine lv_iload_n hx hb dX10_endOf_37 rfl (lv_at hl 2 rfl) ?_
      refine g_calli (cw0 := fun M => rcells cI cZ ad M Y) (M := M) (As := [.int x1, .int x3]) (rest := [.int x1, .ref (ad 0)]) C0 hW hl.1 (k_signOf (l := l) _ x1 x3 _ hw) (cwV 2 hts gX10_endOf_X10_signOf rfl rfl rfl (by decide +kernel) ⟨Nat.le_of_ble_eq_true rfl, Nat.le_of_ble_eq_true rfl⟩) (r_recv C0 hW) (Nat.le_of_ble_eq_true rfl) dX10_endOf_38 rfl ⟨Nat.le_of_ble_eq_true rfl, Nat.le_of_ble_eq_true rfl⟩ (fun r11 M10 H locs hw hW => ?_)
      try dsimp only at hw
      refine g_calli (cw0 := fun M => rcells cI cZ ad M Y) (M := M10) (As := [.int x1, .int r11]) (rest := []) C0 hW hl.1 (k_isDelimiter (l := l) _ x1 r11 _ hw) (cwV 2 hts gX10_endOf_X10_isDelimiter rfl rfl rfl (by decide +kernel) ⟨Nat.le_of_ble_eq_true rfl, Nat.le_of_ble_eq_true rfl⟩) (r_recv C0 hW) (Nat.le_of_ble_eq_true rfl) dX10_endOf_41 rfl ⟨Nat.le_of_ble_eq_true rfl, Nat.le_of_ble_eq_true rfl⟩ (fun r13 M12 H locs hw hW => ?_)
      try dsimp only at hw
      refine lv_if_ne (tgt := 53) hx hb dX10_endOf_44 (by decide) (fun c14 => ?_) (fun c14 => ?_)
      · have hw := hw.1 c14
        try dsimp only at hw
        refine lv_iload_n hx hb dX10_endOf_53 rfl (lv_at hl 2 rfl) ?_
        exact hret x3 M12 _ _ 0 0 (Nat.le_refl _) (Nat.le_refl _) hw rfl dX10_endOf_54 _ _ _ hW hl
      · have hw := hw.2 c14
        try dsimp only at hw
        obtain ⟨v15, ev15⟩ : ∃ y : Int32, y = x3 + 1 := ⟨_, rfl⟩
        have hw := hw v15 ev15
        refine lv_iinc (v := v15) (lv' := [(3, .int v15), (0, .ref (ad 0)), (1, .int x1)]) hx hb dX10_endOf_47 hl (k := 2) rfl (by rw [ev15]; rfl) (by decide) rfl (fun ls hl => ?_)
        refine lv_goto (tgt := 20) hx hb dX10_endOf_50 (by decide) ?_
        exact ih x1 v15 M12 hw _ _ _ hW (lv_sub hl [1, 2, 0] rfl)
set_option maxHeartbeats 4000000 in
set_option maxRecDepth 100000 in
theorem t_endOf_0 (C0 : rX p s m args c cX10_endOf 4 RX10 wsX10_endOf D ((cI, .int) :: (cZ, .boolean) :: ty') A) (post : Int32 → RM → Prop) (hret : ∀ (r : Int32) (M' : RM) (pc : Nat) (lv : List (Nat × Value)) (k n : Nat), k ≤ 0 → n ≤ 0 → post r M' → narrow .int (.int r) = .int r → decode cX10_endOf pc = .ok (.ireturn, 1) → gG p l e rm_endOf s m args below meth c Q D A 4 k n (rcells cI cZ ad M' Y) pc lv [.int r])  : ∀  (a1 a2 : Int32) (M : RM), w_endOf post   a1 a2 M → gG p l e rm_endOf s m args below meth c Q D A 4 0 0 (rcells cI cZ ad M Y) 0 [(0, .ref (ad 0)), (1, .int a1), (2, .int a2)] [] := by
  obtain ⟨hx, hb, hml, ho, hts, hK, hA⟩ := id C0
  have hin := in_endOf
  intro a1 a2 M hw H locs ls hW hl
  rw [w_endOf] at hw
  refine lv_aload_n hx hb dX10_endOf_0 rfl (lv_at hl 0 rfl) ?_
  refine lv_iload_n hx hb dX10_endOf_1 rfl (lv_at hl 1 rfl) ?_
  refine lv_aload_n hx hb dX10_endOf_2 rfl (lv_at hl 0 rfl) ?_
  refine lv_iload_n hx hb dX10_endOf_3 rfl (lv_at hl 1 rfl) ?_
  refine lv_iload_n hx hb dX10_endOf_4 rfl (lv_at hl 2 rfl) ?_
  refine g_calli (cw0 := fun M => rcells cI cZ ad M Y) (M := M) (As := [.int a1, .int a2]) (rest := [.int a1, .ref (ad 0)]) C0 hW hl.1 (k_signOf (l := l) _ a1 a2 _ hw) (cwV 2 hts gX10_endOf_X10_signOf rfl rfl rfl (by decide +kernel) ⟨Nat.le_of_ble_eq_true rfl, Nat.le_of_ble_eq_true rfl⟩) (r_recv C0 hW) (Nat.le_of_ble_eq_true rfl) dX10_endOf_5 rfl ⟨Nat.le_of_ble_eq_true rfl, Nat.le_of_ble_eq_true rfl⟩ (fun r2 M1 H locs hw hW => ?_)
  try dsimp only at hw
  refine g_calli (cw0 := fun M => rcells cI cZ ad M Y) (M := M1) (As := [.int a1, .int r2]) (rest := []) C0 hW hl.1 (k_isDelimiter (l := l) _ a1 r2 _ hw) (cwV 2 hts gX10_endOf_X10_isDelimiter rfl rfl rfl (by decide +kernel) ⟨Nat.le_of_ble_eq_true rfl, Nat.le_of_ble_eq_true rfl⟩) (r_recv C0 hW) (Nat.le_of_ble_eq_true rfl) dX10_endOf_8 rfl ⟨Nat.le_of_ble_eq_true rfl, Nat.le_of_ble_eq_true rfl⟩ (fun r4 M3 H locs hw hW => ?_)
  try dsimp only at hw
  refine lv_if_eq (tgt := 18) hx hb dX10_endOf_11 (by decide) (fun c5 => ?_) (fun c5 => ?_)
  · have hw := hw.1 c5
    try dsimp only at hw
    refine lv_iload_n hx hb dX10_endOf_18 rfl (lv_at hl 2 rfl) ?_
    refine lv_istore_n (lv' := [(3, .int a2), (0, .ref (ad 0)), (1, .int a1), (2, .int a2)]) hx hb dX10_endOf_19 rfl hl (by decide) rfl (fun ls hl => ?_)
    obtain ⟨n6, hw⟩ := hw
    exact t_endOf_20 C0 post hret  n6 a1 a2 M3 hw _ _ _ hW (lv_sub hl [1, 2, 0] rfl)
  · have hw := hw.2 c5
    try dsimp only at hw
    refine lv_iload_n hx hb dX10_endOf_14 rfl (lv_at hl 2 rfl) ?_
    refine lv_iconst (v := 1) hx hb dX10_endOf_15 (by decide) ?_
    refine lv_iadd hx hb dX10_endOf_16 ?_
    exact hret (a2 + 1) M3 _ _ 0 0 (Nat.le_refl _) (Nat.le_refl _) hw rfl dX10_endOf_17 _ _ _ hW hl
set_option maxHeartbeats 4000000 in
set_option maxRecDepth 100000 in
theorem k_endOf {l : Launch} {D : va_G} {cI cZ : ClassId} {ty' : List (ClassId × FieldType)} {ad : Nat → Nat} {Y : va_W} {sz : Nat} (post : Int32 → RM → Prop) (a1 a2 : Int32) (M : RM) (hw : w_endOf post a1 a2 M) : gMi l yX10_endOf wsX10_endOf rm_endOf D ((cI, .int) :: (cZ, .boolean) :: ty') sz (fun M => rcells cI cZ ad M Y) M [.ref (ad 0), .int a1, .int a2] post 0 0 := by
  refine gMi_of (cc := cX10_endOf) (nL := 4) (ty := .int) (own := RX10) (by decide) rfl rfl (Nat.le_of_ble_eq_true rfl) ?_
  intro p e s m args below meth c A Q C0 hret
  exact t_endOf_0 C0 post hret a1 a2 M hw
abbrev rm_counted : Room := { frames := 3, cells := 0, slots := 0, locals := 65 }
theorem in_counted : ∀ w ∈ wsX100, w ∈ wsX10_counted := fun w hw => List.mem_cons_of_mem _ (List.mem_append_right _ hw)
set_option maxHeartbeats 4000000 in
set_option maxRecDepth 100000 in
theorem t_counted_14 (C0 : rX p s m args c cX10_counted 4 RX10 wsX10_counted D ((cI, .int) :: (cZ, .boolean) :: ty') A) (post : Int32 → RM → Prop) (hret : ∀ (r : Int32) (M' : RM) (pc : Nat) (lv : List (Nat × Value)) (k n : Nat), k ≤ 0 → n ≤ 0 → post r M' → narrow .int (.int r) = .int r → decode cX10_counted pc = .ok (.ireturn, 1) → gG p l e rm_counted s m args below meth c Q D A 4 k n (rcells cI cZ ad M' Y) pc lv [.int r])  : ∀ (nf : Nat) (x1 x2 x3 : Int32) (M : RM), w_counted_14 post  nf x1 x2 x3 M → gG p l e rm_counted s m args below meth c Q D A 4 0 0 (rcells cI cZ ad M Y) 14 [(0, .ref (ad 0)), (1, .int x1), (2, .int x2), (3, .int x3)] [] := by
  obtain ⟨hx, hb, hml, ho, hts, hK, hA⟩ := id C0
  have hin := in_counted
  intro nf
  induction nf with
  | zero => intro x1 x2 x3 M hw; exact hw.elim
  | succ nf ih =>
    intro x1 x2 x3 M hw H locs ls hW hl
    rw [w_counted_14] at hw
    refine lv_iload_n hx hb dX10_counted_14 rfl (lv_at hl 3 rfl) ?_
    refine lv_aload_n hx hb dX10_counted_15 rfl (lv_at hl 0 rfl) ?_
    refine r_get C0 hin hW 0 (by decide) (v := .ref (ad 1)) rfl (List.mem_of_getElem? (i := 2) rfl) rfl dX10_counted_16 ?_
    refine lv_iload_n hx hb dX10_counted_19 rfl (lv_at hl 1 rfl) ?_
    refine g_calls (As := [.int x1]) (rest := [.ref (ad 1), .int x3]) ⟨hx, hb, hml, ho, hts⟩ hl.1 (k_tokenText (l := l) _ x1 hw) (va_cwS 1 hts gX10_counted_X10_tokenText rfl rfl rfl (by decide +kernel) ⟨Nat.le_of_ble_eq_true rfl, Nat.le_of_ble_eq_true rfl⟩) (Nat.le_of_ble_eq_true rfl) dX10_counted_20 rfl ⟨Nat.le_of_ble_eq_true rfl, Nat.le_of_ble_eq_true rfl⟩ (fun r5 hw => ?_)
    try dsimp only at hw
    obtain ⟨h6, hw⟩ := hw
    refine r_iald C0 hW 1 rfl rfl h6 dX10_counted_23 ?_
    refine lv_icmp_ge (tgt := 45) hx hb dX10_counted_24 (by decide) (fun c7 => ?_) (fun c7 => ?_)
    · have hw := hw.1 c7
      try dsimp only at hw
      refine lv_iload_n hx hb dX10_counted_45 rfl (lv_at hl 2 rfl) ?_
      exact hret x2 M _ _ 0 0 (Nat.le_refl _) (Nat.le_refl _) hw rfl dX10_counted_46 _ _ _ hW hl
    · have hw := hw.2 c7
      try dsimp only at hw
      obtain ⟨v8, ev8⟩ : ∃ y : Int32, y = x2 + 1 := ⟨_, rfl⟩
      have hw := hw v8 ev8
      refine lv_iinc (v := v8) (lv' := [(2, .int v8), (0, .ref (ad 0)), (1, .int x1), (3, .int x3)]) hx hb dX10_counted_27 hl (k := 2) rfl (by rw [ev8]; rfl) (by decide) rfl (fun ls hl => ?_)
      refine lv_aload_n hx hb dX10_counted_30 rfl (lv_at hl 1 rfl) ?_
      refine lv_iload_n hx hb dX10_counted_31 rfl (lv_at hl 2 rfl) ?_
      refine lv_aload_n hx hb dX10_counted_32 rfl (lv_at hl 1 rfl) ?_
      refine lv_iload_n hx hb dX10_counted_33 rfl (lv_at hl 2 rfl) ?_
      refine lv_iload_n hx hb dX10_counted_34 rfl (lv_at hl 3 rfl) ?_
      refine g_calli (cw0 := fun M => rcells cI cZ ad M Y) (M := M) (As := [.int x1, .int x3]) (rest := [.int x1, .ref (ad 0)]) C0 hW hl.1 (k_endOf (l := l) _ x1 x3 _ hw) (cwV 2 hts gX10_counted_X10_endOf rfl rfl rfl (by decide +kernel) ⟨Nat.le_of_ble_eq_true rfl, Nat.le_of_ble_eq_true rfl⟩) (r_recv C0 hW) (Nat.le_of_ble_eq_true rfl) dX10_counted_35 rfl ⟨Nat.le_of_ble_eq_true rfl, Nat.le_of_ble_eq_true rfl⟩ (fun r10 M9 H locs hw hW => ?_)
      try dsimp only at hw
      refine g_calli (cw0 := fun M => rcells cI cZ ad M Y) (M := M9) (As := [.int x1, .int r10]) (rest := []) C0 hW hl.1 (k_beginOf (l := l) _ x1 r10 _ hw) (cwV 2 hts gX10_counted_X10_beginOf rfl rfl rfl (by decide +kernel) ⟨Nat.le_of_ble_eq_true rfl, Nat.le_of_ble_eq_true rfl⟩) (r_recv C0 hW) (Nat.le_of_ble_eq_true rfl) dX10_counted_38 rfl ⟨Nat.le_of_ble_eq_true rfl, Nat.le_of_ble_eq_true rfl⟩ (fun r12 M11 H locs hw hW => ?_)
      try dsimp only at hw
      refine lv_istore_n (lv' := [(3, .int r12), (2, .int v8), (0, .ref (ad 0)), (1, .int x1)]) hx hb dX10_counted_41 rfl hl (by decide) rfl (fun ls hl => ?_)
      refine lv_goto (tgt := 14) hx hb dX10_counted_42 (by decide) ?_
      exact ih x1 v8 r12 M11 hw _ _ _ hW (lv_sub hl [2, 3, 1, 0] rfl)
set_option maxHeartbeats 4000000 in
set_option maxRecDepth 100000 in
theorem t_counted_0 (C0 : rX p s m args c cX10_counted 4 RX10 wsX10_counted D ((cI, .int) :: (cZ, .boolean) :: ty') A) (post : Int32 → RM → Prop) (hret : ∀ (r : Int32) (M' : RM) (pc : Nat) (lv : List (Nat × Value)) (k n : Nat), k ≤ 0 → n ≤ 0 → post r M' → narrow .int (.int r) = .int r → decode cX10_counted pc = .ok (.ireturn, 1) → gG p l e rm_counted s m args below meth c Q D A 4 k n (rcells cI cZ ad M' Y) pc lv [.int r])  : ∀  (a1 : Int32) (M : RM), w_counted post   a1 M → gG p l e rm_counted s m args below meth c Q D A 4 0 0 (rcells cI cZ ad M Y) 0 [(0, .ref (ad 0)), (1, .int a1)] [] := by
  obtain ⟨hx, hb, hml, ho, hts, hK, hA⟩ := id C0
  have hin := in_counted
  intro a1 M hw H locs ls hW hl
  rw [w_counted] at hw
  refine lv_iconst (v := 0) hx hb dX10_counted_0 (by decide) ?_
  refine lv_istore_n (lv' := [(2, .int 0), (0, .ref (ad 0)), (1, .int a1)]) hx hb dX10_counted_1 rfl hl (by decide) rfl (fun ls hl => ?_)
  refine lv_aload_n hx hb dX10_counted_2 rfl (lv_at hl 1 rfl) ?_
  refine lv_iload_n hx hb dX10_counted_3 rfl (lv_at hl 2 rfl) ?_
  refine lv_aload_n hx hb dX10_counted_4 rfl (lv_at hl 1 rfl) ?_
  refine r_get C0 hin hW 9 (by decide) (v := .ref (ad 8)) rfl (List.mem_of_getElem? (i := 1) rfl) rfl dX10_counted_5 ?_
  refine lv_iload_n hx hb dX10_counted_8 rfl (lv_at hl 2 rfl) ?_
  obtain ⟨h1, hw⟩ := hw
  refine r_iald C0 hW 8 rfl rfl h1 dX10_counted_9 ?_
  refine g_calli (cw0 := fun M => rcells cI cZ ad M Y) (M := M) (As := [.int a1, .int (M 8 a1.toNatClampNeg)]) (rest := []) C0 hW hl.1 (k_beginOf (l := l) _ a1 (M 8 a1.toNatClampNeg) _ hw) (cwV 2 hts gX10_counted_X10_beginOf rfl rfl rfl (by decide +kernel) ⟨Nat.le_of_ble_eq_true rfl, Nat.le_of_ble_eq_true rfl⟩) (r_recv C0 hW) (Nat.le_of_ble_eq_true rfl) dX10_counted_10 rfl ⟨Nat.le_of_ble_eq_true rfl, Nat.le_of_ble_eq_true rfl⟩ (fun r3 M2 H locs hw hW => ?_)
  try dsimp only at hw
  refine lv_istore_n (lv' := [(3, .int r3), (2, .int 0), (0, .ref (ad 0)), (1, .int a1)]) hx hb dX10_counted_13 rfl hl (by decide) rfl (fun ls hl => ?_)
  obtain ⟨n4, hw⟩ := hw
  exact t_counted_14 C0 post hret  n4 a1 0 r3 M2 hw _ _ _ hW (lv_sub hl [2, 3, 1, 0] rfl)
set_option maxHeartbeats 4000000 in
set_option maxRecDepth 100000 in
theorem k_counted {l : Launch} {D : va_G} {cI cZ : ClassId} {ty' : List (ClassId × FieldType)} {ad : Nat → Nat} {Y : va_W} {sz : Nat} (post : Int32 → RM → Prop) (a1 : Int32) (M : RM) (hw : w_counted post a1 M) : gMi l yX10_counted wsX10_counted rm_counted D ((cI, .int) :: (cZ, .boolean) :: ty') sz (fun M => rcells cI cZ ad M Y) M [.ref (ad 0), .int a1] post 0 0 := by
  refine gMi_of (cc := cX10_counted) (nL := 4) (ty := .int) (own := RX10) (by decide) rfl rfl (Nat.le_of_ble_eq_true rfl) ?_
  intro p e s m args below meth c A Q C0 hret
  exact t_counted_0 C0 post hret a1 M hw
abbrev rm_make : Room := { frames := 4, cells := 0, slots := 0, locals := 88 }
theorem in_make : ∀ w ∈ wsX100, w ∈ wsX10_make := fun w hw => List.mem_cons_of_mem _ (List.mem_append_right _ hw)
set_option maxHeartbeats 4000000 in
set_option maxRecDepth 100000 in
theorem t_make_0 (C0 : rX p s m args c cX10_make 4 RX10 wsX10_make D ((cI, .int) :: (cZ, .boolean) :: ty') A) (post : Int32 → RM → Prop) (hret : ∀ (r : Int32) (M' : RM) (pc : Nat) (lv : List (Nat × Value)) (k n : Nat), k ≤ 0 → n ≤ 0 → post r M' → narrow .int (.int r) = .int r → decode cX10_make pc = .ok (.ireturn, 1) → gG p l e rm_make s m args below meth c Q D A 4 k n (rcells cI cZ ad M' Y) pc lv [.int r])  : ∀  (a1 a2 a3 : Int32) (M : RM), w_make post   a1 a2 a3 M → gG p l e rm_make s m args below meth c Q D A 4 0 0 (rcells cI cZ ad M Y) 0 [(0, .ref (ad 0)), (1, .int a1), (2, .int a2), (3, .int a3)] [] := by
  obtain ⟨hx, hb, hml, ho, hts, hK, hA⟩ := id C0
  have hin := in_make
  intro a1 a2 a3 M hw H locs ls hW hl
  rw [w_make] at hw
  refine lv_aload_n hx hb dX10_make_0 rfl (lv_at hl 0 rfl) ?_
  refine lv_iload_n hx hb dX10_make_1 rfl (lv_at hl 2 rfl) ?_
  refine lv_iload_n hx hb dX10_make_2 rfl (lv_at hl 1 rfl) ?_
  refine g_calls (As := [.int a1]) (rest := [.int a2, .ref (ad 0)]) ⟨hx, hb, hml, ho, hts⟩ hl.1 (k_tokenText (l := l) _ a1 hw) (va_cwS 1 hts gX10_make_X10_tokenText rfl rfl rfl (by decide +kernel) ⟨Nat.le_of_ble_eq_true rfl, Nat.le_of_ble_eq_true rfl⟩) (Nat.le_of_ble_eq_true rfl) dX10_make_3 rfl ⟨Nat.le_of_ble_eq_true rfl, Nat.le_of_ble_eq_true rfl⟩ (fun r1 hw => ?_)
  try dsimp only at hw
  refine g_callv (cw0 := fun M => rcells cI cZ ad M Y) (M := M) (As := [.int a2, .int r1]) (rest := []) C0 hW hl.1 (k_copyText (l := l) _ a2 r1 _ hw) (cwV 2 hts gX10_make_X10_copyText rfl rfl rfl (by decide +kernel) ⟨Nat.le_of_ble_eq_true rfl, Nat.le_of_ble_eq_true rfl⟩) (r_recv C0 hW) (Nat.le_of_ble_eq_true rfl) dX10_make_6 rfl ⟨Nat.le_of_ble_eq_true rfl, Nat.le_of_ble_eq_true rfl⟩ (fun M2 H locs hw hW => ?_)
  try dsimp only at hw
  refine lv_aload_n hx hb dX10_make_9 rfl (lv_at hl 0 rfl) ?_
  refine r_get C0 hin hW 7 (by decide) (v := .ref (ad 6)) rfl (List.mem_of_getElem? (i := 1) rfl) rfl dX10_make_10 ?_
  refine lv_iload_n hx hb dX10_make_13 rfl (lv_at hl 1 rfl) ?_
  refine lv_iconst (v := 1) hx hb dX10_make_14 (by decide) ?_
  obtain ⟨h3, hw⟩ := hw
  refine r_zast C0 hW 6 rfl rfl h3 rfl dX10_make_15 (fun M4 H locs eM4 hW => ?_)
  have hw := hw M4 eM4
  refine lv_aload_n hx hb dX10_make_16 rfl (lv_at hl 0 rfl) ?_
  refine r_get C0 hin hW 8 (by decide) (v := .ref (ad 7)) rfl (List.mem_of_getElem? (i := 2) rfl) rfl dX10_make_17 ?_
  refine lv_iload_n hx hb dX10_make_20 rfl (lv_at hl 1 rfl) ?_
  refine lv_iload_n hx hb dX10_make_21 rfl (lv_at hl 3 rfl) ?_
  obtain ⟨h5, hw⟩ := hw
  refine r_zast C0 hW 7 rfl rfl h5 rfl dX10_make_22 (fun M6 H locs eM6 hW => ?_)
  have hw := hw M6 eM6
  refine lv_aload_n hx hb dX10_make_23 rfl (lv_at hl 0 rfl) ?_
  refine r_get C0 hin hW 9 (by decide) (v := .ref (ad 8)) rfl (List.mem_of_getElem? (i := 3) rfl) rfl dX10_make_24 ?_
  refine lv_iload_n hx hb dX10_make_27 rfl (lv_at hl 1 rfl) ?_
  refine lv_iconst (v := 0) hx hb dX10_make_28 (by decide) ?_
  obtain ⟨h7, hw⟩ := hw
  refine r_iast C0 hW 8 rfl rfl h7 rfl dX10_make_29 (fun M8 H locs eM8 hW => ?_)
  have hw := hw M8 eM8
  refine lv_aload_n hx hb dX10_make_30 rfl (lv_at hl 0 rfl) ?_
  refine lv_iload_n hx hb dX10_make_31 rfl (lv_at hl 1 rfl) ?_
  refine g_calli (cw0 := fun M => rcells cI cZ ad M Y) (M := M8) (As := [.int a1]) (rest := []) C0 hW hl.1 (k_counted (l := l) _ a1 _ hw) (cwV 1 hts gX10_make_X10_counted rfl rfl rfl (by decide +kernel) ⟨Nat.le_of_ble_eq_true rfl, Nat.le_of_ble_eq_true rfl⟩) (r_recv C0 hW) (Nat.le_of_ble_eq_true rfl) dX10_make_32 rfl ⟨Nat.le_of_ble_eq_true rfl, Nat.le_of_ble_eq_true rfl⟩ (fun r10 M9 H locs hw hW => ?_)
  try dsimp only at hw
  exact hret r10 M9 _ _ 0 0 (Nat.le_refl _) (Nat.le_refl _) hw rfl dX10_make_35 _ _ _ hW hl
set_option maxHeartbeats 4000000 in
set_option maxRecDepth 100000 in
theorem k_make {l : Launch} {D : va_G} {cI cZ : ClassId} {ty' : List (ClassId × FieldType)} {ad : Nat → Nat} {Y : va_W} {sz : Nat} (post : Int32 → RM → Prop) (a1 a2 a3 : Int32) (M : RM) (hw : w_make post a1 a2 a3 M) : gMi l yX10_make wsX10_make rm_make D ((cI, .int) :: (cZ, .boolean) :: ty') sz (fun M => rcells cI cZ ad M Y) M [.ref (ad 0), .int a1, .int a2, .int a3] post 0 0 := by
  refine gMi_of (cc := cX10_make) (nL := 4) (ty := .int) (own := RX10) (by decide) rfl rfl (Nat.le_of_ble_eq_true rfl) ?_
  intro p e s m args below meth c A Q C0 hret
  exact t_make_0 C0 post hret a1 a2 a3 M hw
abbrev rm_tokenize : Room := { frames := 5, cells := 0, slots := 0, locals := 111 }
theorem in_tokenize : ∀ w ∈ wsX100, w ∈ wsX10_tokenize := fun w hw => List.mem_cons_of_mem _ (List.mem_append_right _ hw)
set_option maxHeartbeats 4000000 in
set_option maxRecDepth 100000 in
theorem t_tokenize_0 (C0 : rX p s m args c cX10_tokenize 3 RX10 wsX10_tokenize D ((cI, .int) :: (cZ, .boolean) :: ty') A) (post : Int32 → RM → Prop) (hret : ∀ (r : Int32) (M' : RM) (pc : Nat) (lv : List (Nat × Value)) (k n : Nat), k ≤ 0 → n ≤ 0 → post r M' → narrow .int (.int r) = .int r → decode cX10_tokenize pc = .ok (.ireturn, 1) → gG p l e rm_tokenize s m args below meth c Q D A 3 k n (rcells cI cZ ad M' Y) pc lv [.int r])  : ∀  (a1 a2 : Int32) (M : RM), w_tokenize post   a1 a2 M → gG p l e rm_tokenize s m args below meth c Q D A 3 0 0 (rcells cI cZ ad M Y) 0 [(0, .ref (ad 0)), (1, .int a1), (2, .int a2)] [] := by
  obtain ⟨hx, hb, hml, ho, hts, hK, hA⟩ := id C0
  have hin := in_tokenize
  intro a1 a2 M hw H locs ls hW hl
  rw [w_tokenize] at hw
  refine lv_iload_n hx hb dX10_tokenize_0 rfl (lv_at hl 1 rfl) ?_
  refine g_calls (As := [.int a1]) (rest := []) ⟨hx, hb, hml, ho, hts⟩ hl.1 (k_isTokenizer (l := l) _ a1 hw) (va_cwS 1 hts gX10_tokenize_X10_isTokenizer rfl rfl rfl (by decide +kernel) ⟨Nat.le_of_ble_eq_true rfl, Nat.le_of_ble_eq_true rfl⟩) (Nat.le_of_ble_eq_true rfl) dX10_tokenize_1 rfl ⟨Nat.le_of_ble_eq_true rfl, Nat.le_of_ble_eq_true rfl⟩ (fun r1 hw => ?_)
  try dsimp only at hw
  refine lv_if_eq (tgt := 14) hx hb dX10_tokenize_4 (by decide) (fun c2 => ?_) (fun c2 => ?_)
  · have hw := hw.1 c2
    try dsimp only at hw
    refine lv_iconst (v := (-1)) hx hb dX10_tokenize_14 (by decide) ?_
    exact hret (-1) M _ _ 0 0 (Nat.le_refl _) (Nat.le_refl _) hw rfl dX10_tokenize_15 _ _ _ hW hl
  · have hw := hw.2 c2
    try dsimp only at hw
    refine lv_iload_n hx hb dX10_tokenize_7 rfl (lv_at hl 2 rfl) ?_
    refine g_calls (As := [.int a2]) (rest := []) ⟨hx, hb, hml, ho, hts⟩ hl.1 (k_isSlot (l := l) _ a2 hw) (va_cwS 1 hts gX10_tokenize_X10_isSlot rfl rfl rfl (by decide +kernel) ⟨Nat.le_of_ble_eq_true rfl, Nat.le_of_ble_eq_true rfl⟩) (Nat.le_of_ble_eq_true rfl) dX10_tokenize_8 rfl ⟨Nat.le_of_ble_eq_true rfl, Nat.le_of_ble_eq_true rfl⟩ (fun r3 hw => ?_)
    try dsimp only at hw
    refine lv_if_ne (tgt := 16) hx hb dX10_tokenize_11 (by decide) (fun c4 => ?_) (fun c4 => ?_)
    · have hw := hw.1 c4
      try dsimp only at hw
      refine lv_aload_n hx hb dX10_tokenize_16 rfl (lv_at hl 0 rfl) ?_
      refine lv_iload_n hx hb dX10_tokenize_17 rfl (lv_at hl 2 rfl) ?_
      refine g_calli (cw0 := fun M => rcells cI cZ ad M Y) (M := M) (As := [.int a2]) (rest := []) C0 hW hl.1 (k_hasNothing (l := l) _ a2 _ hw) (cwV 1 hts gX10_tokenize_X10_hasNothing rfl rfl rfl (by decide +kernel) ⟨Nat.le_of_ble_eq_true rfl, Nat.le_of_ble_eq_true rfl⟩) (r_recv C0 hW) (Nat.le_of_ble_eq_true rfl) dX10_tokenize_18 rfl ⟨Nat.le_of_ble_eq_true rfl, Nat.le_of_ble_eq_true rfl⟩ (fun r6 M5 H locs hw hW => ?_)
      try dsimp only at hw
      refine lv_if_eq (tgt := 29) hx hb dX10_tokenize_21 (by decide) (fun c7 => ?_) (fun c7 => ?_)
      · have hw := hw.1 c7
        try dsimp only at hw
        refine lv_aload_n hx hb dX10_tokenize_29 rfl (lv_at hl 0 rfl) ?_
        refine r_get C0 hin hW 0 (by decide) (v := .ref (ad 1)) rfl (List.mem_of_getElem? (i := 1) rfl) rfl dX10_tokenize_30 ?_
        refine lv_sipush (v := 1806) hx hb dX10_tokenize_33 (by decide) ?_
        refine lv_iconst (v := 0) hx hb dX10_tokenize_36 (by decide) ?_
        obtain ⟨h8, hw⟩ := hw
        refine r_iast C0 hW 1 rfl rfl h8 rfl dX10_tokenize_37 (fun M9 H locs eM9 hW => ?_)
        have hw := hw M9 eM9
        refine lv_aload_n hx hb dX10_tokenize_38 rfl (lv_at hl 0 rfl) ?_
        refine lv_sipush (v := 1806) hx hb dX10_tokenize_39 (by decide) ?_
        refine lv_bipush (v := 32) hx hb dX10_tokenize_42 (by decide) ?_
        refine g_callv (cw0 := fun M => rcells cI cZ ad M Y) (M := M9) (As := [.int 1806, .int 32]) (rest := []) C0 hW hl.1 (k_addSign (l := l) _ 1806 32 _ hw) (cwV 2 hts gX10_tokenize_X10_addSign rfl rfl rfl (by decide +kernel) ⟨Nat.le_of_ble_eq_true rfl, Nat.le_of_ble_eq_true rfl⟩) (r_recv C0 hW) (Nat.le_of_ble_eq_true rfl) dX10_tokenize_44 rfl ⟨Nat.le_of_ble_eq_true rfl, Nat.le_of_ble_eq_true rfl⟩ (fun M10 H locs hw hW => ?_)
        try dsimp only at hw
        refine lv_aload_n hx hb dX10_tokenize_47 rfl (lv_at hl 0 rfl) ?_
        refine lv_sipush (v := 1806) hx hb dX10_tokenize_48 (by decide) ?_
        refine lv_bipush (v := 9) hx hb dX10_tokenize_51 (by decide) ?_
        refine g_callv (cw0 := fun M => rcells cI cZ ad M Y) (M := M10) (As := [.int 1806, .int 9]) (rest := []) C0 hW hl.1 (k_addSign (l := l) _ 1806 9 _ hw) (cwV 2 hts gX10_tokenize_X10_addSign rfl rfl rfl (by decide +kernel) ⟨Nat.le_of_ble_eq_true rfl, Nat.le_of_ble_eq_true rfl⟩) (r_recv C0 hW) (Nat.le_of_ble_eq_true rfl) dX10_tokenize_53 rfl ⟨Nat.le_of_ble_eq_true rfl, Nat.le_of_ble_eq_true rfl⟩ (fun M11 H locs hw hW => ?_)
        try dsimp only at hw
        refine lv_aload_n hx hb dX10_tokenize_56 rfl (lv_at hl 0 rfl) ?_
        refine lv_sipush (v := 1806) hx hb dX10_tokenize_57 (by decide) ?_
        refine lv_bipush (v := 10) hx hb dX10_tokenize_60 (by decide) ?_
        refine g_callv (cw0 := fun M => rcells cI cZ ad M Y) (M := M11) (As := [.int 1806, .int 10]) (rest := []) C0 hW hl.1 (k_addSign (l := l) _ 1806 10 _ hw) (cwV 2 hts gX10_tokenize_X10_addSign rfl rfl rfl (by decide +kernel) ⟨Nat.le_of_ble_eq_true rfl, Nat.le_of_ble_eq_true rfl⟩) (r_recv C0 hW) (Nat.le_of_ble_eq_true rfl) dX10_tokenize_62 rfl ⟨Nat.le_of_ble_eq_true rfl, Nat.le_of_ble_eq_true rfl⟩ (fun M12 H locs hw hW => ?_)
        try dsimp only at hw
        refine lv_aload_n hx hb dX10_tokenize_65 rfl (lv_at hl 0 rfl) ?_
        refine lv_sipush (v := 1806) hx hb dX10_tokenize_66 (by decide) ?_
        refine lv_bipush (v := 13) hx hb dX10_tokenize_69 (by decide) ?_
        refine g_callv (cw0 := fun M => rcells cI cZ ad M Y) (M := M12) (As := [.int 1806, .int 13]) (rest := []) C0 hW hl.1 (k_addSign (l := l) _ 1806 13 _ hw) (cwV 2 hts gX10_tokenize_X10_addSign rfl rfl rfl (by decide +kernel) ⟨Nat.le_of_ble_eq_true rfl, Nat.le_of_ble_eq_true rfl⟩) (r_recv C0 hW) (Nat.le_of_ble_eq_true rfl) dX10_tokenize_71 rfl ⟨Nat.le_of_ble_eq_true rfl, Nat.le_of_ble_eq_true rfl⟩ (fun M13 H locs hw hW => ?_)
        try dsimp only at hw
        refine lv_aload_n hx hb dX10_tokenize_74 rfl (lv_at hl 0 rfl) ?_
        refine lv_sipush (v := 1806) hx hb dX10_tokenize_75 (by decide) ?_
        refine lv_bipush (v := 12) hx hb dX10_tokenize_78 (by decide) ?_
        refine g_callv (cw0 := fun M => rcells cI cZ ad M Y) (M := M13) (As := [.int 1806, .int 12]) (rest := []) C0 hW hl.1 (k_addSign (l := l) _ 1806 12 _ hw) (cwV 2 hts gX10_tokenize_X10_addSign rfl rfl rfl (by decide +kernel) ⟨Nat.le_of_ble_eq_true rfl, Nat.le_of_ble_eq_true rfl⟩) (r_recv C0 hW) (Nat.le_of_ble_eq_true rfl) dX10_tokenize_80 rfl ⟨Nat.le_of_ble_eq_true rfl, Nat.le_of_ble_eq_true rfl⟩ (fun M14 H locs hw hW => ?_)
        try dsimp only at hw
        refine lv_aload_n hx hb dX10_tokenize_83 rfl (lv_at hl 0 rfl) ?_
        refine lv_iload_n hx hb dX10_tokenize_84 rfl (lv_at hl 1 rfl) ?_
        refine lv_sipush (v := 1806) hx hb dX10_tokenize_85 (by decide) ?_
        refine g_callv (cw0 := fun M => rcells cI cZ ad M Y) (M := M14) (As := [.int a1, .int 1806]) (rest := []) C0 hW hl.1 (k_layDelimiters (l := l) _ a1 1806 _ hw) (cwV 2 hts gX10_tokenize_X10_layDelimiters rfl rfl rfl (by decide +kernel) ⟨Nat.le_of_ble_eq_true rfl, Nat.le_of_ble_eq_true rfl⟩) (r_recv C0 hW) (Nat.le_of_ble_eq_true rfl) dX10_tokenize_88 rfl ⟨Nat.le_of_ble_eq_true rfl, Nat.le_of_ble_eq_true rfl⟩ (fun M15 H locs hw hW => ?_)
        try dsimp only at hw
        refine lv_aload_n hx hb dX10_tokenize_91 rfl (lv_at hl 0 rfl) ?_
        refine lv_iload_n hx hb dX10_tokenize_92 rfl (lv_at hl 1 rfl) ?_
        refine lv_iload_n hx hb dX10_tokenize_93 rfl (lv_at hl 2 rfl) ?_
        refine g_calls (As := [.int a2]) (rest := [.int a1, .ref (ad 0)]) ⟨hx, hb, hml, ho, hts⟩ hl.1 (k_at (l := l) _ a2 hw) (va_cwS 1 hts gX10_tokenize_X10_at rfl rfl rfl (by decide +kernel) ⟨Nat.le_of_ble_eq_true rfl, Nat.le_of_ble_eq_true rfl⟩) (Nat.le_of_ble_eq_true rfl) dX10_tokenize_94 rfl ⟨Nat.le_of_ble_eq_true rfl, Nat.le_of_ble_eq_true rfl⟩ (fun r16 hw => ?_)
        try dsimp only at hw
        refine lv_iconst (v := 0) hx hb dX10_tokenize_97 (by decide) ?_
        refine g_calli (cw0 := fun M => rcells cI cZ ad M Y) (M := M15) (As := [.int a1, .int r16, .int 0]) (rest := []) C0 hW hl.1 (k_make (l := l) _ a1 r16 0 _ hw) (cwV 3 hts gX10_tokenize_X10_make rfl rfl rfl (by decide +kernel) ⟨Nat.le_of_ble_eq_true rfl, Nat.le_of_ble_eq_true rfl⟩) (r_recv C0 hW) (Nat.le_of_ble_eq_true rfl) dX10_tokenize_98 rfl ⟨Nat.le_of_ble_eq_true rfl, Nat.le_of_ble_eq_true rfl⟩ (fun r18 M17 H locs hw hW => ?_)
        try dsimp only at hw
        exact hret r18 M17 _ _ 0 0 (Nat.le_refl _) (Nat.le_refl _) hw rfl dX10_tokenize_101 _ _ _ hW hl
      · have hw := hw.2 c7
        try dsimp only at hw
        refine lv_aload_n hx hb dX10_tokenize_24 rfl (lv_at hl 0 rfl) ?_
        refine g_calli (cw0 := fun M => rcells cI cZ ad M Y) (M := M5) (As := []) (rest := []) C0 hW hl.1 (k_refusedNull (l := l) _  _ hw) (cwV 0 hts gX10_tokenize_X10_refusedNull rfl rfl rfl (by decide +kernel) ⟨Nat.le_of_ble_eq_true rfl, Nat.le_of_ble_eq_true rfl⟩) (r_recv C0 hW) (Nat.le_of_ble_eq_true rfl) dX10_tokenize_25 rfl ⟨Nat.le_of_ble_eq_true rfl, Nat.le_of_ble_eq_true rfl⟩ (fun r20 M19 H locs hw hW => ?_)
        try dsimp only at hw
        exact hret r20 M19 _ _ 0 0 (Nat.le_refl _) (Nat.le_refl _) hw rfl dX10_tokenize_28 _ _ _ hW hl
    · have hw := hw.2 c4
      try dsimp only at hw
      refine lv_iconst (v := (-1)) hx hb dX10_tokenize_14 (by decide) ?_
      exact hret (-1) M _ _ 0 0 (Nat.le_refl _) (Nat.le_refl _) hw rfl dX10_tokenize_15 _ _ _ hW hl
set_option maxHeartbeats 4000000 in
set_option maxRecDepth 100000 in
theorem k_tokenize {l : Launch} {D : va_G} {cI cZ : ClassId} {ty' : List (ClassId × FieldType)} {ad : Nat → Nat} {Y : va_W} {sz : Nat} (post : Int32 → RM → Prop) (a1 a2 : Int32) (M : RM) (hw : w_tokenize post a1 a2 M) : gMi l yX10_tokenize wsX10_tokenize rm_tokenize D ((cI, .int) :: (cZ, .boolean) :: ty') sz (fun M => rcells cI cZ ad M Y) M [.ref (ad 0), .int a1, .int a2] post 0 0 := by
  refine gMi_of (cc := cX10_tokenize) (nL := 3) (ty := .int) (own := RX10) (by decide) rfl rfl (Nat.le_of_ble_eq_true rfl) ?_
  intro p e s m args below meth c A Q C0 hret
  exact t_tokenize_0 C0 post hret a1 a2 M hw
abbrev rm_tokenizeTold : Room := { frames := 5, cells := 0, slots := 0, locals := 111 }
theorem in_tokenizeTold : ∀ w ∈ wsX100, w ∈ wsX10_tokenizeTold := fun w hw => List.mem_cons_of_mem _ (List.mem_append_right _ hw)
set_option maxHeartbeats 4000000 in
set_option maxRecDepth 100000 in
theorem t_tokenizeTold_0 (C0 : rX p s m args c cX10_tokenizeTold 5 RX10 wsX10_tokenizeTold D ((cI, .int) :: (cZ, .boolean) :: ty') A) (post : Int32 → RM → Prop) (hret : ∀ (r : Int32) (M' : RM) (pc : Nat) (lv : List (Nat × Value)) (k n : Nat), k ≤ 0 → n ≤ 0 → post r M' → narrow .int (.int r) = .int r → decode cX10_tokenizeTold pc = .ok (.ireturn, 1) → gG p l e rm_tokenizeTold s m args below meth c Q D A 5 k n (rcells cI cZ ad M' Y) pc lv [.int r])  : ∀  (a1 a2 a3 a4 : Int32) (M : RM), w_tokenizeTold post   a1 a2 a3 a4 M → gG p l e rm_tokenizeTold s m args below meth c Q D A 5 0 0 (rcells cI cZ ad M Y) 0 [(0, .ref (ad 0)), (1, .int a1), (2, .int a2), (3, .int a3), (4, .int a4)] [] := by
  obtain ⟨hx, hb, hml, ho, hts, hK, hA⟩ := id C0
  have hin := in_tokenizeTold
  intro a1 a2 a3 a4 M hw H locs ls hW hl
  rw [w_tokenizeTold] at hw
  refine lv_iload_n hx hb dX10_tokenizeTold_0 rfl (lv_at hl 1 rfl) ?_
  refine g_calls (As := [.int a1]) (rest := []) ⟨hx, hb, hml, ho, hts⟩ hl.1 (k_isTokenizer (l := l) _ a1 hw) (va_cwS 1 hts gX10_tokenizeTold_X10_isTokenizer rfl rfl rfl (by decide +kernel) ⟨Nat.le_of_ble_eq_true rfl, Nat.le_of_ble_eq_true rfl⟩) (Nat.le_of_ble_eq_true rfl) dX10_tokenizeTold_1 rfl ⟨Nat.le_of_ble_eq_true rfl, Nat.le_of_ble_eq_true rfl⟩ (fun r1 hw => ?_)
  try dsimp only at hw
  refine lv_if_eq (tgt := 21) hx hb dX10_tokenizeTold_4 (by decide) (fun c2 => ?_) (fun c2 => ?_)
  · have hw := hw.1 c2
    try dsimp only at hw
    refine lv_iconst (v := (-1)) hx hb dX10_tokenizeTold_21 (by decide) ?_
    exact hret (-1) M _ _ 0 0 (Nat.le_refl _) (Nat.le_refl _) hw rfl dX10_tokenizeTold_22 _ _ _ hW hl
  · have hw := hw.2 c2
    try dsimp only at hw
    refine lv_iload_n hx hb dX10_tokenizeTold_7 rfl (lv_at hl 2 rfl) ?_
    refine g_calls (As := [.int a2]) (rest := []) ⟨hx, hb, hml, ho, hts⟩ hl.1 (k_isSlot (l := l) _ a2 hw) (va_cwS 1 hts gX10_tokenizeTold_X10_isSlot rfl rfl rfl (by decide +kernel) ⟨Nat.le_of_ble_eq_true rfl, Nat.le_of_ble_eq_true rfl⟩) (Nat.le_of_ble_eq_true rfl) dX10_tokenizeTold_8 rfl ⟨Nat.le_of_ble_eq_true rfl, Nat.le_of_ble_eq_true rfl⟩ (fun r3 hw => ?_)
    try dsimp only at hw
    refine lv_if_eq (tgt := 21) hx hb dX10_tokenizeTold_11 (by decide) (fun c4 => ?_) (fun c4 => ?_)
    · have hw := hw.1 c4
      try dsimp only at hw
      refine lv_iconst (v := (-1)) hx hb dX10_tokenizeTold_21 (by decide) ?_
      exact hret (-1) M _ _ 0 0 (Nat.le_refl _) (Nat.le_refl _) hw rfl dX10_tokenizeTold_22 _ _ _ hW hl
    · have hw := hw.2 c4
      try dsimp only at hw
      refine lv_iload_n hx hb dX10_tokenizeTold_14 rfl (lv_at hl 3 rfl) ?_
      refine g_calls (As := [.int a3]) (rest := []) ⟨hx, hb, hml, ho, hts⟩ hl.1 (k_isSlot (l := l) _ a3 hw) (va_cwS 1 hts gX10_tokenizeTold_X10_isSlot rfl rfl rfl (by decide +kernel) ⟨Nat.le_of_ble_eq_true rfl, Nat.le_of_ble_eq_true rfl⟩) (Nat.le_of_ble_eq_true rfl) dX10_tokenizeTold_15 rfl ⟨Nat.le_of_ble_eq_true rfl, Nat.le_of_ble_eq_true rfl⟩ (fun r5 hw => ?_)
      try dsimp only at hw
      refine lv_if_ne (tgt := 23) hx hb dX10_tokenizeTold_18 (by decide) (fun c6 => ?_) (fun c6 => ?_)
      · have hw := hw.1 c6
        try dsimp only at hw
        refine lv_aload_n hx hb dX10_tokenizeTold_23 rfl (lv_at hl 0 rfl) ?_
        refine lv_iload_n hx hb dX10_tokenizeTold_24 rfl (lv_at hl 3 rfl) ?_
        refine g_calli (cw0 := fun M => rcells cI cZ ad M Y) (M := M) (As := [.int a3]) (rest := []) C0 hW hl.1 (k_hasNothing (l := l) _ a3 _ hw) (cwV 1 hts gX10_tokenizeTold_X10_hasNothing rfl rfl rfl (by decide +kernel) ⟨Nat.le_of_ble_eq_true rfl, Nat.le_of_ble_eq_true rfl⟩) (r_recv C0 hW) (Nat.le_of_ble_eq_true rfl) dX10_tokenizeTold_25 rfl ⟨Nat.le_of_ble_eq_true rfl, Nat.le_of_ble_eq_true rfl⟩ (fun r8 M7 H locs hw hW => ?_)
        try dsimp only at hw
        refine lv_if_eq (tgt := 34) hx hb dX10_tokenizeTold_28 (by decide) (fun c9 => ?_) (fun c9 => ?_)
        · have hw := hw.1 c9
          try dsimp only at hw
          refine lv_aload_n hx hb dX10_tokenizeTold_34 rfl (lv_at hl 0 rfl) ?_
          refine lv_iload_n hx hb dX10_tokenizeTold_35 rfl (lv_at hl 2 rfl) ?_
          refine g_calli (cw0 := fun M => rcells cI cZ ad M Y) (M := M7) (As := [.int a2]) (rest := []) C0 hW hl.1 (k_hasNothing (l := l) _ a2 _ hw) (cwV 1 hts gX10_tokenizeTold_X10_hasNothing rfl rfl rfl (by decide +kernel) ⟨Nat.le_of_ble_eq_true rfl, Nat.le_of_ble_eq_true rfl⟩) (r_recv C0 hW) (Nat.le_of_ble_eq_true rfl) dX10_tokenizeTold_36 rfl ⟨Nat.le_of_ble_eq_true rfl, Nat.le_of_ble_eq_true rfl⟩ (fun r11 M10 H locs hw hW => ?_)
          try dsimp only at hw
          refine lv_if_eq (tgt := 47) hx hb dX10_tokenizeTold_39 (by decide) (fun c12 => ?_) (fun c12 => ?_)
          · have hw := hw.1 c12
            try dsimp only at hw
            refine lv_aload_n hx hb dX10_tokenizeTold_47 rfl (lv_at hl 0 rfl) ?_
            refine lv_iload_n hx hb dX10_tokenizeTold_48 rfl (lv_at hl 1 rfl) ?_
            refine lv_iload_n hx hb dX10_tokenizeTold_49 rfl (lv_at hl 3 rfl) ?_
            refine g_calls (As := [.int a3]) (rest := [.int a1, .ref (ad 0)]) ⟨hx, hb, hml, ho, hts⟩ hl.1 (k_at (l := l) _ a3 hw) (va_cwS 1 hts gX10_tokenizeTold_X10_at rfl rfl rfl (by decide +kernel) ⟨Nat.le_of_ble_eq_true rfl, Nat.le_of_ble_eq_true rfl⟩) (Nat.le_of_ble_eq_true rfl) dX10_tokenizeTold_50 rfl ⟨Nat.le_of_ble_eq_true rfl, Nat.le_of_ble_eq_true rfl⟩ (fun r13 hw => ?_)
            try dsimp only at hw
            refine g_callv (cw0 := fun M => rcells cI cZ ad M Y) (M := M10) (As := [.int a1, .int r13]) (rest := []) C0 hW hl.1 (k_layDelimiters (l := l) _ a1 r13 _ hw) (cwV 2 hts gX10_tokenizeTold_X10_layDelimiters rfl rfl rfl (by decide +kernel) ⟨Nat.le_of_ble_eq_true rfl, Nat.le_of_ble_eq_true rfl⟩) (r_recv C0 hW) (Nat.le_of_ble_eq_true rfl) dX10_tokenizeTold_53 rfl ⟨Nat.le_of_ble_eq_true rfl, Nat.le_of_ble_eq_true rfl⟩ (fun M14 H locs hw hW => ?_)
            try dsimp only at hw
            refine lv_aload_n hx hb dX10_tokenizeTold_56 rfl (lv_at hl 0 rfl) ?_
            refine lv_iload_n hx hb dX10_tokenizeTold_57 rfl (lv_at hl 1 rfl) ?_
            refine lv_iload_n hx hb dX10_tokenizeTold_58 rfl (lv_at hl 2 rfl) ?_
            refine g_calls (As := [.int a2]) (rest := [.int a1, .ref (ad 0)]) ⟨hx, hb, hml, ho, hts⟩ hl.1 (k_at (l := l) _ a2 hw) (va_cwS 1 hts gX10_tokenizeTold_X10_at rfl rfl rfl (by decide +kernel) ⟨Nat.le_of_ble_eq_true rfl, Nat.le_of_ble_eq_true rfl⟩) (Nat.le_of_ble_eq_true rfl) dX10_tokenizeTold_59 rfl ⟨Nat.le_of_ble_eq_true rfl, Nat.le_of_ble_eq_true rfl⟩ (fun r15 hw => ?_)
            try dsimp only at hw
            refine lv_iload hx hb dX10_tokenizeTold_62 (lv_at hl 4 rfl) ?_
            refine g_calli (cw0 := fun M => rcells cI cZ ad M Y) (M := M14) (As := [.int a1, .int r15, .int a4]) (rest := []) C0 hW hl.1 (k_make (l := l) _ a1 r15 a4 _ hw) (cwV 3 hts gX10_tokenizeTold_X10_make rfl rfl rfl (by decide +kernel) ⟨Nat.le_of_ble_eq_true rfl, Nat.le_of_ble_eq_true rfl⟩) (r_recv C0 hW) (Nat.le_of_ble_eq_true rfl) dX10_tokenizeTold_64 rfl ⟨Nat.le_of_ble_eq_true rfl, Nat.le_of_ble_eq_true rfl⟩ (fun r17 M16 H locs hw hW => ?_)
            try dsimp only at hw
            exact hret r17 M16 _ _ 0 0 (Nat.le_refl _) (Nat.le_refl _) hw rfl dX10_tokenizeTold_67 _ _ _ hW hl
          · have hw := hw.2 c12
            try dsimp only at hw
            refine lv_aload_n hx hb dX10_tokenizeTold_42 rfl (lv_at hl 0 rfl) ?_
            refine g_calli (cw0 := fun M => rcells cI cZ ad M Y) (M := M10) (As := []) (rest := []) C0 hW hl.1 (k_refusedNull (l := l) _  _ hw) (cwV 0 hts gX10_tokenizeTold_X10_refusedNull rfl rfl rfl (by decide +kernel) ⟨Nat.le_of_ble_eq_true rfl, Nat.le_of_ble_eq_true rfl⟩) (r_recv C0 hW) (Nat.le_of_ble_eq_true rfl) dX10_tokenizeTold_43 rfl ⟨Nat.le_of_ble_eq_true rfl, Nat.le_of_ble_eq_true rfl⟩ (fun r19 M18 H locs hw hW => ?_)
            try dsimp only at hw
            exact hret r19 M18 _ _ 0 0 (Nat.le_refl _) (Nat.le_refl _) hw rfl dX10_tokenizeTold_46 _ _ _ hW hl
        · have hw := hw.2 c9
          try dsimp only at hw
          refine lv_bipush (v := (-2)) hx hb dX10_tokenizeTold_31 (by decide) ?_
          exact hret (-2) M7 _ _ 0 0 (Nat.le_refl _) (Nat.le_refl _) hw rfl dX10_tokenizeTold_33 _ _ _ hW hl
      · have hw := hw.2 c6
        try dsimp only at hw
        refine lv_iconst (v := (-1)) hx hb dX10_tokenizeTold_21 (by decide) ?_
        exact hret (-1) M _ _ 0 0 (Nat.le_refl _) (Nat.le_refl _) hw rfl dX10_tokenizeTold_22 _ _ _ hW hl
set_option maxHeartbeats 4000000 in
set_option maxRecDepth 100000 in
theorem k_tokenizeTold {l : Launch} {D : va_G} {cI cZ : ClassId} {ty' : List (ClassId × FieldType)} {ad : Nat → Nat} {Y : va_W} {sz : Nat} (post : Int32 → RM → Prop) (a1 a2 a3 a4 : Int32) (M : RM) (hw : w_tokenizeTold post a1 a2 a3 a4 M) : gMi l yX10_tokenizeTold wsX10_tokenizeTold rm_tokenizeTold D ((cI, .int) :: (cZ, .boolean) :: ty') sz (fun M => rcells cI cZ ad M Y) M [.ref (ad 0), .int a1, .int a2, .int a3, .int a4] post 0 0 := by
  refine gMi_of (cc := cX10_tokenizeTold) (nL := 5) (ty := .int) (own := RX10) (by decide) rfl rfl (Nat.le_of_ble_eq_true rfl) ?_
  intro p e s m args below meth c A Q C0 hret
  exact t_tokenizeTold_0 C0 post hret a1 a2 a3 a4 M hw
abbrev rm_tokenizeBy : Room := { frames := 6, cells := 0, slots := 0, locals := 135 }
theorem in_tokenizeBy : ∀ w ∈ wsX100, w ∈ wsX10_tokenizeBy := fun w hw => List.mem_cons_of_mem _ (List.mem_append_right _ hw)
set_option maxHeartbeats 4000000 in
set_option maxRecDepth 100000 in
theorem t_tokenizeBy_0 (C0 : rX p s m args c cX10_tokenizeBy 4 RX10 wsX10_tokenizeBy D ((cI, .int) :: (cZ, .boolean) :: ty') A) (post : Int32 → RM → Prop) (hret : ∀ (r : Int32) (M' : RM) (pc : Nat) (lv : List (Nat × Value)) (k n : Nat), k ≤ 0 → n ≤ 0 → post r M' → narrow .int (.int r) = .int r → decode cX10_tokenizeBy pc = .ok (.ireturn, 1) → gG p l e rm_tokenizeBy s m args below meth c Q D A 4 k n (rcells cI cZ ad M' Y) pc lv [.int r])  : ∀  (a1 a2 a3 : Int32) (M : RM), w_tokenizeBy post   a1 a2 a3 M → gG p l e rm_tokenizeBy s m args below meth c Q D A 4 0 0 (rcells cI cZ ad M Y) 0 [(0, .ref (ad 0)), (1, .int a1), (2, .int a2), (3, .int a3)] [] := by
  obtain ⟨hx, hb, hml, ho, hts, hK, hA⟩ := id C0
  have hin := in_tokenizeBy
  intro a1 a2 a3 M hw H locs ls hW hl
  rw [w_tokenizeBy] at hw
  refine lv_aload_n hx hb dX10_tokenizeBy_0 rfl (lv_at hl 0 rfl) ?_
  refine lv_iload_n hx hb dX10_tokenizeBy_1 rfl (lv_at hl 1 rfl) ?_
  refine lv_iload_n hx hb dX10_tokenizeBy_2 rfl (lv_at hl 2 rfl) ?_
  refine lv_iload_n hx hb dX10_tokenizeBy_3 rfl (lv_at hl 3 rfl) ?_
  refine lv_iconst (v := 0) hx hb dX10_tokenizeBy_4 (by decide) ?_
  refine g_calli (cw0 := fun M => rcells cI cZ ad M Y) (M := M) (As := [.int a1, .int a2, .int a3, .int 0]) (rest := []) C0 hW hl.1 (k_tokenizeTold (l := l) _ a1 a2 a3 0 _ hw) (cwV 4 hts gX10_tokenizeBy_X10_tokenizeTold rfl rfl rfl (by decide +kernel) ⟨Nat.le_of_ble_eq_true rfl, Nat.le_of_ble_eq_true rfl⟩) (r_recv C0 hW) (Nat.le_of_ble_eq_true rfl) dX10_tokenizeBy_5 rfl ⟨Nat.le_of_ble_eq_true rfl, Nat.le_of_ble_eq_true rfl⟩ (fun r2 M1 H locs hw hW => ?_)
  try dsimp only at hw
  exact hret r2 M1 _ _ 0 0 (Nat.le_refl _) (Nat.le_refl _) hw rfl dX10_tokenizeBy_8 _ _ _ hW hl
set_option maxHeartbeats 4000000 in
set_option maxRecDepth 100000 in
theorem k_tokenizeBy {l : Launch} {D : va_G} {cI cZ : ClassId} {ty' : List (ClassId × FieldType)} {ad : Nat → Nat} {Y : va_W} {sz : Nat} (post : Int32 → RM → Prop) (a1 a2 a3 : Int32) (M : RM) (hw : w_tokenizeBy post a1 a2 a3 M) : gMi l yX10_tokenizeBy wsX10_tokenizeBy rm_tokenizeBy D ((cI, .int) :: (cZ, .boolean) :: ty') sz (fun M => rcells cI cZ ad M Y) M [.ref (ad 0), .int a1, .int a2, .int a3] post 0 0 := by
  refine gMi_of (cc := cX10_tokenizeBy) (nL := 4) (ty := .int) (own := RX10) (by decide) rfl rfl (Nat.le_of_ble_eq_true rfl) ?_
  intro p e s m args below meth c A Q C0 hret
  exact t_tokenizeBy_0 C0 post hret a1 a2 a3 M hw
abbrev rm_tokenizeAll : Room := { frames := 6, cells := 0, slots := 0, locals := 135 }
theorem in_tokenizeAll : ∀ w ∈ wsX100, w ∈ wsX10_tokenizeAll := fun w hw => List.mem_cons_of_mem _ (List.mem_append_right _ hw)
set_option maxHeartbeats 4000000 in
set_option maxRecDepth 100000 in
theorem t_tokenizeAll_0 (C0 : rX p s m args c cX10_tokenizeAll 4 RX10 wsX10_tokenizeAll D ((cI, .int) :: (cZ, .boolean) :: ty') A) (post : Int32 → RM → Prop) (hret : ∀ (r : Int32) (M' : RM) (pc : Nat) (lv : List (Nat × Value)) (k n : Nat), k ≤ 0 → n ≤ 0 → post r M' → narrow .int (.int r) = .int r → decode cX10_tokenizeAll pc = .ok (.ireturn, 1) → gG p l e rm_tokenizeAll s m args below meth c Q D A 4 k n (rcells cI cZ ad M' Y) pc lv [.int r])  : ∀  (a1 a2 a3 : Int32) (M : RM), w_tokenizeAll post   a1 a2 a3 M → gG p l e rm_tokenizeAll s m args below meth c Q D A 4 0 0 (rcells cI cZ ad M Y) 0 [(0, .ref (ad 0)), (1, .int a1), (2, .int a2), (3, .int a3)] [] := by
  obtain ⟨hx, hb, hml, ho, hts, hK, hA⟩ := id C0
  have hin := in_tokenizeAll
  intro a1 a2 a3 M hw H locs ls hW hl
  rw [w_tokenizeAll] at hw
  refine lv_aload_n hx hb dX10_tokenizeAll_0 rfl (lv_at hl 0 rfl) ?_
  refine lv_iload_n hx hb dX10_tokenizeAll_1 rfl (lv_at hl 1 rfl) ?_
  refine lv_iload_n hx hb dX10_tokenizeAll_2 rfl (lv_at hl 2 rfl) ?_
  refine lv_iload_n hx hb dX10_tokenizeAll_3 rfl (lv_at hl 3 rfl) ?_
  refine lv_iconst (v := 1) hx hb dX10_tokenizeAll_4 (by decide) ?_
  refine g_calli (cw0 := fun M => rcells cI cZ ad M Y) (M := M) (As := [.int a1, .int a2, .int a3, .int 1]) (rest := []) C0 hW hl.1 (k_tokenizeTold (l := l) _ a1 a2 a3 1 _ hw) (cwV 4 hts gX10_tokenizeAll_X10_tokenizeTold rfl rfl rfl (by decide +kernel) ⟨Nat.le_of_ble_eq_true rfl, Nat.le_of_ble_eq_true rfl⟩) (r_recv C0 hW) (Nat.le_of_ble_eq_true rfl) dX10_tokenizeAll_5 rfl ⟨Nat.le_of_ble_eq_true rfl, Nat.le_of_ble_eq_true rfl⟩ (fun r2 M1 H locs hw hW => ?_)
  try dsimp only at hw
  exact hret r2 M1 _ _ 0 0 (Nat.le_refl _) (Nat.le_refl _) hw rfl dX10_tokenizeAll_8 _ _ _ hW hl
set_option maxHeartbeats 4000000 in
set_option maxRecDepth 100000 in
theorem k_tokenizeAll {l : Launch} {D : va_G} {cI cZ : ClassId} {ty' : List (ClassId × FieldType)} {ad : Nat → Nat} {Y : va_W} {sz : Nat} (post : Int32 → RM → Prop) (a1 a2 a3 : Int32) (M : RM) (hw : w_tokenizeAll post a1 a2 a3 M) : gMi l yX10_tokenizeAll wsX10_tokenizeAll rm_tokenizeAll D ((cI, .int) :: (cZ, .boolean) :: ty') sz (fun M => rcells cI cZ ad M Y) M [.ref (ad 0), .int a1, .int a2, .int a3] post 0 0 := by
  refine gMi_of (cc := cX10_tokenizeAll) (nL := 4) (ty := .int) (own := RX10) (by decide) rfl rfl (Nat.le_of_ble_eq_true rfl) ?_
  intro p e s m args below meth c A Q C0 hret
  exact t_tokenizeAll_0 C0 post hret a1 a2 a3 M hw
abbrev rm_tokenizeValue : Room := { frames := 5, cells := 0, slots := 0, locals := 111 }
theorem in_tokenizeValue : ∀ w ∈ wsX100, w ∈ wsX10_tokenizeValue := fun w hw => List.mem_cons_of_mem _ (List.mem_append_right _ hw)
set_option maxHeartbeats 4000000 in
set_option maxRecDepth 100000 in
theorem t_tokenizeValue_0 (C0 : rX p s m args c cX10_tokenizeValue 6 RX10 wsX10_tokenizeValue D ((cI, .int) :: (cZ, .boolean) :: ty') A) (post : Int32 → RM → Prop) (hret : ∀ (r : Int32) (M' : RM) (pc : Nat) (lv : List (Nat × Value)) (k n : Nat), k ≤ 0 → n ≤ 0 → post r M' → narrow .int (.int r) = .int r → decode cX10_tokenizeValue pc = .ok (.ireturn, 1) → gG p l e rm_tokenizeValue s m args below meth c Q D A 6 k n (rcells cI cZ ad M' Y) pc lv [.int r])  : ∀  (a1 a2 a3 a4 : Int32) (M : RM), w_tokenizeValue post   a1 a2 a3 a4 M → gG p l e rm_tokenizeValue s m args below meth c Q D A 6 0 0 (rcells cI cZ ad M Y) 0 [(0, .ref (ad 0)), (1, .int a1), (2, .int a2), (3, .int a3), (4, .int a4)] [] := by
  obtain ⟨hx, hb, hml, ho, hts, hK, hA⟩ := id C0
  have hin := in_tokenizeValue
  intro a1 a2 a3 a4 M hw H locs ls hW hl
  rw [w_tokenizeValue] at hw
  refine lv_iload_n hx hb dX10_tokenizeValue_0 rfl (lv_at hl 1 rfl) ?_
  refine g_calls (As := [.int a1]) (rest := []) ⟨hx, hb, hml, ho, hts⟩ hl.1 (k_isTokenizer (l := l) _ a1 hw) (va_cwS 1 hts gX10_tokenizeValue_X10_isTokenizer rfl rfl rfl (by decide +kernel) ⟨Nat.le_of_ble_eq_true rfl, Nat.le_of_ble_eq_true rfl⟩) (Nat.le_of_ble_eq_true rfl) dX10_tokenizeValue_1 rfl ⟨Nat.le_of_ble_eq_true rfl, Nat.le_of_ble_eq_true rfl⟩ (fun r1 hw => ?_)
  try dsimp only at hw
  refine lv_if_eq (tgt := 29) hx hb dX10_tokenizeValue_4 (by decide) (fun c2 => ?_) (fun c2 => ?_)
  · have hw := hw.1 c2
    try dsimp only at hw
    refine lv_iconst (v := (-1)) hx hb dX10_tokenizeValue_29 (by decide) ?_
    exact hret (-1) M _ _ 0 0 (Nat.le_refl _) (Nat.le_refl _) hw rfl dX10_tokenizeValue_30 _ _ _ hW hl
  · have hw := hw.2 c2
    try dsimp only at hw
    refine lv_iload_n hx hb dX10_tokenizeValue_7 rfl (lv_at hl 2 rfl) ?_
    refine g_calls (As := [.int a2]) (rest := []) ⟨hx, hb, hml, ho, hts⟩ hl.1 (k_isLayer (l := l) _ a2 hw) (va_cwS 1 hts gX10_tokenizeValue_X10_isLayer rfl rfl rfl (by decide +kernel) ⟨Nat.le_of_ble_eq_true rfl, Nat.le_of_ble_eq_true rfl⟩) (Nat.le_of_ble_eq_true rfl) dX10_tokenizeValue_8 rfl ⟨Nat.le_of_ble_eq_true rfl, Nat.le_of_ble_eq_true rfl⟩ (fun r3 hw => ?_)
    try dsimp only at hw
    refine lv_if_eq (tgt := 29) hx hb dX10_tokenizeValue_11 (by decide) (fun c4 => ?_) (fun c4 => ?_)
    · have hw := hw.1 c4
      try dsimp only at hw
      refine lv_iconst (v := (-1)) hx hb dX10_tokenizeValue_29 (by decide) ?_
      exact hret (-1) M _ _ 0 0 (Nat.le_refl _) (Nat.le_refl _) hw rfl dX10_tokenizeValue_30 _ _ _ hW hl
    · have hw := hw.2 c4
      try dsimp only at hw
      refine lv_iload_n hx hb dX10_tokenizeValue_14 rfl (lv_at hl 3 rfl) ?_
      refine g_calls (As := [.int a3]) (rest := []) ⟨hx, hb, hml, ho, hts⟩ hl.1 (k_isSlot (l := l) _ a3 hw) (va_cwS 1 hts gX10_tokenizeValue_X10_isSlot rfl rfl rfl (by decide +kernel) ⟨Nat.le_of_ble_eq_true rfl, Nat.le_of_ble_eq_true rfl⟩) (Nat.le_of_ble_eq_true rfl) dX10_tokenizeValue_15 rfl ⟨Nat.le_of_ble_eq_true rfl, Nat.le_of_ble_eq_true rfl⟩ (fun r5 hw => ?_)
      try dsimp only at hw
      refine lv_if_eq (tgt := 29) hx hb dX10_tokenizeValue_18 (by decide) (fun c6 => ?_) (fun c6 => ?_)
      · have hw := hw.1 c6
        try dsimp only at hw
        refine lv_iconst (v := (-1)) hx hb dX10_tokenizeValue_29 (by decide) ?_
        exact hret (-1) M _ _ 0 0 (Nat.le_refl _) (Nat.le_refl _) hw rfl dX10_tokenizeValue_30 _ _ _ hW hl
      · have hw := hw.2 c6
        try dsimp only at hw
        refine lv_iload hx hb dX10_tokenizeValue_21 (lv_at hl 4 rfl) ?_
        refine g_calls (As := [.int a4]) (rest := []) ⟨hx, hb, hml, ho, hts⟩ hl.1 (k_isSlot (l := l) _ a4 hw) (va_cwS 1 hts gX10_tokenizeValue_X10_isSlot rfl rfl rfl (by decide +kernel) ⟨Nat.le_of_ble_eq_true rfl, Nat.le_of_ble_eq_true rfl⟩) (Nat.le_of_ble_eq_true rfl) dX10_tokenizeValue_23 rfl ⟨Nat.le_of_ble_eq_true rfl, Nat.le_of_ble_eq_true rfl⟩ (fun r7 hw => ?_)
        try dsimp only at hw
        refine lv_if_ne (tgt := 31) hx hb dX10_tokenizeValue_26 (by decide) (fun c8 => ?_) (fun c8 => ?_)
        · have hw := hw.1 c8
          try dsimp only at hw
          refine lv_aload_n hx hb dX10_tokenizeValue_31 rfl (lv_at hl 0 rfl) ?_
          refine lv_iload hx hb dX10_tokenizeValue_32 (lv_at hl 4 rfl) ?_
          refine g_calli (cw0 := fun M => rcells cI cZ ad M Y) (M := M) (As := [.int a4]) (rest := []) C0 hW hl.1 (k_hasNothing (l := l) _ a4 _ hw) (cwV 1 hts gX10_tokenizeValue_X10_hasNothing rfl rfl rfl (by decide +kernel) ⟨Nat.le_of_ble_eq_true rfl, Nat.le_of_ble_eq_true rfl⟩) (r_recv C0 hW) (Nat.le_of_ble_eq_true rfl) dX10_tokenizeValue_34 rfl ⟨Nat.le_of_ble_eq_true rfl, Nat.le_of_ble_eq_true rfl⟩ (fun r10 M9 H locs hw hW => ?_)
          try dsimp only at hw
          refine lv_if_eq (tgt := 43) hx hb dX10_tokenizeValue_37 (by decide) (fun c11 => ?_) (fun c11 => ?_)
          · have hw := hw.1 c11
            try dsimp only at hw
            refine lv_aload_n hx hb dX10_tokenizeValue_43 rfl (lv_at hl 0 rfl) ?_
            refine lv_iload_n hx hb dX10_tokenizeValue_44 rfl (lv_at hl 3 rfl) ?_
            refine g_calli (cw0 := fun M => rcells cI cZ ad M Y) (M := M9) (As := [.int a3]) (rest := []) C0 hW hl.1 (k_hasNothing (l := l) _ a3 _ hw) (cwV 1 hts gX10_tokenizeValue_X10_hasNothing rfl rfl rfl (by decide +kernel) ⟨Nat.le_of_ble_eq_true rfl, Nat.le_of_ble_eq_true rfl⟩) (r_recv C0 hW) (Nat.le_of_ble_eq_true rfl) dX10_tokenizeValue_45 rfl ⟨Nat.le_of_ble_eq_true rfl, Nat.le_of_ble_eq_true rfl⟩ (fun r13 M12 H locs hw hW => ?_)
            try dsimp only at hw
            refine lv_if_eq (tgt := 56) hx hb dX10_tokenizeValue_48 (by decide) (fun c14 => ?_) (fun c14 => ?_)
            · have hw := hw.1 c14
              try dsimp only at hw
              refine lv_aload_n hx hb dX10_tokenizeValue_56 rfl (lv_at hl 0 rfl) ?_
              refine lv_iload_n hx hb dX10_tokenizeValue_57 rfl (lv_at hl 2 rfl) ?_
              refine lv_iload_n hx hb dX10_tokenizeValue_58 rfl (lv_at hl 3 rfl) ?_
              refine g_calls (As := [.int a3]) (rest := [.int a2, .ref (ad 0)]) ⟨hx, hb, hml, ho, hts⟩ hl.1 (k_at (l := l) _ a3 hw) (va_cwS 1 hts gX10_tokenizeValue_X10_at rfl rfl rfl (by decide +kernel) ⟨Nat.le_of_ble_eq_true rfl, Nat.le_of_ble_eq_true rfl⟩) (Nat.le_of_ble_eq_true rfl) dX10_tokenizeValue_59 rfl ⟨Nat.le_of_ble_eq_true rfl, Nat.le_of_ble_eq_true rfl⟩ (fun r15 hw => ?_)
              try dsimp only at hw
              refine g_calli (cw0 := fun M => rcells cI cZ ad M Y) (M := M12) (As := [.int a2, .int r15]) (rest := []) C0 hW hl.1 (k_layerWith (l := l) _ a2 r15 _ hw) (cwV 2 hts gX10_tokenizeValue_X10_layerWith rfl rfl rfl (by decide +kernel) ⟨Nat.le_of_ble_eq_true rfl, Nat.le_of_ble_eq_true rfl⟩) (r_recv C0 hW) (Nat.le_of_ble_eq_true rfl) dX10_tokenizeValue_62 rfl ⟨Nat.le_of_ble_eq_true rfl, Nat.le_of_ble_eq_true rfl⟩ (fun r17 M16 H locs hw hW => ?_)
              try dsimp only at hw
              refine lv_istore (lv' := [(5, .int r17), (0, .ref (ad 0)), (1, .int a1), (2, .int a2), (3, .int a3), (4, .int a4)]) hx hb dX10_tokenizeValue_65 hl (by decide) rfl (fun ls hl => ?_)
              refine lv_iload hx hb dX10_tokenizeValue_67 (lv_at hl 0 rfl) ?_
              refine lv_bipush (v := (-5)) hx hb dX10_tokenizeValue_69 (by decide) ?_
              refine lv_icmp_ne (tgt := 77) hx hb dX10_tokenizeValue_71 (by decide) (fun c18 => ?_) (fun c18 => ?_)
              · have hw := hw.1 c18
                try dsimp only at hw
                refine lv_aload_n hx hb dX10_tokenizeValue_77 rfl (lv_at hl 1 rfl) ?_
                refine lv_iload_n hx hb dX10_tokenizeValue_78 rfl (lv_at hl 2 rfl) ?_
                refine lv_iload hx hb dX10_tokenizeValue_79 (lv_at hl 5 rfl) ?_
                refine g_calls (As := [.int a4]) (rest := [.int a1, .ref (ad 0)]) ⟨hx, hb, hml, ho, hts⟩ hl.1 (k_at (l := l) _ a4 hw) (va_cwS 1 hts gX10_tokenizeValue_X10_at rfl rfl rfl (by decide +kernel) ⟨Nat.le_of_ble_eq_true rfl, Nat.le_of_ble_eq_true rfl⟩) (Nat.le_of_ble_eq_true rfl) dX10_tokenizeValue_81 rfl ⟨Nat.le_of_ble_eq_true rfl, Nat.le_of_ble_eq_true rfl⟩ (fun r19 hw => ?_)
                try dsimp only at hw
                refine g_callv (cw0 := fun M => rcells cI cZ ad M Y) (M := M16) (As := [.int a1, .int r19]) (rest := []) C0 hW hl.1 (k_layDelimiters (l := l) _ a1 r19 _ hw) (cwV 2 hts gX10_tokenizeValue_X10_layDelimiters rfl rfl rfl (by decide +kernel) ⟨Nat.le_of_ble_eq_true rfl, Nat.le_of_ble_eq_true rfl⟩) (r_recv C0 hW) (Nat.le_of_ble_eq_true rfl) dX10_tokenizeValue_84 rfl ⟨Nat.le_of_ble_eq_true rfl, Nat.le_of_ble_eq_true rfl⟩ (fun M20 H locs hw hW => ?_)
                try dsimp only at hw
                refine lv_aload_n hx hb dX10_tokenizeValue_87 rfl (lv_at hl 1 rfl) ?_
                refine lv_iload_n hx hb dX10_tokenizeValue_88 rfl (lv_at hl 2 rfl) ?_
                refine lv_iload hx hb dX10_tokenizeValue_89 (lv_at hl 0 rfl) ?_
                refine lv_aload_n hx hb dX10_tokenizeValue_91 rfl (lv_at hl 1 rfl) ?_
                refine lv_iload hx hb dX10_tokenizeValue_92 (lv_at hl 0 rfl) ?_
                refine lv_iload_n hx hb dX10_tokenizeValue_94 rfl (lv_at hl 4 rfl) ?_
                refine g_calls (As := [.int a3]) (rest := [.int r17, .ref (ad 0), .int r17, .int a1, .ref (ad 0)]) ⟨hx, hb, hml, ho, hts⟩ hl.1 (k_at (l := l) _ a3 hw) (va_cwS 1 hts gX10_tokenizeValue_X10_at rfl rfl rfl (by decide +kernel) ⟨Nat.le_of_ble_eq_true rfl, Nat.le_of_ble_eq_true rfl⟩) (Nat.le_of_ble_eq_true rfl) dX10_tokenizeValue_95 rfl ⟨Nat.le_of_ble_eq_true rfl, Nat.le_of_ble_eq_true rfl⟩ (fun r21 hw => ?_)
                try dsimp only at hw
                refine g_calli (cw0 := fun M => rcells cI cZ ad M Y) (M := M20) (As := [.int r17, .int r21]) (rest := [.int r17, .int a1, .ref (ad 0)]) C0 hW hl.1 (k_find (l := l) _ r17 r21 _ hw) (cwV 2 hts gX10_tokenizeValue_X10_find rfl rfl rfl (by decide +kernel) ⟨Nat.le_of_ble_eq_true rfl, Nat.le_of_ble_eq_true rfl⟩) (r_recv C0 hW) (Nat.le_of_ble_eq_true rfl) dX10_tokenizeValue_98 rfl ⟨Nat.le_of_ble_eq_true rfl, Nat.le_of_ble_eq_true rfl⟩ (fun r23 M22 H locs hw hW => ?_)
                try dsimp only at hw
                refine g_calls (As := [.int r17, .int r23]) (rest := [.int a1, .ref (ad 0)]) ⟨hx, hb, hml, ho, hts⟩ hl.1 (k_valueOf (l := l) _ r17 r23 hw) (va_cwS 2 hts gX10_tokenizeValue_X10_valueOf rfl rfl rfl (by decide +kernel) ⟨Nat.le_of_ble_eq_true rfl, Nat.le_of_ble_eq_true rfl⟩) (Nat.le_of_ble_eq_true rfl) dX10_tokenizeValue_101 rfl ⟨Nat.le_of_ble_eq_true rfl, Nat.le_of_ble_eq_true rfl⟩ (fun r24 hw => ?_)
                try dsimp only at hw
                refine lv_iconst (v := 0) hx hb dX10_tokenizeValue_104 (by decide) ?_
                refine g_calli (cw0 := fun M => rcells cI cZ ad M Y) (M := M22) (As := [.int a1, .int r24, .int 0]) (rest := []) C0 hW hl.1 (k_make (l := l) _ a1 r24 0 _ hw) (cwV 3 hts gX10_tokenizeValue_X10_make rfl rfl rfl (by decide +kernel) ⟨Nat.le_of_ble_eq_true rfl, Nat.le_of_ble_eq_true rfl⟩) (r_recv C0 hW) (Nat.le_of_ble_eq_true rfl) dX10_tokenizeValue_105 rfl ⟨Nat.le_of_ble_eq_true rfl, Nat.le_of_ble_eq_true rfl⟩ (fun r26 M25 H locs hw hW => ?_)
                try dsimp only at hw
                exact hret r26 M25 _ _ 0 0 (Nat.le_refl _) (Nat.le_refl _) hw rfl dX10_tokenizeValue_108 _ _ _ hW hl
              · have hw := hw.2 c18
                try dsimp only at hw
                refine lv_bipush (v := (-5)) hx hb dX10_tokenizeValue_74 (by decide) ?_
                exact hret (-5) M16 _ _ 0 0 (Nat.le_refl _) (Nat.le_refl _) hw rfl dX10_tokenizeValue_76 _ _ _ hW hl
            · have hw := hw.2 c14
              try dsimp only at hw
              refine lv_aload_n hx hb dX10_tokenizeValue_51 rfl (lv_at hl 0 rfl) ?_
              refine g_calli (cw0 := fun M => rcells cI cZ ad M Y) (M := M12) (As := []) (rest := []) C0 hW hl.1 (k_refusedNull (l := l) _  _ hw) (cwV 0 hts gX10_tokenizeValue_X10_refusedNull rfl rfl rfl (by decide +kernel) ⟨Nat.le_of_ble_eq_true rfl, Nat.le_of_ble_eq_true rfl⟩) (r_recv C0 hW) (Nat.le_of_ble_eq_true rfl) dX10_tokenizeValue_52 rfl ⟨Nat.le_of_ble_eq_true rfl, Nat.le_of_ble_eq_true rfl⟩ (fun r28 M27 H locs hw hW => ?_)
              try dsimp only at hw
              exact hret r28 M27 _ _ 0 0 (Nat.le_refl _) (Nat.le_refl _) hw rfl dX10_tokenizeValue_55 _ _ _ hW hl
          · have hw := hw.2 c11
            try dsimp only at hw
            refine lv_bipush (v := (-2)) hx hb dX10_tokenizeValue_40 (by decide) ?_
            exact hret (-2) M9 _ _ 0 0 (Nat.le_refl _) (Nat.le_refl _) hw rfl dX10_tokenizeValue_42 _ _ _ hW hl
        · have hw := hw.2 c8
          try dsimp only at hw
          refine lv_iconst (v := (-1)) hx hb dX10_tokenizeValue_29 (by decide) ?_
          exact hret (-1) M _ _ 0 0 (Nat.le_refl _) (Nat.le_refl _) hw rfl dX10_tokenizeValue_30 _ _ _ hW hl
set_option maxHeartbeats 4000000 in
set_option maxRecDepth 100000 in
theorem k_tokenizeValue {l : Launch} {D : va_G} {cI cZ : ClassId} {ty' : List (ClassId × FieldType)} {ad : Nat → Nat} {Y : va_W} {sz : Nat} (post : Int32 → RM → Prop) (a1 a2 a3 a4 : Int32) (M : RM) (hw : w_tokenizeValue post a1 a2 a3 a4 M) : gMi l yX10_tokenizeValue wsX10_tokenizeValue rm_tokenizeValue D ((cI, .int) :: (cZ, .boolean) :: ty') sz (fun M => rcells cI cZ ad M Y) M [.ref (ad 0), .int a1, .int a2, .int a3, .int a4] post 0 0 := by
  refine gMi_of (cc := cX10_tokenizeValue) (nL := 6) (ty := .int) (own := RX10) (by decide) rfl rfl (Nat.le_of_ble_eq_true rfl) ?_
  intro p e s m args below meth c A Q C0 hret
  exact t_tokenizeValue_0 C0 post hret a1 a2 a3 a4 M hw
abbrev rm_more : Room := { frames := 3, cells := 0, slots := 0, locals := 65 }
theorem in_more : ∀ w ∈ wsX100, w ∈ wsX10_more := fun w hw => List.mem_cons_of_mem _ (List.mem_append_right _ hw)
set_option maxHeartbeats 4000000 in
set_option maxRecDepth 100000 in
theorem t_more_0 (C0 : rX p s m args c cX10_more 2 RX10 wsX10_more D ((cI, .int) :: (cZ, .boolean) :: ty') A) (post : Int32 → RM → Prop) (hret : ∀ (r : Int32) (M' : RM) (pc : Nat) (lv : List (Nat × Value)) (k n : Nat), k ≤ 0 → n ≤ 0 → post r M' → narrow .int (.int r) = .int r → decode cX10_more pc = .ok (.ireturn, 1) → gG p l e rm_more s m args below meth c Q D A 2 k n (rcells cI cZ ad M' Y) pc lv [.int r])  : ∀  (a1 : Int32) (M : RM), w_more post   a1 M → gG p l e rm_more s m args below meth c Q D A 2 0 0 (rcells cI cZ ad M Y) 0 [(0, .ref (ad 0)), (1, .int a1)] [] := by
  obtain ⟨hx, hb, hml, ho, hts, hK, hA⟩ := id C0
  have hin := in_more
  intro a1 M hw H locs ls hW hl
  rw [w_more] at hw
  refine lv_iload_n hx hb dX10_more_0 rfl (lv_at hl 1 rfl) ?_
  refine g_calls (As := [.int a1]) (rest := []) ⟨hx, hb, hml, ho, hts⟩ hl.1 (k_isTokenizer (l := l) _ a1 hw) (va_cwS 1 hts gX10_more_X10_isTokenizer rfl rfl rfl (by decide +kernel) ⟨Nat.le_of_ble_eq_true rfl, Nat.le_of_ble_eq_true rfl⟩) (Nat.le_of_ble_eq_true rfl) dX10_more_1 rfl ⟨Nat.le_of_ble_eq_true rfl, Nat.le_of_ble_eq_true rfl⟩ (fun r1 hw => ?_)
  try dsimp only at hw
  refine lv_if_ne (tgt := 9) hx hb dX10_more_4 (by decide) (fun c2 => ?_) (fun c2 => ?_)
  · have hw := hw.1 c2
    try dsimp only at hw
    refine lv_aload_n hx hb dX10_more_9 rfl (lv_at hl 0 rfl) ?_
    refine r_get C0 hin hW 7 (by decide) (v := .ref (ad 6)) rfl (List.mem_of_getElem? (i := 1) rfl) rfl dX10_more_10 ?_
    refine lv_iload_n hx hb dX10_more_13 rfl (lv_at hl 1 rfl) ?_
    obtain ⟨h3, hw⟩ := hw
    refine r_zald C0 hW 6 rfl rfl h3 dX10_more_14 ?_
    refine lv_if_ne (tgt := 23) hx hb dX10_more_15 (by decide) (fun c4 => ?_) (fun c4 => ?_)
    · have hw := hw.1 c4
      try dsimp only at hw
      refine lv_aload_n hx hb dX10_more_23 rfl (lv_at hl 0 rfl) ?_
      refine lv_iload_n hx hb dX10_more_24 rfl (lv_at hl 1 rfl) ?_
      refine lv_aload_n hx hb dX10_more_25 rfl (lv_at hl 0 rfl) ?_
      refine r_get C0 hin hW 9 (by decide) (v := .ref (ad 8)) rfl (List.mem_of_getElem? (i := 2) rfl) rfl dX10_more_26 ?_
      refine lv_iload_n hx hb dX10_more_29 rfl (lv_at hl 1 rfl) ?_
      obtain ⟨h5, hw⟩ := hw
      refine r_iald C0 hW 8 rfl rfl h5 dX10_more_30 ?_
      refine g_calli (cw0 := fun M => rcells cI cZ ad M Y) (M := M) (As := [.int a1, .int (M 8 a1.toNatClampNeg)]) (rest := []) C0 hW hl.1 (k_beginOf (l := l) _ a1 (M 8 a1.toNatClampNeg) _ hw) (cwV 2 hts gX10_more_X10_beginOf rfl rfl rfl (by decide +kernel) ⟨Nat.le_of_ble_eq_true rfl, Nat.le_of_ble_eq_true rfl⟩) (r_recv C0 hW) (Nat.le_of_ble_eq_true rfl) dX10_more_31 rfl ⟨Nat.le_of_ble_eq_true rfl, Nat.le_of_ble_eq_true rfl⟩ (fun r7 M6 H locs hw hW => ?_)
      try dsimp only at hw
      refine lv_aload_n hx hb dX10_more_34 rfl (lv_at hl 0 rfl) ?_
      refine r_get C0 hin hW 0 (by decide) (v := .ref (ad 1)) rfl (List.mem_of_getElem? (i := 3) rfl) rfl dX10_more_35 ?_
      refine lv_iload_n hx hb dX10_more_38 rfl (lv_at hl 1 rfl) ?_
      refine g_calls (As := [.int a1]) (rest := [.ref (ad 1), .int r7]) ⟨hx, hb, hml, ho, hts⟩ hl.1 (k_tokenText (l := l) _ a1 hw) (va_cwS 1 hts gX10_more_X10_tokenText rfl rfl rfl (by decide +kernel) ⟨Nat.le_of_ble_eq_true rfl, Nat.le_of_ble_eq_true rfl⟩) (Nat.le_of_ble_eq_true rfl) dX10_more_39 rfl ⟨Nat.le_of_ble_eq_true rfl, Nat.le_of_ble_eq_true rfl⟩ (fun r8 hw => ?_)
      try dsimp only at hw
      obtain ⟨h9, hw⟩ := hw
      refine r_iald C0 hW 1 rfl rfl h9 dX10_more_42 ?_
      refine lv_icmp_ge (tgt := 50) hx hb dX10_more_43 (by decide) (fun c10 => ?_) (fun c10 => ?_)
      · have hw := hw.1 c10
        try dsimp only at hw
        refine lv_iconst (v := 0) hx hb dX10_more_50 (by decide) ?_
        exact hret 0 M6 _ _ 0 0 (Nat.le_refl _) (Nat.le_refl _) hw rfl dX10_more_51 _ _ _ hW hl
      · have hw := hw.2 c10
        try dsimp only at hw
        refine lv_iconst (v := 1) hx hb dX10_more_46 (by decide) ?_
        refine lv_goto (tgt := 51) hx hb dX10_more_47 (by decide) ?_
        exact hret 1 M6 _ _ 0 0 (Nat.le_refl _) (Nat.le_refl _) hw rfl dX10_more_51 _ _ _ hW hl
    · have hw := hw.2 c4
      try dsimp only at hw
      refine lv_bipush (v := (-4)) hx hb dX10_more_18 (by decide) ?_
      refine lv_goto (tgt := 51) hx hb dX10_more_20 (by decide) ?_
      exact hret (-4) M _ _ 0 0 (Nat.le_refl _) (Nat.le_refl _) hw rfl dX10_more_51 _ _ _ hW hl
  · have hw := hw.2 c2
    try dsimp only at hw
    refine lv_iconst (v := (-1)) hx hb dX10_more_7 (by decide) ?_
    exact hret (-1) M _ _ 0 0 (Nat.le_refl _) (Nat.le_refl _) hw rfl dX10_more_8 _ _ _ hW hl
set_option maxHeartbeats 4000000 in
set_option maxRecDepth 100000 in
theorem k_more {l : Launch} {D : va_G} {cI cZ : ClassId} {ty' : List (ClassId × FieldType)} {ad : Nat → Nat} {Y : va_W} {sz : Nat} (post : Int32 → RM → Prop) (a1 : Int32) (M : RM) (hw : w_more post a1 M) : gMi l yX10_more wsX10_more rm_more D ((cI, .int) :: (cZ, .boolean) :: ty') sz (fun M => rcells cI cZ ad M Y) M [.ref (ad 0), .int a1] post 0 0 := by
  refine gMi_of (cc := cX10_more) (nL := 2) (ty := .int) (own := RX10) (by decide) rfl rfl (Nat.le_of_ble_eq_true rfl) ?_
  intro p e s m args below meth c A Q C0 hret
  exact t_more_0 C0 post hret a1 M hw
abbrev rm_count : Room := { frames := 4, cells := 0, slots := 0, locals := 88 }
theorem in_count : ∀ w ∈ wsX100, w ∈ wsX10_count := fun w hw => List.mem_cons_of_mem _ (List.mem_append_right _ hw)
set_option maxHeartbeats 4000000 in
set_option maxRecDepth 100000 in
theorem t_count_0 (C0 : rX p s m args c cX10_count 2 RX10 wsX10_count D ((cI, .int) :: (cZ, .boolean) :: ty') A) (post : Int32 → RM → Prop) (hret : ∀ (r : Int32) (M' : RM) (pc : Nat) (lv : List (Nat × Value)) (k n : Nat), k ≤ 0 → n ≤ 0 → post r M' → narrow .int (.int r) = .int r → decode cX10_count pc = .ok (.ireturn, 1) → gG p l e rm_count s m args below meth c Q D A 2 k n (rcells cI cZ ad M' Y) pc lv [.int r])  : ∀  (a1 : Int32) (M : RM), w_count post   a1 M → gG p l e rm_count s m args below meth c Q D A 2 0 0 (rcells cI cZ ad M Y) 0 [(0, .ref (ad 0)), (1, .int a1)] [] := by
  obtain ⟨hx, hb, hml, ho, hts, hK, hA⟩ := id C0
  have hin := in_count
  intro a1 M hw H locs ls hW hl
  rw [w_count] at hw
  refine lv_iload_n hx hb dX10_count_0 rfl (lv_at hl 1 rfl) ?_
  refine g_calls (As := [.int a1]) (rest := []) ⟨hx, hb, hml, ho, hts⟩ hl.1 (k_isTokenizer (l := l) _ a1 hw) (va_cwS 1 hts gX10_count_X10_isTokenizer rfl rfl rfl (by decide +kernel) ⟨Nat.le_of_ble_eq_true rfl, Nat.le_of_ble_eq_true rfl⟩) (Nat.le_of_ble_eq_true rfl) dX10_count_1 rfl ⟨Nat.le_of_ble_eq_true rfl, Nat.le_of_ble_eq_true rfl⟩ (fun r1 hw => ?_)
  try dsimp only at hw
  refine lv_if_ne (tgt := 11) hx hb dX10_count_4 (by decide) (fun c2 => ?_) (fun c2 => ?_)
  · have hw := hw.1 c2
    try dsimp only at hw
    refine lv_aload_n hx hb dX10_count_11 rfl (lv_at hl 0 rfl) ?_
    refine r_get C0 hin hW 7 (by decide) (v := .ref (ad 6)) rfl (List.mem_of_getElem? (i := 1) rfl) rfl dX10_count_12 ?_
    refine lv_iload_n hx hb dX10_count_15 rfl (lv_at hl 1 rfl) ?_
    obtain ⟨h3, hw⟩ := hw
    refine r_zald C0 hW 6 rfl rfl h3 dX10_count_16 ?_
    refine lv_if_ne (tgt := 25) hx hb dX10_count_17 (by decide) (fun c4 => ?_) (fun c4 => ?_)
    · have hw := hw.1 c4
      try dsimp only at hw
      refine lv_aload_n hx hb dX10_count_25 rfl (lv_at hl 0 rfl) ?_
      refine lv_iload_n hx hb dX10_count_26 rfl (lv_at hl 1 rfl) ?_
      refine g_calli (cw0 := fun M => rcells cI cZ ad M Y) (M := M) (As := [.int a1]) (rest := []) C0 hW hl.1 (k_counted (l := l) _ a1 _ hw) (cwV 1 hts gX10_count_X10_counted rfl rfl rfl (by decide +kernel) ⟨Nat.le_of_ble_eq_true rfl, Nat.le_of_ble_eq_true rfl⟩) (r_recv C0 hW) (Nat.le_of_ble_eq_true rfl) dX10_count_27 rfl ⟨Nat.le_of_ble_eq_true rfl, Nat.le_of_ble_eq_true rfl⟩ (fun r6 M5 H locs hw hW => ?_)
      try dsimp only at hw
      exact hret r6 M5 _ _ 0 0 (Nat.le_refl _) (Nat.le_refl _) hw rfl dX10_count_30 _ _ _ hW hl
    · have hw := hw.2 c4
      try dsimp only at hw
      refine lv_bipush (v := (-4)) hx hb dX10_count_20 (by decide) ?_
      refine lv_goto (tgt := 30) hx hb dX10_count_22 (by decide) ?_
      exact hret (-4) M _ _ 0 0 (Nat.le_refl _) (Nat.le_refl _) hw rfl dX10_count_30 _ _ _ hW hl
  · have hw := hw.2 c2
    try dsimp only at hw
    refine lv_iconst (v := (-1)) hx hb dX10_count_7 (by decide) ?_
    refine lv_goto (tgt := 30) hx hb dX10_count_8 (by decide) ?_
    exact hret (-1) M _ _ 0 0 (Nat.le_refl _) (Nat.le_refl _) hw rfl dX10_count_30 _ _ _ hW hl
set_option maxHeartbeats 4000000 in
set_option maxRecDepth 100000 in
theorem k_count {l : Launch} {D : va_G} {cI cZ : ClassId} {ty' : List (ClassId × FieldType)} {ad : Nat → Nat} {Y : va_W} {sz : Nat} (post : Int32 → RM → Prop) (a1 : Int32) (M : RM) (hw : w_count post a1 M) : gMi l yX10_count wsX10_count rm_count D ((cI, .int) :: (cZ, .boolean) :: ty') sz (fun M => rcells cI cZ ad M Y) M [.ref (ad 0), .int a1] post 0 0 := by
  refine gMi_of (cc := cX10_count) (nL := 2) (ty := .int) (own := RX10) (by decide) rfl rfl (Nat.le_of_ble_eq_true rfl) ?_
  intro p e s m args below meth c A Q C0 hret
  exact t_count_0 C0 post hret a1 M hw
abbrev rm_takeToken : Room := { frames := 3, cells := 0, slots := 0, locals := 65 }
theorem in_takeToken : ∀ w ∈ wsX100, w ∈ wsX10_takeToken := fun w hw => List.mem_cons_of_mem _ (List.mem_append_right _ hw)
set_option maxHeartbeats 4000000 in
set_option maxRecDepth 100000 in
theorem t_takeToken_66 (C0 : rX p s m args c cX10_takeToken 6 RX10 wsX10_takeToken D ((cI, .int) :: (cZ, .boolean) :: ty') A) (post : Int32 → RM → Prop) (hret : ∀ (r : Int32) (M' : RM) (pc : Nat) (lv : List (Nat × Value)) (k n : Nat), k ≤ 0 → n ≤ 0 → post r M' → narrow .int (.int r) = .int r → decode cX10_takeToken pc = .ok (.ireturn, 1) → gG p l e rm_takeToken s m args below meth c Q D A 6 k n (rcells cI cZ ad M' Y) pc lv [.int r])  : ∀ (nf : Nat) (x1 x2 x3 x4 x5 : Int32) (M : RM), w_takeToken_66 post  nf x1 x2 x3 x4 x5 M → gG p l e rm_takeToken s m args below meth c Q D A 6 0 0 (rcells cI cZ ad M Y) 66 [(0, .ref (ad 0)), (1, .int x1), (2, .int x2), (3, .int x3), (4, .int x4), (5, .int x5)] [] := by
  obtain ⟨hx, hb, hml, ho, hts, hK, hA⟩ := id C0
  have hin := in_takeToken
  intro nf
  induction nf with
  | zero => intro x1 x2 x3 x4 x5 M hw; exact hw.elim
  | succ nf ih =>
    intro x1 x2 x3 x4 x5 M hw H locs ls hW hl
    rw [w_takeToken_66] at hw
    refine lv_iload hx hb dX10_takeToken_66 (lv_at hl 5 rfl) ?_
    refine lv_iload hx hb dX10_takeToken_68 (lv_at hl 4 rfl) ?_
    refine lv_icmp_ge (tgt := 94) hx hb dX10_takeToken_70 (by decide) (fun c16 => ?_) (fun c16 => ?_)
    · have hw := hw.1 c16
      try dsimp only at hw
      refine lv_aload_n hx hb dX10_takeToken_94 rfl (lv_at hl 0 rfl) ?_
      refine r_get C0 hin hW 9 (by decide) (v := .ref (ad 8)) rfl (List.mem_of_getElem? (i := 1) rfl) rfl dX10_takeToken_95 ?_
      refine lv_iload_n hx hb dX10_takeToken_98 rfl (lv_at hl 1 rfl) ?_
      refine lv_iload hx hb dX10_takeToken_99 (lv_at hl 4 rfl) ?_
      obtain ⟨h17, hw⟩ := hw
      refine r_iast C0 hW 8 rfl rfl h17 rfl dX10_takeToken_101 (fun M18 H locs eM18 hW => ?_)
      have hw := hw M18 eM18
      refine lv_iload hx hb dX10_takeToken_102 (lv_at hl 4 rfl) ?_
      refine lv_iload_n hx hb dX10_takeToken_104 rfl (lv_at hl 3 rfl) ?_
      refine lv_isub hx hb dX10_takeToken_105 ?_
      exact hret (x4 - x3) M18 _ _ 0 0 (Nat.le_refl _) (Nat.le_refl _) hw rfl dX10_takeToken_106 _ _ _ hW hl
    · have hw := hw.2 c16
      try dsimp only at hw
      refine lv_aload_n hx hb dX10_takeToken_73 rfl (lv_at hl 0 rfl) ?_
      refine lv_iload_n hx hb dX10_takeToken_74 rfl (lv_at hl 2 rfl) ?_
      refine g_calls (As := [.int x2]) (rest := [.ref (ad 0)]) ⟨hx, hb, hml, ho, hts⟩ hl.1 (k_at (l := l) _ x2 hw) (va_cwS 1 hts gX10_takeToken_X10_at rfl rfl rfl (by decide +kernel) ⟨Nat.le_of_ble_eq_true rfl, Nat.le_of_ble_eq_true rfl⟩) (Nat.le_of_ble_eq_true rfl) dX10_takeToken_75 rfl ⟨Nat.le_of_ble_eq_true rfl, Nat.le_of_ble_eq_true rfl⟩ (fun r19 hw => ?_)
      try dsimp only at hw
      refine lv_aload_n hx hb dX10_takeToken_78 rfl (lv_at hl 0 rfl) ?_
      refine lv_iload_n hx hb dX10_takeToken_79 rfl (lv_at hl 1 rfl) ?_
      refine lv_iload hx hb dX10_takeToken_80 (lv_at hl 5 rfl) ?_
      refine g_calli (cw0 := fun M => rcells cI cZ ad M Y) (M := M) (As := [.int x1, .int x5]) (rest := [.int r19, .ref (ad 0)]) C0 hW hl.1 (k_signOf (l := l) _ x1 x5 _ hw) (cwV 2 hts gX10_takeToken_X10_signOf rfl rfl rfl (by decide +kernel) ⟨Nat.le_of_ble_eq_true rfl, Nat.le_of_ble_eq_true rfl⟩) (r_recv C0 hW) (Nat.le_of_ble_eq_true rfl) dX10_takeToken_82 rfl ⟨Nat.le_of_ble_eq_true rfl, Nat.le_of_ble_eq_true rfl⟩ (fun r21 M20 H locs hw hW => ?_)
      try dsimp only at hw
      refine g_callv (cw0 := fun M => rcells cI cZ ad M Y) (M := M20) (As := [.int r19, .int r21]) (rest := []) C0 hW hl.1 (k_addSign (l := l) _ r19 r21 _ hw) (cwV 2 hts gX10_takeToken_X10_addSign rfl rfl rfl (by decide +kernel) ⟨Nat.le_of_ble_eq_true rfl, Nat.le_of_ble_eq_true rfl⟩) (r_recv C0 hW) (Nat.le_of_ble_eq_true rfl) dX10_takeToken_85 rfl ⟨Nat.le_of_ble_eq_true rfl, Nat.le_of_ble_eq_true rfl⟩ (fun M22 H locs hw hW => ?_)
      try dsimp only at hw
      obtain ⟨v23, ev23⟩ : ∃ y : Int32, y = x5 + 1 := ⟨_, rfl⟩
      have hw := hw v23 ev23
      refine lv_iinc (v := v23) (lv' := [(5, .int v23), (0, .ref (ad 0)), (1, .int x1), (2, .int x2), (3, .int x3), (4, .int x4)]) hx hb dX10_takeToken_88 hl (k := 5) rfl (by rw [ev23]; rfl) (by decide) rfl (fun ls hl => ?_)
      refine lv_goto (tgt := 66) hx hb dX10_takeToken_91 (by decide) ?_
      exact ih x1 x2 x3 x4 v23 M22 hw _ _ _ hW (lv_sub hl [1, 2, 3, 4, 5, 0] rfl)
set_option maxHeartbeats 4000000 in
set_option maxRecDepth 100000 in
theorem t_takeToken_0 (C0 : rX p s m args c cX10_takeToken 6 RX10 wsX10_takeToken D ((cI, .int) :: (cZ, .boolean) :: ty') A) (post : Int32 → RM → Prop) (hret : ∀ (r : Int32) (M' : RM) (pc : Nat) (lv : List (Nat × Value)) (k n : Nat), k ≤ 0 → n ≤ 0 → post r M' → narrow .int (.int r) = .int r → decode cX10_takeToken pc = .ok (.ireturn, 1) → gG p l e rm_takeToken s m args below meth c Q D A 6 k n (rcells cI cZ ad M' Y) pc lv [.int r])  : ∀  (a1 a2 : Int32) (M : RM), w_takeToken post   a1 a2 M → gG p l e rm_takeToken s m args below meth c Q D A 6 0 0 (rcells cI cZ ad M Y) 0 [(0, .ref (ad 0)), (1, .int a1), (2, .int a2)] [] := by
  obtain ⟨hx, hb, hml, ho, hts, hK, hA⟩ := id C0
  have hin := in_takeToken
  intro a1 a2 M hw H locs ls hW hl
  rw [w_takeToken] at hw
  refine lv_aload_n hx hb dX10_takeToken_0 rfl (lv_at hl 0 rfl) ?_
  refine lv_iload_n hx hb dX10_takeToken_1 rfl (lv_at hl 1 rfl) ?_
  refine lv_aload_n hx hb dX10_takeToken_2 rfl (lv_at hl 0 rfl) ?_
  refine r_get C0 hin hW 9 (by decide) (v := .ref (ad 8)) rfl (List.mem_of_getElem? (i := 1) rfl) rfl dX10_takeToken_3 ?_
  refine lv_iload_n hx hb dX10_takeToken_6 rfl (lv_at hl 1 rfl) ?_
  obtain ⟨h1, hw⟩ := hw
  refine r_iald C0 hW 8 rfl rfl h1 dX10_takeToken_7 ?_
  refine g_calli (cw0 := fun M => rcells cI cZ ad M Y) (M := M) (As := [.int a1, .int (M 8 a1.toNatClampNeg)]) (rest := []) C0 hW hl.1 (k_beginOf (l := l) _ a1 (M 8 a1.toNatClampNeg) _ hw) (cwV 2 hts gX10_takeToken_X10_beginOf rfl rfl rfl (by decide +kernel) ⟨Nat.le_of_ble_eq_true rfl, Nat.le_of_ble_eq_true rfl⟩) (r_recv C0 hW) (Nat.le_of_ble_eq_true rfl) dX10_takeToken_8 rfl ⟨Nat.le_of_ble_eq_true rfl, Nat.le_of_ble_eq_true rfl⟩ (fun r3 M2 H locs hw hW => ?_)
  try dsimp only at hw
  refine lv_istore_n (lv' := [(3, .int r3), (0, .ref (ad 0)), (1, .int a1), (2, .int a2)]) hx hb dX10_takeToken_11 rfl hl (by decide) rfl (fun ls hl => ?_)
  refine lv_iload_n hx hb dX10_takeToken_12 rfl (lv_at hl 0 rfl) ?_
  refine lv_aload_n hx hb dX10_takeToken_13 rfl (lv_at hl 1 rfl) ?_
  refine r_get C0 hin hW 0 (by decide) (v := .ref (ad 1)) rfl (List.mem_of_getElem? (i := 2) rfl) rfl dX10_takeToken_14 ?_
  refine lv_iload_n hx hb dX10_takeToken_17 rfl (lv_at hl 2 rfl) ?_
  refine g_calls (As := [.int a1]) (rest := [.ref (ad 1), .int r3]) ⟨hx, hb, hml, ho, hts⟩ hl.1 (k_tokenText (l := l) _ a1 hw) (va_cwS 1 hts gX10_takeToken_X10_tokenText rfl rfl rfl (by decide +kernel) ⟨Nat.le_of_ble_eq_true rfl, Nat.le_of_ble_eq_true rfl⟩) (Nat.le_of_ble_eq_true rfl) dX10_takeToken_18 rfl ⟨Nat.le_of_ble_eq_true rfl, Nat.le_of_ble_eq_true rfl⟩ (fun r4 hw => ?_)
  try dsimp only at hw
  obtain ⟨h5, hw⟩ := hw
  refine r_iald C0 hW 1 rfl rfl h5 dX10_takeToken_21 ?_
  refine lv_icmp_lt (tgt := 45) hx hb dX10_takeToken_22 (by decide) (fun c6 => ?_) (fun c6 => ?_)
  · have hw := hw.1 c6
    try dsimp only at hw
    refine lv_aload_n hx hb dX10_takeToken_45 rfl (lv_at hl 1 rfl) ?_
    refine lv_iload_n hx hb dX10_takeToken_46 rfl (lv_at hl 2 rfl) ?_
    refine lv_iload_n hx hb dX10_takeToken_47 rfl (lv_at hl 0 rfl) ?_
    refine g_calli (cw0 := fun M => rcells cI cZ ad M Y) (M := M2) (As := [.int a1, .int r3]) (rest := []) C0 hW hl.1 (k_endOf (l := l) _ a1 r3 _ hw) (cwV 2 hts gX10_takeToken_X10_endOf rfl rfl rfl (by decide +kernel) ⟨Nat.le_of_ble_eq_true rfl, Nat.le_of_ble_eq_true rfl⟩) (r_recv C0 hW) (Nat.le_of_ble_eq_true rfl) dX10_takeToken_48 rfl ⟨Nat.le_of_ble_eq_true rfl, Nat.le_of_ble_eq_true rfl⟩ (fun r8 M7 H locs hw hW => ?_)
    try dsimp only at hw
    refine lv_istore (lv' := [(4, .int r8), (3, .int r3), (0, .ref (ad 0)), (1, .int a1), (2, .int a2)]) hx hb dX10_takeToken_51 hl (by decide) rfl (fun ls hl => ?_)
    refine lv_aload_n hx hb dX10_takeToken_53 rfl (lv_at hl 2 rfl) ?_
    refine r_get C0 hin hW 0 (by decide) (v := .ref (ad 1)) rfl (List.mem_of_getElem? (i := 2) rfl) rfl dX10_takeToken_54 ?_
    refine lv_iload_n hx hb dX10_takeToken_57 rfl (lv_at hl 4 rfl) ?_
    refine g_calls (As := [.int a2]) (rest := [.ref (ad 1)]) ⟨hx, hb, hml, ho, hts⟩ hl.1 (k_at (l := l) _ a2 hw) (va_cwS 1 hts gX10_takeToken_X10_at rfl rfl rfl (by decide +kernel) ⟨Nat.le_of_ble_eq_true rfl, Nat.le_of_ble_eq_true rfl⟩) (Nat.le_of_ble_eq_true rfl) dX10_takeToken_58 rfl ⟨Nat.le_of_ble_eq_true rfl, Nat.le_of_ble_eq_true rfl⟩ (fun r9 hw => ?_)
    try dsimp only at hw
    refine lv_iconst (v := 0) hx hb dX10_takeToken_61 (by decide) ?_
    obtain ⟨h10, hw⟩ := hw
    refine r_iast C0 hW 1 rfl rfl h10 rfl dX10_takeToken_62 (fun M11 H locs eM11 hW => ?_)
    have hw := hw M11 eM11
    refine lv_iload_n hx hb dX10_takeToken_63 rfl (lv_at hl 1 rfl) ?_
    refine lv_istore (lv' := [(5, .int r3), (4, .int r8), (3, .int r3), (0, .ref (ad 0)), (1, .int a1), (2, .int a2)]) hx hb dX10_takeToken_64 hl (by decide) rfl (fun ls hl => ?_)
    obtain ⟨n12, hw⟩ := hw
    exact t_takeToken_66 C0 post hret  n12 a1 a2 r3 r8 r3 M11 hw _ _ _ hW (lv_sub hl [3, 4, 5, 2, 1, 0] rfl)
  · have hw := hw.2 c6
    try dsimp only at hw
    refine lv_aload_n hx hb dX10_takeToken_25 rfl (lv_at hl 1 rfl) ?_
    refine r_get C0 hin hW 7 (by decide) (v := .ref (ad 6)) rfl (List.mem_of_getElem? (i := 3) rfl) rfl dX10_takeToken_26 ?_
    refine lv_iload_n hx hb dX10_takeToken_29 rfl (lv_at hl 2 rfl) ?_
    refine lv_iconst (v := 0) hx hb dX10_takeToken_30 (by decide) ?_
    obtain ⟨h13, hw⟩ := hw
    refine r_zast C0 hW 6 rfl rfl h13 rfl dX10_takeToken_31 (fun M14 H locs eM14 hW => ?_)
    have hw := hw M14 eM14
    refine lv_aload_n hx hb dX10_takeToken_32 rfl (lv_at hl 1 rfl) ?_
    refine lv_dup hx hb dX10_takeToken_33 rfl ?_
    refine r_get C0 hin hW 13 (by decide) (v := .int (M14 0 3)) rfl (List.mem_of_getElem? (i := 4) rfl) rfl dX10_takeToken_34 ?_
    refine lv_iconst (v := 1) hx hb dX10_takeToken_37 (by decide) ?_
    refine lv_iadd hx hb dX10_takeToken_38 ?_
    refine r_put C0 hin hW 13 3 (by decide) (List.mem_of_getElem? (i := 4) rfl) rfl rfl (by decide +kernel) rfl dX10_takeToken_39 (fun M15 H locs eM15 hW => ?_)
    have hw := hw M15 eM15
    refine lv_bipush (v := (-8)) hx hb dX10_takeToken_42 (by decide) ?_
    exact hret (-8) M15 _ _ 0 0 (Nat.le_refl _) (Nat.le_refl _) hw rfl dX10_takeToken_44 _ _ _ hW hl
set_option maxHeartbeats 4000000 in
set_option maxRecDepth 100000 in
theorem k_takeToken {l : Launch} {D : va_G} {cI cZ : ClassId} {ty' : List (ClassId × FieldType)} {ad : Nat → Nat} {Y : va_W} {sz : Nat} (post : Int32 → RM → Prop) (a1 a2 : Int32) (M : RM) (hw : w_takeToken post a1 a2 M) : gMi l yX10_takeToken wsX10_takeToken rm_takeToken D ((cI, .int) :: (cZ, .boolean) :: ty') sz (fun M => rcells cI cZ ad M Y) M [.ref (ad 0), .int a1, .int a2] post 0 0 := by
  refine gMi_of (cc := cX10_takeToken) (nL := 6) (ty := .int) (own := RX10) (by decide) rfl rfl (Nat.le_of_ble_eq_true rfl) ?_
  intro p e s m args below meth c A Q C0 hret
  exact t_takeToken_0 C0 post hret a1 a2 M hw
end REFM
