section REFM
variable {p : Program} {l : Launch} {e : Env} {s : State} {m : MethodId} {args : Array Value} {below : List Frame} {meth : Method} {c : Code} {Q : State → Prop}
variable {D : va_G} {A : Nat → Prop} {cI cZ : ClassId} {ty' : List (ClassId × FieldType)} {ad : Nat → Nat} {Y : va_W}
abbrev rm_keyEnd : Room := { frames := 1, cells := 0, slots := 0, locals := 20 }
theorem in_keyEnd : ∀ w ∈ wsX100, w ∈ wsX10_keyEnd := fun w hw => List.mem_cons_of_mem _ (List.mem_append_right _ hw)
set_option maxHeartbeats 4000000 in
set_option maxRecDepth 100000 in
theorem t_keyEnd_2 (C0 : rX p s m args c cX10_keyEnd 2 RX10 wsX10_keyEnd D ((cI, .int) :: (cZ, .boolean) :: ty') A) (post : Int32 → RM → Prop) (hret : ∀ (r : Int32) (M' : RM) (pc : Nat) (lv : List (Nat × Value)) (k n : Nat), k ≤ 0 → n ≤ 0 → post r M' → narrow .int (.int r) = .int r → decode cX10_keyEnd pc = .ok (.ireturn, 1) → gG p l e rm_keyEnd s m args below meth c Q D A 2 k n (rcells cI cZ ad M' Y) pc lv [.int r])  : ∀ (nf : Nat) (x1 : Int32) (M : RM), w_keyEnd_2 post  nf x1 M → gG p l e rm_keyEnd s m args below meth c Q D A 2 0 0 (rcells cI cZ ad M Y) 2 [(0, .ref (ad 0)), (1, .int x1)] [] := by
  obtain ⟨hx, hb, hml, ho, hts, hK, hA⟩ := id C0
  have hin := in_keyEnd
  intro nf
  induction nf with
  | zero => intro x1 M hw; exact hw.elim
  | succ nf ih =>
    intro x1 M hw H locs ls hW hl
    rw [w_keyEnd_2] at hw
    refine lv_iload_n hx hb dX10_keyEnd_2 rfl (lv_at hl 1 rfl) ?_
    refine lv_aload_n hx hb dX10_keyEnd_3 rfl (lv_at hl 0 rfl) ?_
    refine r_get C0 hin hW 19 (by decide) (v := .int (M 0 7)) rfl (List.mem_of_getElem? (i := 1) rfl) rfl dX10_keyEnd_4 ?_
    refine lv_icmp_ge (tgt := 66) hx hb dX10_keyEnd_7 (by decide) (fun c2 => ?_) (fun c2 => ?_)
    · have hw := hw.1 c2
      try dsimp only at hw
      refine lv_iload_n hx hb dX10_keyEnd_66 rfl (lv_at hl 1 rfl) ?_
      exact hret x1 M _ _ 0 0 (Nat.le_refl _) (Nat.le_refl _) hw rfl dX10_keyEnd_67 _ _ _ hW hl
    · have hw := hw.2 c2
      try dsimp only at hw
      refine lv_aload_n hx hb dX10_keyEnd_10 rfl (lv_at hl 0 rfl) ?_
      refine r_get C0 hin hW 17 (by decide) (v := .ref (ad 11)) rfl (List.mem_of_getElem? (i := 2) rfl) rfl dX10_keyEnd_11 ?_
      refine lv_iload_n hx hb dX10_keyEnd_14 rfl (lv_at hl 1 rfl) ?_
      obtain ⟨h3, hw⟩ := hw
      refine r_iald C0 hW 11 rfl rfl h3 dX10_keyEnd_15 ?_
      refine lv_bipush (v := 61) hx hb dX10_keyEnd_16 (by decide) ?_
      refine lv_icmp_eq (tgt := 66) hx hb dX10_keyEnd_18 (by decide) (fun c4 => ?_) (fun c4 => ?_)
      · have hw := hw.1 c4
        try dsimp only at hw
        refine lv_iload_n hx hb dX10_keyEnd_66 rfl (lv_at hl 1 rfl) ?_
        exact hret x1 M _ _ 0 0 (Nat.le_refl _) (Nat.le_refl _) hw rfl dX10_keyEnd_67 _ _ _ hW hl
      · have hw := hw.2 c4
        try dsimp only at hw
        refine lv_aload_n hx hb dX10_keyEnd_21 rfl (lv_at hl 0 rfl) ?_
        refine r_get C0 hin hW 17 (by decide) (v := .ref (ad 11)) rfl (List.mem_of_getElem? (i := 2) rfl) rfl dX10_keyEnd_22 ?_
        refine lv_iload_n hx hb dX10_keyEnd_25 rfl (lv_at hl 1 rfl) ?_
        obtain ⟨h5, hw⟩ := hw
        refine r_iald C0 hW 11 rfl rfl h5 dX10_keyEnd_26 ?_
        refine lv_bipush (v := 58) hx hb dX10_keyEnd_27 (by decide) ?_
        refine lv_icmp_eq (tgt := 66) hx hb dX10_keyEnd_29 (by decide) (fun c6 => ?_) (fun c6 => ?_)
        · have hw := hw.1 c6
          try dsimp only at hw
          refine lv_iload_n hx hb dX10_keyEnd_66 rfl (lv_at hl 1 rfl) ?_
          exact hret x1 M _ _ 0 0 (Nat.le_refl _) (Nat.le_refl _) hw rfl dX10_keyEnd_67 _ _ _ hW hl
        · have hw := hw.2 c6
          try dsimp only at hw
          refine lv_aload_n hx hb dX10_keyEnd_32 rfl (lv_at hl 0 rfl) ?_
          refine r_get C0 hin hW 17 (by decide) (v := .ref (ad 11)) rfl (List.mem_of_getElem? (i := 2) rfl) rfl dX10_keyEnd_33 ?_
          refine lv_iload_n hx hb dX10_keyEnd_36 rfl (lv_at hl 1 rfl) ?_
          obtain ⟨h7, hw⟩ := hw
          refine r_iald C0 hW 11 rfl rfl h7 dX10_keyEnd_37 ?_
          refine g_calls (As := [.int (M 11 x1.toNatClampNeg)]) (rest := []) ⟨hx, hb, hml, ho, hts⟩ hl.1 (k_isBlank (l := l) _ (M 11 x1.toNatClampNeg) hw) (va_cwS 1 hts gX10_keyEnd_X10_isBlank rfl rfl rfl (by decide +kernel) ⟨Nat.le_of_ble_eq_true rfl, Nat.le_of_ble_eq_true rfl⟩) (Nat.le_of_ble_eq_true rfl) dX10_keyEnd_38 rfl ⟨Nat.le_of_ble_eq_true rfl, Nat.le_of_ble_eq_true rfl⟩ (fun r8 hw => ?_)
          try dsimp only at hw
          refine lv_if_ne (tgt := 66) hx hb dX10_keyEnd_41 (by decide) (fun c9 => ?_) (fun c9 => ?_)
          · have hw := hw.1 c9
            try dsimp only at hw
            refine lv_iload_n hx hb dX10_keyEnd_66 rfl (lv_at hl 1 rfl) ?_
            exact hret x1 M _ _ 0 0 (Nat.le_refl _) (Nat.le_refl _) hw rfl dX10_keyEnd_67 _ _ _ hW hl
          · have hw := hw.2 c9
            try dsimp only at hw
            refine lv_iload_n hx hb dX10_keyEnd_44 rfl (lv_at hl 1 rfl) ?_
            refine lv_aload_n hx hb dX10_keyEnd_45 rfl (lv_at hl 0 rfl) ?_
            refine r_get C0 hin hW 17 (by decide) (v := .ref (ad 11)) rfl (List.mem_of_getElem? (i := 2) rfl) rfl dX10_keyEnd_46 ?_
            refine lv_iload_n hx hb dX10_keyEnd_49 rfl (lv_at hl 1 rfl) ?_
            obtain ⟨h10, hw⟩ := hw
            refine r_iald C0 hW 11 rfl rfl h10 dX10_keyEnd_50 ?_
            refine lv_bipush (v := 92) hx hb dX10_keyEnd_51 (by decide) ?_
            refine lv_icmp_ne (tgt := 60) hx hb dX10_keyEnd_53 (by decide) (fun c11 => ?_) (fun c11 => ?_)
            · have hw := hw.1 c11
              try dsimp only at hw
              refine lv_iconst (v := 1) hx hb dX10_keyEnd_60 (by decide) ?_
              refine lv_iadd hx hb dX10_keyEnd_61 ?_
              refine lv_topi (fun v12 ev12 => ?_)
              have hw := hw v12 ev12
              refine lv_istore_n (lv' := [(1, .int v12), (0, .ref (ad 0))]) hx hb dX10_keyEnd_62 rfl hl (by decide) rfl (fun ls hl => ?_)
              refine lv_goto (tgt := 2) hx hb dX10_keyEnd_63 (by decide) ?_
              exact ih v12 M hw _ _ _ hW (lv_sub hl [1, 0] rfl)
            · have hw := hw.2 c11
              try dsimp only at hw
              refine lv_iconst (v := 2) hx hb dX10_keyEnd_56 (by decide) ?_
              refine lv_goto (tgt := 61) hx hb dX10_keyEnd_57 (by decide) ?_
              refine lv_iadd hx hb dX10_keyEnd_61 ?_
              refine lv_topi (fun v13 ev13 => ?_)
              have hw := hw v13 ev13
              refine lv_istore_n (lv' := [(1, .int v13), (0, .ref (ad 0))]) hx hb dX10_keyEnd_62 rfl hl (by decide) rfl (fun ls hl => ?_)
              refine lv_goto (tgt := 2) hx hb dX10_keyEnd_63 (by decide) ?_
              exact ih v13 M hw _ _ _ hW (lv_sub hl [1, 0] rfl)
set_option maxHeartbeats 4000000 in
set_option maxRecDepth 100000 in
theorem t_keyEnd_0 (C0 : rX p s m args c cX10_keyEnd 2 RX10 wsX10_keyEnd D ((cI, .int) :: (cZ, .boolean) :: ty') A) (post : Int32 → RM → Prop) (hret : ∀ (r : Int32) (M' : RM) (pc : Nat) (lv : List (Nat × Value)) (k n : Nat), k ≤ 0 → n ≤ 0 → post r M' → narrow .int (.int r) = .int r → decode cX10_keyEnd pc = .ok (.ireturn, 1) → gG p l e rm_keyEnd s m args below meth c Q D A 2 k n (rcells cI cZ ad M' Y) pc lv [.int r])  : ∀  (M : RM), w_keyEnd post    M → gG p l e rm_keyEnd s m args below meth c Q D A 2 0 0 (rcells cI cZ ad M Y) 0 [(0, .ref (ad 0))] [] := by
  obtain ⟨hx, hb, hml, ho, hts, hK, hA⟩ := id C0
  have hin := in_keyEnd
  intro  M hw H locs ls hW hl
  rw [w_keyEnd] at hw
  refine lv_iconst (v := 0) hx hb dX10_keyEnd_0 (by decide) ?_
  refine lv_istore_n (lv' := [(1, .int 0), (0, .ref (ad 0))]) hx hb dX10_keyEnd_1 rfl hl (by decide) rfl (fun ls hl => ?_)
  obtain ⟨n1, hw⟩ := hw
  exact t_keyEnd_2 C0 post hret  n1 0 M hw _ _ _ hW (lv_sub hl [1, 0] rfl)
set_option maxHeartbeats 4000000 in
set_option maxRecDepth 100000 in
theorem k_keyEnd {l : Launch} {D : va_G} {cI cZ : ClassId} {ty' : List (ClassId × FieldType)} {ad : Nat → Nat} {Y : va_W} {sz : Nat} (post : Int32 → RM → Prop) (M : RM) (hw : w_keyEnd post  M) : gMi l yX10_keyEnd wsX10_keyEnd rm_keyEnd D ((cI, .int) :: (cZ, .boolean) :: ty') sz (fun M => rcells cI cZ ad M Y) M [.ref (ad 0)] post 0 0 := by
  refine gMi_of (cc := cX10_keyEnd) (nL := 2) (ty := .int) (own := RX10) (by decide) rfl rfl (Nat.le_of_ble_eq_true rfl) ?_
  intro p e s m args below meth c A Q C0 hret
  exact t_keyEnd_0 C0 post hret  M hw
abbrev rm_overBlanks : Room := { frames := 1, cells := 0, slots := 0, locals := 20 }
theorem in_overBlanks : ∀ w ∈ wsX100, w ∈ wsX10_overBlanks := fun w hw => List.mem_cons_of_mem _ (List.mem_append_right _ hw)
set_option maxHeartbeats 4000000 in
set_option maxRecDepth 100000 in
theorem t_overBlanks_2 (C0 : rX p s m args c cX10_overBlanks 3 RX10 wsX10_overBlanks D ((cI, .int) :: (cZ, .boolean) :: ty') A) (post : Int32 → RM → Prop) (hret : ∀ (r : Int32) (M' : RM) (pc : Nat) (lv : List (Nat × Value)) (k n : Nat), k ≤ 0 → n ≤ 0 → post r M' → narrow .int (.int r) = .int r → decode cX10_overBlanks pc = .ok (.ireturn, 1) → gG p l e rm_overBlanks s m args below meth c Q D A 3 k n (rcells cI cZ ad M' Y) pc lv [.int r])  : ∀ (nf : Nat) (x2 : Int32) (M : RM), w_overBlanks_2 post  nf x2 M → gG p l e rm_overBlanks s m args below meth c Q D A 3 0 0 (rcells cI cZ ad M Y) 2 [(0, .ref (ad 0)), (2, .int x2)] [] := by
  obtain ⟨hx, hb, hml, ho, hts, hK, hA⟩ := id C0
  have hin := in_overBlanks
  intro nf
  induction nf with
  | zero => intro x2 M hw; exact hw.elim
  | succ nf ih =>
    intro x2 M hw H locs ls hW hl
    rw [w_overBlanks_2] at hw
    refine lv_iload_n hx hb dX10_overBlanks_2 rfl (lv_at hl 1 rfl) ?_
    refine lv_aload_n hx hb dX10_overBlanks_3 rfl (lv_at hl 0 rfl) ?_
    refine r_get C0 hin hW 19 (by decide) (v := .int (M 0 7)) rfl (List.mem_of_getElem? (i := 1) rfl) rfl dX10_overBlanks_4 ?_
    refine lv_icmp_ge (tgt := 28) hx hb dX10_overBlanks_7 (by decide) (fun c2 => ?_) (fun c2 => ?_)
    · have hw := hw.1 c2
      try dsimp only at hw
      refine lv_iload_n hx hb dX10_overBlanks_28 rfl (lv_at hl 1 rfl) ?_
      exact hret x2 M _ _ 0 0 (Nat.le_refl _) (Nat.le_refl _) hw rfl dX10_overBlanks_29 _ _ _ hW hl
    · have hw := hw.2 c2
      try dsimp only at hw
      refine lv_aload_n hx hb dX10_overBlanks_10 rfl (lv_at hl 0 rfl) ?_
      refine r_get C0 hin hW 17 (by decide) (v := .ref (ad 11)) rfl (List.mem_of_getElem? (i := 2) rfl) rfl dX10_overBlanks_11 ?_
      refine lv_iload_n hx hb dX10_overBlanks_14 rfl (lv_at hl 1 rfl) ?_
      obtain ⟨h3, hw⟩ := hw
      refine r_iald C0 hW 11 rfl rfl h3 dX10_overBlanks_15 ?_
      refine g_calls (As := [.int (M 11 x2.toNatClampNeg)]) (rest := []) ⟨hx, hb, hml, ho, hts⟩ hl.1 (k_isBlank (l := l) _ (M 11 x2.toNatClampNeg) hw) (va_cwS 1 hts gX10_overBlanks_X10_isBlank rfl rfl rfl (by decide +kernel) ⟨Nat.le_of_ble_eq_true rfl, Nat.le_of_ble_eq_true rfl⟩) (Nat.le_of_ble_eq_true rfl) dX10_overBlanks_16 rfl ⟨Nat.le_of_ble_eq_true rfl, Nat.le_of_ble_eq_true rfl⟩ (fun r4 hw => ?_)
      try dsimp only at hw
      refine lv_if_eq (tgt := 28) hx hb dX10_overBlanks_19 (by decide) (fun c5 => ?_) (fun c5 => ?_)
      · have hw := hw.1 c5
        try dsimp only at hw
        refine lv_iload_n hx hb dX10_overBlanks_28 rfl (lv_at hl 1 rfl) ?_
        exact hret x2 M _ _ 0 0 (Nat.le_refl _) (Nat.le_refl _) hw rfl dX10_overBlanks_29 _ _ _ hW hl
      · have hw := hw.2 c5
        try dsimp only at hw
        obtain ⟨v6, ev6⟩ : ∃ y : Int32, y = x2 + 1 := ⟨_, rfl⟩
        have hw := hw v6 ev6
        refine lv_iinc (v := v6) (lv' := [(2, .int v6), (0, .ref (ad 0))]) hx hb dX10_overBlanks_22 hl (k := 1) rfl (by rw [ev6]; rfl) (by decide) rfl (fun ls hl => ?_)
        refine lv_goto (tgt := 2) hx hb dX10_overBlanks_25 (by decide) ?_
        exact ih v6 M hw _ _ _ hW (lv_sub hl [1, 0] rfl)
set_option maxHeartbeats 4000000 in
set_option maxRecDepth 100000 in
theorem t_overBlanks_0 (C0 : rX p s m args c cX10_overBlanks 3 RX10 wsX10_overBlanks D ((cI, .int) :: (cZ, .boolean) :: ty') A) (post : Int32 → RM → Prop) (hret : ∀ (r : Int32) (M' : RM) (pc : Nat) (lv : List (Nat × Value)) (k n : Nat), k ≤ 0 → n ≤ 0 → post r M' → narrow .int (.int r) = .int r → decode cX10_overBlanks pc = .ok (.ireturn, 1) → gG p l e rm_overBlanks s m args below meth c Q D A 3 k n (rcells cI cZ ad M' Y) pc lv [.int r])  : ∀  (a1 : Int32) (M : RM), w_overBlanks post   a1 M → gG p l e rm_overBlanks s m args below meth c Q D A 3 0 0 (rcells cI cZ ad M Y) 0 [(0, .ref (ad 0)), (1, .int a1)] [] := by
  obtain ⟨hx, hb, hml, ho, hts, hK, hA⟩ := id C0
  have hin := in_overBlanks
  intro a1 M hw H locs ls hW hl
  rw [w_overBlanks] at hw
  refine lv_iload_n hx hb dX10_overBlanks_0 rfl (lv_at hl 1 rfl) ?_
  refine lv_istore_n (lv' := [(2, .int a1), (0, .ref (ad 0)), (1, .int a1)]) hx hb dX10_overBlanks_1 rfl hl (by decide) rfl (fun ls hl => ?_)
  obtain ⟨n1, hw⟩ := hw
  exact t_overBlanks_2 C0 post hret  n1 a1 M hw _ _ _ hW (lv_sub hl [1, 0] rfl)
set_option maxHeartbeats 4000000 in
set_option maxRecDepth 100000 in
theorem k_overBlanks {l : Launch} {D : va_G} {cI cZ : ClassId} {ty' : List (ClassId × FieldType)} {ad : Nat → Nat} {Y : va_W} {sz : Nat} (post : Int32 → RM → Prop) (a1 : Int32) (M : RM) (hw : w_overBlanks post a1 M) : gMi l yX10_overBlanks wsX10_overBlanks rm_overBlanks D ((cI, .int) :: (cZ, .boolean) :: ty') sz (fun M => rcells cI cZ ad M Y) M [.ref (ad 0), .int a1] post 0 0 := by
  refine gMi_of (cc := cX10_overBlanks) (nL := 3) (ty := .int) (own := RX10) (by decide) rfl rfl (Nat.le_of_ble_eq_true rfl) ?_
  intro p e s m args below meth c A Q C0 hret
  exact t_overBlanks_0 C0 post hret a1 M hw
abbrev rm_valueBegin : Room := { frames := 2, cells := 0, slots := 0, locals := 42 }
theorem in_valueBegin : ∀ w ∈ wsX100, w ∈ wsX10_valueBegin := fun w hw => List.mem_cons_of_mem _ (List.mem_append_right _ hw)
set_option maxHeartbeats 4000000 in
set_option maxRecDepth 100000 in
theorem t_valueBegin_41 (C0 : rX p s m args c cX10_valueBegin 4 RX10 wsX10_valueBegin D ((cI, .int) :: (cZ, .boolean) :: ty') A) (post : Int32 → RM → Prop) (hret : ∀ (r : Int32) (M' : RM) (pc : Nat) (lv : List (Nat × Value)) (k n : Nat), k ≤ 0 → n ≤ 0 → post r M' → narrow .int (.int r) = .int r → decode cX10_valueBegin pc = .ok (.ireturn, 1) → gG p l e rm_valueBegin s m args below meth c Q D A 4 k n (rcells cI cZ ad M' Y) pc lv [.int r])  : ∀  (x2 s0 : Int32) (M : RM), w_valueBegin_41 post   x2 s0 M → gG p l e rm_valueBegin s m args below meth c Q D A 4 0 0 (rcells cI cZ ad M Y) 41 [(0, .ref (ad 0)), (2, .int x2)] [.int s0] := by
  obtain ⟨hx, hb, hml, ho, hts, hK, hA⟩ := id C0
  have hin := in_valueBegin
  intro x2 s0 M hw H locs ls hW hl
  rw [w_valueBegin_41] at hw
  refine lv_istore_n (lv' := [(3, .int s0), (0, .ref (ad 0)), (2, .int x2)]) hx hb dX10_valueBegin_41 rfl hl (by decide) rfl (fun ls hl => ?_)
  refine lv_iload_n hx hb dX10_valueBegin_42 rfl (lv_at hl 0 rfl) ?_
  refine lv_if_eq (tgt := 56) hx hb dX10_valueBegin_43 (by decide) (fun c8 => ?_) (fun c8 => ?_)
  · have hw := hw.1 c8
    try dsimp only at hw
    refine lv_iload_n hx hb dX10_valueBegin_56 rfl (lv_at hl 2 rfl) ?_
    exact hret x2 M _ _ 0 0 (Nat.le_refl _) (Nat.le_refl _) hw rfl dX10_valueBegin_57 _ _ _ hW hl
  · have hw := hw.2 c8
    try dsimp only at hw
    refine lv_aload_n hx hb dX10_valueBegin_46 rfl (lv_at hl 1 rfl) ?_
    refine lv_iload_n hx hb dX10_valueBegin_47 rfl (lv_at hl 2 rfl) ?_
    refine lv_iconst (v := 1) hx hb dX10_valueBegin_48 (by decide) ?_
    refine lv_iadd hx hb dX10_valueBegin_49 ?_
    refine g_calli (cw0 := fun M => rcells cI cZ ad M Y) (M := M) (As := [.int (x2 + 1)]) (rest := []) C0 hW hl.1 (k_overBlanks (l := l) _ (x2 + 1) _ hw) (cwV 1 hts gX10_valueBegin_X10_overBlanks rfl rfl rfl (by decide +kernel) ⟨Nat.le_of_ble_eq_true rfl, Nat.le_of_ble_eq_true rfl⟩) (r_recv C0 hW) (Nat.le_of_ble_eq_true rfl) dX10_valueBegin_50 rfl ⟨Nat.le_of_ble_eq_true rfl, Nat.le_of_ble_eq_true rfl⟩ (fun r10 M9 H locs hw hW => ?_)
    try dsimp only at hw
    refine lv_goto (tgt := 57) hx hb dX10_valueBegin_53 (by decide) ?_
    exact hret r10 M9 _ _ 0 0 (Nat.le_refl _) (Nat.le_refl _) hw rfl dX10_valueBegin_57 _ _ _ hW hl
set_option maxHeartbeats 4000000 in
set_option maxRecDepth 100000 in
theorem t_valueBegin_36 (C0 : rX p s m args c cX10_valueBegin 4 RX10 wsX10_valueBegin D ((cI, .int) :: (cZ, .boolean) :: ty') A) (post : Int32 → RM → Prop) (hret : ∀ (r : Int32) (M' : RM) (pc : Nat) (lv : List (Nat × Value)) (k n : Nat), k ≤ 0 → n ≤ 0 → post r M' → narrow .int (.int r) = .int r → decode cX10_valueBegin pc = .ok (.ireturn, 1) → gG p l e rm_valueBegin s m args below meth c Q D A 4 k n (rcells cI cZ ad M' Y) pc lv [.int r])  : ∀  (x2 : Int32) (M : RM), w_valueBegin_36 post   x2 M → gG p l e rm_valueBegin s m args below meth c Q D A 4 0 0 (rcells cI cZ ad M Y) 36 [(0, .ref (ad 0)), (2, .int x2)] [] := by
  obtain ⟨hx, hb, hml, ho, hts, hK, hA⟩ := id C0
  have hin := in_valueBegin
  intro x2 M hw H locs ls hW hl
  rw [w_valueBegin_36] at hw
  refine lv_iconst (v := 1) hx hb dX10_valueBegin_36 (by decide) ?_
  refine lv_goto (tgt := 41) hx hb dX10_valueBegin_37 (by decide) ?_
  exact t_valueBegin_41 C0 post hret  x2 1 M hw _ _ _ hW (lv_sub hl [0, 1] rfl)
set_option maxHeartbeats 4000000 in
set_option maxRecDepth 100000 in
theorem t_valueBegin_40 (C0 : rX p s m args c cX10_valueBegin 4 RX10 wsX10_valueBegin D ((cI, .int) :: (cZ, .boolean) :: ty') A) (post : Int32 → RM → Prop) (hret : ∀ (r : Int32) (M' : RM) (pc : Nat) (lv : List (Nat × Value)) (k n : Nat), k ≤ 0 → n ≤ 0 → post r M' → narrow .int (.int r) = .int r → decode cX10_valueBegin pc = .ok (.ireturn, 1) → gG p l e rm_valueBegin s m args below meth c Q D A 4 k n (rcells cI cZ ad M' Y) pc lv [.int r])  : ∀  (x2 : Int32) (M : RM), w_valueBegin_40 post   x2 M → gG p l e rm_valueBegin s m args below meth c Q D A 4 0 0 (rcells cI cZ ad M Y) 40 [(0, .ref (ad 0)), (2, .int x2)] [] := by
  obtain ⟨hx, hb, hml, ho, hts, hK, hA⟩ := id C0
  have hin := in_valueBegin
  intro x2 M hw H locs ls hW hl
  rw [w_valueBegin_40] at hw
  refine lv_iconst (v := 0) hx hb dX10_valueBegin_40 (by decide) ?_
  exact t_valueBegin_41 C0 post hret  x2 0 M hw _ _ _ hW (lv_sub hl [0, 1] rfl)
set_option maxHeartbeats 4000000 in
set_option maxRecDepth 100000 in
theorem t_valueBegin_0 (C0 : rX p s m args c cX10_valueBegin 4 RX10 wsX10_valueBegin D ((cI, .int) :: (cZ, .boolean) :: ty') A) (post : Int32 → RM → Prop) (hret : ∀ (r : Int32) (M' : RM) (pc : Nat) (lv : List (Nat × Value)) (k n : Nat), k ≤ 0 → n ≤ 0 → post r M' → narrow .int (.int r) = .int r → decode cX10_valueBegin pc = .ok (.ireturn, 1) → gG p l e rm_valueBegin s m args below meth c Q D A 4 k n (rcells cI cZ ad M' Y) pc lv [.int r])  : ∀  (a1 : Int32) (M : RM), w_valueBegin post   a1 M → gG p l e rm_valueBegin s m args below meth c Q D A 4 0 0 (rcells cI cZ ad M Y) 0 [(0, .ref (ad 0)), (1, .int a1)] [] := by
  obtain ⟨hx, hb, hml, ho, hts, hK, hA⟩ := id C0
  have hin := in_valueBegin
  intro a1 M hw H locs ls hW hl
  rw [w_valueBegin] at hw
  refine lv_aload_n hx hb dX10_valueBegin_0 rfl (lv_at hl 0 rfl) ?_
  refine lv_iload_n hx hb dX10_valueBegin_1 rfl (lv_at hl 1 rfl) ?_
  refine g_calli (cw0 := fun M => rcells cI cZ ad M Y) (M := M) (As := [.int a1]) (rest := []) C0 hW hl.1 (k_overBlanks (l := l) _ a1 _ hw) (cwV 1 hts gX10_valueBegin_X10_overBlanks rfl rfl rfl (by decide +kernel) ⟨Nat.le_of_ble_eq_true rfl, Nat.le_of_ble_eq_true rfl⟩) (r_recv C0 hW) (Nat.le_of_ble_eq_true rfl) dX10_valueBegin_2 rfl ⟨Nat.le_of_ble_eq_true rfl, Nat.le_of_ble_eq_true rfl⟩ (fun r2 M1 H locs hw hW => ?_)
  try dsimp only at hw
  refine lv_istore_n (lv' := [(2, .int r2), (0, .ref (ad 0)), (1, .int a1)]) hx hb dX10_valueBegin_5 rfl hl (by decide) rfl (fun ls hl => ?_)
  refine lv_iload_n hx hb dX10_valueBegin_6 rfl (lv_at hl 0 rfl) ?_
  refine lv_aload_n hx hb dX10_valueBegin_7 rfl (lv_at hl 1 rfl) ?_
  refine r_get C0 hin hW 19 (by decide) (v := .int (M1 0 7)) rfl (List.mem_of_getElem? (i := 1) rfl) rfl dX10_valueBegin_8 ?_
  refine lv_icmp_ge (tgt := 40) hx hb dX10_valueBegin_11 (by decide) (fun c3 => ?_) (fun c3 => ?_)
  · have hw := hw.1 c3
    try dsimp only at hw
    exact t_valueBegin_40 C0 post hret  r2 M1 hw _ _ _ hW (lv_sub hl [1, 0] rfl)
  · have hw := hw.2 c3
    try dsimp only at hw
    refine lv_aload_n hx hb dX10_valueBegin_14 rfl (lv_at hl 1 rfl) ?_
    refine r_get C0 hin hW 17 (by decide) (v := .ref (ad 11)) rfl (List.mem_of_getElem? (i := 2) rfl) rfl dX10_valueBegin_15 ?_
    refine lv_iload_n hx hb dX10_valueBegin_18 rfl (lv_at hl 0 rfl) ?_
    obtain ⟨h4, hw⟩ := hw
    refine r_iald C0 hW 11 rfl rfl h4 dX10_valueBegin_19 ?_
    refine lv_bipush (v := 61) hx hb dX10_valueBegin_20 (by decide) ?_
    refine lv_icmp_eq (tgt := 36) hx hb dX10_valueBegin_22 (by decide) (fun c5 => ?_) (fun c5 => ?_)
    · have hw := hw.1 c5
      try dsimp only at hw
      exact t_valueBegin_36 C0 post hret  r2 M1 hw _ _ _ hW (lv_sub hl [1, 0] rfl)
    · have hw := hw.2 c5
      try dsimp only at hw
      refine lv_aload_n hx hb dX10_valueBegin_25 rfl (lv_at hl 1 rfl) ?_
      refine r_get C0 hin hW 17 (by decide) (v := .ref (ad 11)) rfl (List.mem_of_getElem? (i := 2) rfl) rfl dX10_valueBegin_26 ?_
      refine lv_iload_n hx hb dX10_valueBegin_29 rfl (lv_at hl 0 rfl) ?_
      obtain ⟨h6, hw⟩ := hw
      refine r_iald C0 hW 11 rfl rfl h6 dX10_valueBegin_30 ?_
      refine lv_bipush (v := 58) hx hb dX10_valueBegin_31 (by decide) ?_
      refine lv_icmp_ne (tgt := 40) hx hb dX10_valueBegin_33 (by decide) (fun c7 => ?_) (fun c7 => ?_)
      · have hw := hw.1 c7
        try dsimp only at hw
        exact t_valueBegin_40 C0 post hret  r2 M1 hw _ _ _ hW (lv_sub hl [1, 0] rfl)
      · have hw := hw.2 c7
        try dsimp only at hw
        exact t_valueBegin_36 C0 post hret  r2 M1 hw _ _ _ hW (lv_sub hl [1, 0] rfl)
set_option maxHeartbeats 4000000 in
set_option maxRecDepth 100000 in
theorem k_valueBegin {l : Launch} {D : va_G} {cI cZ : ClassId} {ty' : List (ClassId × FieldType)} {ad : Nat → Nat} {Y : va_W} {sz : Nat} (post : Int32 → RM → Prop) (a1 : Int32) (M : RM) (hw : w_valueBegin post a1 M) : gMi l yX10_valueBegin wsX10_valueBegin rm_valueBegin D ((cI, .int) :: (cZ, .boolean) :: ty') sz (fun M => rcells cI cZ ad M Y) M [.ref (ad 0), .int a1] post 0 0 := by
  refine gMi_of (cc := cX10_valueBegin) (nL := 4) (ty := .int) (own := RX10) (by decide) rfl rfl (Nat.le_of_ble_eq_true rfl) ?_
  intro p e s m args below meth c A Q C0 hret
  exact t_valueBegin_0 C0 post hret a1 M hw
abbrev rm_hexOf : Room := { frames := 0, cells := 0, slots := 0, locals := 0 }
set_option maxHeartbeats 4000000 in
set_option maxRecDepth 100000 in
theorem k_hexOf {l : Launch} (post : Int32 → Prop) (a1 : Int32) (hw : q_hexOf post a1) : gMs l yX10_hexOf wsX10_hexOf rm_hexOf [.int a1] post := by
  refine gMs_of (cc := cX10_hexOf) (nL := 1) (ty := .int) (own := RX10) (by decide) rfl rfl (Nat.le_of_ble_eq_true rfl) ?_
  intro p e s m args below meth c Q hx hb hml ho hts hret ls hl
  rw [q_hexOf] at hw
  refine lv_iload_n hx hb dX10_hexOf_0 rfl (lv_at hl 0 rfl) ?_
  refine lv_bipush (v := 48) hx hb dX10_hexOf_1 (by decide) ?_
  refine lv_icmp_lt (tgt := 19) hx hb dX10_hexOf_3 (by decide) (fun c1 => ?_) (fun c1 => ?_)
  · have hw := hw.1 c1
    try dsimp only at hw
    refine lv_iload_n hx hb dX10_hexOf_19 rfl (lv_at hl 0 rfl) ?_
    refine lv_bipush (v := 97) hx hb dX10_hexOf_20 (by decide) ?_
    refine lv_icmp_lt (tgt := 41) hx hb dX10_hexOf_22 (by decide) (fun c2 => ?_) (fun c2 => ?_)
    · have hw := hw.1 c2
      try dsimp only at hw
      refine lv_iload_n hx hb dX10_hexOf_41 rfl (lv_at hl 0 rfl) ?_
      refine lv_bipush (v := 65) hx hb dX10_hexOf_42 (by decide) ?_
      refine lv_icmp_lt (tgt := 63) hx hb dX10_hexOf_44 (by decide) (fun c3 => ?_) (fun c3 => ?_)
      · have hw := hw.1 c3
        try dsimp only at hw
        refine lv_bipush (v := (-5)) hx hb dX10_hexOf_63 (by decide) ?_
        exact hret (-5) _ _ hw rfl dX10_hexOf_65
      · have hw := hw.2 c3
        try dsimp only at hw
        refine lv_iload_n hx hb dX10_hexOf_47 rfl (lv_at hl 0 rfl) ?_
        refine lv_bipush (v := 70) hx hb dX10_hexOf_48 (by decide) ?_
        refine lv_icmp_gt (tgt := 63) hx hb dX10_hexOf_50 (by decide) (fun c4 => ?_) (fun c4 => ?_)
        · have hw := hw.1 c4
          try dsimp only at hw
          refine lv_bipush (v := (-5)) hx hb dX10_hexOf_63 (by decide) ?_
          exact hret (-5) _ _ hw rfl dX10_hexOf_65
        · have hw := hw.2 c4
          try dsimp only at hw
          refine lv_iload_n hx hb dX10_hexOf_53 rfl (lv_at hl 0 rfl) ?_
          refine lv_bipush (v := 65) hx hb dX10_hexOf_54 (by decide) ?_
          refine lv_isub hx hb dX10_hexOf_56 ?_
          refine lv_bipush (v := 10) hx hb dX10_hexOf_57 (by decide) ?_
          refine lv_iadd hx hb dX10_hexOf_59 ?_
          refine lv_goto (tgt := 65) hx hb dX10_hexOf_60 (by decide) ?_
          exact hret ((a1 - 65) + 10) _ _ hw rfl dX10_hexOf_65
    · have hw := hw.2 c2
      try dsimp only at hw
      refine lv_iload_n hx hb dX10_hexOf_25 rfl (lv_at hl 0 rfl) ?_
      refine lv_bipush (v := 102) hx hb dX10_hexOf_26 (by decide) ?_
      refine lv_icmp_gt (tgt := 41) hx hb dX10_hexOf_28 (by decide) (fun c5 => ?_) (fun c5 => ?_)
      · have hw := hw.1 c5
        try dsimp only at hw
        refine lv_iload_n hx hb dX10_hexOf_41 rfl (lv_at hl 0 rfl) ?_
        refine lv_bipush (v := 65) hx hb dX10_hexOf_42 (by decide) ?_
        refine lv_icmp_lt (tgt := 63) hx hb dX10_hexOf_44 (by decide) (fun c6 => ?_) (fun c6 => ?_)
        · have hw := hw.1 c6
          try dsimp only at hw
          refine lv_bipush (v := (-5)) hx hb dX10_hexOf_63 (by decide) ?_
          exact hret (-5) _ _ hw rfl dX10_hexOf_65
        · have hw := hw.2 c6
          try dsimp only at hw
          refine lv_iload_n hx hb dX10_hexOf_47 rfl (lv_at hl 0 rfl) ?_
          refine lv_bipush (v := 70) hx hb dX10_hexOf_48 (by decide) ?_
          refine lv_icmp_gt (tgt := 63) hx hb dX10_hexOf_50 (by decide) (fun c7 => ?_) (fun c7 => ?_)
          · have hw := hw.1 c7
            try dsimp only at hw
            refine lv_bipush (v := (-5)) hx hb dX10_hexOf_63 (by decide) ?_
            exact hret (-5) _ _ hw rfl dX10_hexOf_65
          · have hw := hw.2 c7
            try dsimp only at hw
            refine lv_iload_n hx hb dX10_hexOf_53 rfl (lv_at hl 0 rfl) ?_
            refine lv_bipush (v := 65) hx hb dX10_hexOf_54 (by decide) ?_
            refine lv_isub hx hb dX10_hexOf_56 ?_
            refine lv_bipush (v := 10) hx hb dX10_hexOf_57 (by decide) ?_
            refine lv_iadd hx hb dX10_hexOf_59 ?_
            refine lv_goto (tgt := 65) hx hb dX10_hexOf_60 (by decide) ?_
            exact hret ((a1 - 65) + 10) _ _ hw rfl dX10_hexOf_65
      · have hw := hw.2 c5
        try dsimp only at hw
        refine lv_iload_n hx hb dX10_hexOf_31 rfl (lv_at hl 0 rfl) ?_
        refine lv_bipush (v := 97) hx hb dX10_hexOf_32 (by decide) ?_
        refine lv_isub hx hb dX10_hexOf_34 ?_
        refine lv_bipush (v := 10) hx hb dX10_hexOf_35 (by decide) ?_
        refine lv_iadd hx hb dX10_hexOf_37 ?_
        refine lv_goto (tgt := 65) hx hb dX10_hexOf_38 (by decide) ?_
        exact hret ((a1 - 97) + 10) _ _ hw rfl dX10_hexOf_65
  · have hw := hw.2 c1
    try dsimp only at hw
    refine lv_iload_n hx hb dX10_hexOf_6 rfl (lv_at hl 0 rfl) ?_
    refine lv_bipush (v := 57) hx hb dX10_hexOf_7 (by decide) ?_
    refine lv_icmp_gt (tgt := 19) hx hb dX10_hexOf_9 (by decide) (fun c8 => ?_) (fun c8 => ?_)
    · have hw := hw.1 c8
      try dsimp only at hw
      refine lv_iload_n hx hb dX10_hexOf_19 rfl (lv_at hl 0 rfl) ?_
      refine lv_bipush (v := 97) hx hb dX10_hexOf_20 (by decide) ?_
      refine lv_icmp_lt (tgt := 41) hx hb dX10_hexOf_22 (by decide) (fun c9 => ?_) (fun c9 => ?_)
      · have hw := hw.1 c9
        try dsimp only at hw
        refine lv_iload_n hx hb dX10_hexOf_41 rfl (lv_at hl 0 rfl) ?_
        refine lv_bipush (v := 65) hx hb dX10_hexOf_42 (by decide) ?_
        refine lv_icmp_lt (tgt := 63) hx hb dX10_hexOf_44 (by decide) (fun c10 => ?_) (fun c10 => ?_)
        · have hw := hw.1 c10
          try dsimp only at hw
          refine lv_bipush (v := (-5)) hx hb dX10_hexOf_63 (by decide) ?_
          exact hret (-5) _ _ hw rfl dX10_hexOf_65
        · have hw := hw.2 c10
          try dsimp only at hw
          refine lv_iload_n hx hb dX10_hexOf_47 rfl (lv_at hl 0 rfl) ?_
          refine lv_bipush (v := 70) hx hb dX10_hexOf_48 (by decide) ?_
          refine lv_icmp_gt (tgt := 63) hx hb dX10_hexOf_50 (by decide) (fun c11 => ?_) (fun c11 => ?_)
          · have hw := hw.1 c11
            try dsimp only at hw
            refine lv_bipush (v := (-5)) hx hb dX10_hexOf_63 (by decide) ?_
            exact hret (-5) _ _ hw rfl dX10_hexOf_65
          · have hw := hw.2 c11
            try dsimp only at hw
            refine lv_iload_n hx hb dX10_hexOf_53 rfl (lv_at hl 0 rfl) ?_
            refine lv_bipush (v := 65) hx hb dX10_hexOf_54 (by decide) ?_
            refine lv_isub hx hb dX10_hexOf_56 ?_
            refine lv_bipush (v := 10) hx hb dX10_hexOf_57 (by decide) ?_
            refine lv_iadd hx hb dX10_hexOf_59 ?_
            refine lv_goto (tgt := 65) hx hb dX10_hexOf_60 (by decide) ?_
            exact hret ((a1 - 65) + 10) _ _ hw rfl dX10_hexOf_65
      · have hw := hw.2 c9
        try dsimp only at hw
        refine lv_iload_n hx hb dX10_hexOf_25 rfl (lv_at hl 0 rfl) ?_
        refine lv_bipush (v := 102) hx hb dX10_hexOf_26 (by decide) ?_
        refine lv_icmp_gt (tgt := 41) hx hb dX10_hexOf_28 (by decide) (fun c12 => ?_) (fun c12 => ?_)
        · have hw := hw.1 c12
          try dsimp only at hw
          refine lv_iload_n hx hb dX10_hexOf_41 rfl (lv_at hl 0 rfl) ?_
          refine lv_bipush (v := 65) hx hb dX10_hexOf_42 (by decide) ?_
          refine lv_icmp_lt (tgt := 63) hx hb dX10_hexOf_44 (by decide) (fun c13 => ?_) (fun c13 => ?_)
          · have hw := hw.1 c13
            try dsimp only at hw
            refine lv_bipush (v := (-5)) hx hb dX10_hexOf_63 (by decide) ?_
            exact hret (-5) _ _ hw rfl dX10_hexOf_65
          · have hw := hw.2 c13
            try dsimp only at hw
            refine lv_iload_n hx hb dX10_hexOf_47 rfl (lv_at hl 0 rfl) ?_
            refine lv_bipush (v := 70) hx hb dX10_hexOf_48 (by decide) ?_
            refine lv_icmp_gt (tgt := 63) hx hb dX10_hexOf_50 (by decide) (fun c14 => ?_) (fun c14 => ?_)
            · have hw := hw.1 c14
              try dsimp only at hw
              refine lv_bipush (v := (-5)) hx hb dX10_hexOf_63 (by decide) ?_
              exact hret (-5) _ _ hw rfl dX10_hexOf_65
            · have hw := hw.2 c14
              try dsimp only at hw
              refine lv_iload_n hx hb dX10_hexOf_53 rfl (lv_at hl 0 rfl) ?_
              refine lv_bipush (v := 65) hx hb dX10_hexOf_54 (by decide) ?_
              refine lv_isub hx hb dX10_hexOf_56 ?_
              refine lv_bipush (v := 10) hx hb dX10_hexOf_57 (by decide) ?_
              refine lv_iadd hx hb dX10_hexOf_59 ?_
              refine lv_goto (tgt := 65) hx hb dX10_hexOf_60 (by decide) ?_
              exact hret ((a1 - 65) + 10) _ _ hw rfl dX10_hexOf_65
        · have hw := hw.2 c12
          try dsimp only at hw
          refine lv_iload_n hx hb dX10_hexOf_31 rfl (lv_at hl 0 rfl) ?_
          refine lv_bipush (v := 97) hx hb dX10_hexOf_32 (by decide) ?_
          refine lv_isub hx hb dX10_hexOf_34 ?_
          refine lv_bipush (v := 10) hx hb dX10_hexOf_35 (by decide) ?_
          refine lv_iadd hx hb dX10_hexOf_37 ?_
          refine lv_goto (tgt := 65) hx hb dX10_hexOf_38 (by decide) ?_
          exact hret ((a1 - 97) + 10) _ _ hw rfl dX10_hexOf_65
    · have hw := hw.2 c8
      try dsimp only at hw
      refine lv_iload_n hx hb dX10_hexOf_12 rfl (lv_at hl 0 rfl) ?_
      refine lv_bipush (v := 48) hx hb dX10_hexOf_13 (by decide) ?_
      refine lv_isub hx hb dX10_hexOf_15 ?_
      refine lv_goto (tgt := 65) hx hb dX10_hexOf_16 (by decide) ?_
      exact hret (a1 - 48) _ _ hw rfl dX10_hexOf_65
abbrev rm_numberAt : Room := { frames := 1, cells := 0, slots := 0, locals := 20 }
theorem in_numberAt : ∀ w ∈ wsX100, w ∈ wsX10_numberAt := fun w hw => List.mem_cons_of_mem _ (List.mem_append_right _ hw)
set_option maxHeartbeats 4000000 in
set_option maxRecDepth 100000 in
theorem t_numberAt_15 (C0 : rX p s m args c cX10_numberAt 6 RX10 wsX10_numberAt D ((cI, .int) :: (cZ, .boolean) :: ty') A) (post : Int32 → RM → Prop) (hret : ∀ (r : Int32) (M' : RM) (pc : Nat) (lv : List (Nat × Value)) (k n : Nat), k ≤ 0 → n ≤ 0 → post r M' → narrow .int (.int r) = .int r → decode cX10_numberAt pc = .ok (.ireturn, 1) → gG p l e rm_numberAt s m args below meth c Q D A 6 k n (rcells cI cZ ad M' Y) pc lv [.int r])  : ∀ (nf : Nat) (x1 x3 x4 : Int32) (M : RM), w_numberAt_15 post  nf x1 x3 x4 M → gG p l e rm_numberAt s m args below meth c Q D A 6 0 0 (rcells cI cZ ad M Y) 15 [(0, .ref (ad 0)), (1, .int x1), (3, .int x3), (4, .int x4)] [] := by
  obtain ⟨hx, hb, hml, ho, hts, hK, hA⟩ := id C0
  have hin := in_numberAt
  intro nf
  induction nf with
  | zero => intro x1 x3 x4 M hw; exact hw.elim
  | succ nf ih =>
    intro x1 x3 x4 M hw H locs ls hW hl
    rw [w_numberAt_15] at hw
    refine lv_iload hx hb dX10_numberAt_15 (lv_at hl 3 rfl) ?_
    refine lv_iload_n hx hb dX10_numberAt_17 rfl (lv_at hl 1 rfl) ?_
    refine lv_iconst (v := 4) hx hb dX10_numberAt_18 (by decide) ?_
    refine lv_iadd hx hb dX10_numberAt_19 ?_
    refine lv_icmp_ge (tgt := 57) hx hb dX10_numberAt_20 (by decide) (fun c3 => ?_) (fun c3 => ?_)
    · have hw := hw.1 c3
      try dsimp only at hw
      refine lv_iload_n hx hb dX10_numberAt_57 rfl (lv_at hl 2 rfl) ?_
      refine lv_sipush (v := 255) hx hb dX10_numberAt_58 (by decide) ?_
      refine lv_icmp_le (tgt := 69) hx hb dX10_numberAt_61 (by decide) (fun c4 => ?_) (fun c4 => ?_)
      · have hw := hw.1 c4
        try dsimp only at hw
        refine lv_iload_n hx hb dX10_numberAt_69 rfl (lv_at hl 2 rfl) ?_
        exact hret x3 M _ _ 0 0 (Nat.le_refl _) (Nat.le_refl _) hw rfl dX10_numberAt_70 _ _ _ hW hl
      · have hw := hw.2 c4
        try dsimp only at hw
        refine lv_bipush (v := (-5)) hx hb dX10_numberAt_64 (by decide) ?_
        refine lv_goto (tgt := 70) hx hb dX10_numberAt_66 (by decide) ?_
        exact hret (-5) M _ _ 0 0 (Nat.le_refl _) (Nat.le_refl _) hw rfl dX10_numberAt_70 _ _ _ hW hl
    · have hw := hw.2 c3
      try dsimp only at hw
      refine lv_aload_n hx hb dX10_numberAt_23 rfl (lv_at hl 0 rfl) ?_
      refine r_get C0 hin hW 17 (by decide) (v := .ref (ad 11)) rfl (List.mem_of_getElem? (i := 1) rfl) rfl dX10_numberAt_24 ?_
      refine lv_iload hx hb dX10_numberAt_27 (lv_at hl 3 rfl) ?_
      obtain ⟨h5, hw⟩ := hw
      refine r_iald C0 hW 11 rfl rfl h5 dX10_numberAt_29 ?_
      refine g_calls (As := [.int (M 11 x4.toNatClampNeg)]) (rest := []) ⟨hx, hb, hml, ho, hts⟩ hl.1 (k_hexOf (l := l) _ (M 11 x4.toNatClampNeg) hw) (va_cwS 1 hts gX10_numberAt_X10_hexOf rfl rfl rfl (by decide +kernel) ⟨Nat.le_of_ble_eq_true rfl, Nat.le_of_ble_eq_true rfl⟩) (Nat.le_of_ble_eq_true rfl) dX10_numberAt_30 rfl ⟨Nat.le_of_ble_eq_true rfl, Nat.le_of_ble_eq_true rfl⟩ (fun r6 hw => ?_)
      try dsimp only at hw
      refine lv_istore (lv' := [(5, .int r6), (0, .ref (ad 0)), (1, .int x1), (3, .int x3), (4, .int x4)]) hx hb dX10_numberAt_33 hl (by decide) rfl (fun ls hl => ?_)
      refine lv_iload hx hb dX10_numberAt_35 (lv_at hl 0 rfl) ?_
      refine lv_if_ge (tgt := 43) hx hb dX10_numberAt_37 (by decide) (fun c7 => ?_) (fun c7 => ?_)
      · have hw := hw.1 c7
        try dsimp only at hw
        refine lv_bipush (v := 16) hx hb dX10_numberAt_43 (by decide) ?_
        refine lv_iload_n hx hb dX10_numberAt_45 rfl (lv_at hl 3 rfl) ?_
        refine lv_imul hx hb dX10_numberAt_46 ?_
        refine lv_iload hx hb dX10_numberAt_47 (lv_at hl 0 rfl) ?_
        refine lv_iadd hx hb dX10_numberAt_49 ?_
        refine lv_topi (fun v8 ev8 => ?_)
        have hw := hw v8 ev8
        refine lv_istore_n (lv' := [(3, .int v8), (5, .int r6), (0, .ref (ad 0)), (1, .int x1), (4, .int x4)]) hx hb dX10_numberAt_50 rfl hl (by decide) rfl (fun ls hl => ?_)
        obtain ⟨v9, ev9⟩ : ∃ y : Int32, y = x4 + 1 := ⟨_, rfl⟩
        have hw := hw v9 ev9
        refine lv_iinc (v := v9) (lv' := [(4, .int v9), (3, .int v8), (5, .int r6), (0, .ref (ad 0)), (1, .int x1)]) hx hb dX10_numberAt_51 hl (k := 4) rfl (by rw [ev9]; rfl) (by decide) rfl (fun ls hl => ?_)
        refine lv_goto (tgt := 15) hx hb dX10_numberAt_54 (by decide) ?_
        exact ih x1 v8 v9 M hw _ _ _ hW (lv_sub hl [3, 4, 1, 0] rfl)
      · have hw := hw.2 c7
        try dsimp only at hw
        refine lv_bipush (v := (-5)) hx hb dX10_numberAt_40 (by decide) ?_
        exact hret (-5) M _ _ 0 0 (Nat.le_refl _) (Nat.le_refl _) hw rfl dX10_numberAt_42 _ _ _ hW hl
set_option maxHeartbeats 4000000 in
set_option maxRecDepth 100000 in
theorem t_numberAt_0 (C0 : rX p s m args c cX10_numberAt 6 RX10 wsX10_numberAt D ((cI, .int) :: (cZ, .boolean) :: ty') A) (post : Int32 → RM → Prop) (hret : ∀ (r : Int32) (M' : RM) (pc : Nat) (lv : List (Nat × Value)) (k n : Nat), k ≤ 0 → n ≤ 0 → post r M' → narrow .int (.int r) = .int r → decode cX10_numberAt pc = .ok (.ireturn, 1) → gG p l e rm_numberAt s m args below meth c Q D A 6 k n (rcells cI cZ ad M' Y) pc lv [.int r])  : ∀  (a1 a2 : Int32) (M : RM), w_numberAt post   a1 a2 M → gG p l e rm_numberAt s m args below meth c Q D A 6 0 0 (rcells cI cZ ad M Y) 0 [(0, .ref (ad 0)), (1, .int a1), (2, .int a2)] [] := by
  obtain ⟨hx, hb, hml, ho, hts, hK, hA⟩ := id C0
  have hin := in_numberAt
  intro a1 a2 M hw H locs ls hW hl
  rw [w_numberAt] at hw
  refine lv_iload_n hx hb dX10_numberAt_0 rfl (lv_at hl 1 rfl) ?_
  refine lv_iconst (v := 4) hx hb dX10_numberAt_1 (by decide) ?_
  refine lv_iadd hx hb dX10_numberAt_2 ?_
  refine lv_iload_n hx hb dX10_numberAt_3 rfl (lv_at hl 2 rfl) ?_
  refine lv_icmp_le (tgt := 10) hx hb dX10_numberAt_4 (by decide) (fun c1 => ?_) (fun c1 => ?_)
  · have hw := hw.1 c1
    try dsimp only at hw
    refine lv_iconst (v := 0) hx hb dX10_numberAt_10 (by decide) ?_
    refine lv_istore_n (lv' := [(3, .int 0), (0, .ref (ad 0)), (1, .int a1), (2, .int a2)]) hx hb dX10_numberAt_11 rfl hl (by decide) rfl (fun ls hl => ?_)
    refine lv_iload_n hx hb dX10_numberAt_12 rfl (lv_at hl 2 rfl) ?_
    refine lv_istore (lv' := [(4, .int a1), (3, .int 0), (0, .ref (ad 0)), (1, .int a1), (2, .int a2)]) hx hb dX10_numberAt_13 hl (by decide) rfl (fun ls hl => ?_)
    obtain ⟨n2, hw⟩ := hw
    exact t_numberAt_15 C0 post hret  n2 a1 0 a1 M hw _ _ _ hW (lv_sub hl [2, 3, 1, 0] rfl)
  · have hw := hw.2 c1
    try dsimp only at hw
    refine lv_bipush (v := (-5)) hx hb dX10_numberAt_7 (by decide) ?_
    exact hret (-5) M _ _ 0 0 (Nat.le_refl _) (Nat.le_refl _) hw rfl dX10_numberAt_9 _ _ _ hW hl
set_option maxHeartbeats 4000000 in
set_option maxRecDepth 100000 in
theorem k_numberAt {l : Launch} {D : va_G} {cI cZ : ClassId} {ty' : List (ClassId × FieldType)} {ad : Nat → Nat} {Y : va_W} {sz : Nat} (post : Int32 → RM → Prop) (a1 a2 : Int32) (M : RM) (hw : w_numberAt post a1 a2 M) : gMi l yX10_numberAt wsX10_numberAt rm_numberAt D ((cI, .int) :: (cZ, .boolean) :: ty') sz (fun M => rcells cI cZ ad M Y) M [.ref (ad 0), .int a1, .int a2] post 0 0 := by
  refine gMi_of (cc := cX10_numberAt) (nL := 6) (ty := .int) (own := RX10) (by decide) rfl rfl (Nat.le_of_ble_eq_true rfl) ?_
  intro p e s m args below meth c A Q C0 hret
  exact t_numberAt_0 C0 post hret a1 a2 M hw
abbrev rm_decode : Room := { frames := 2, cells := 0, slots := 0, locals := 45 }
theorem in_decode : ∀ w ∈ wsX100, w ∈ wsX10_decode := fun w hw => List.mem_cons_of_mem _ (List.mem_append_right _ hw)
set_option maxHeartbeats 4000000 in
set_option maxRecDepth 100000 in
theorem t_decode_148 (C0 : rX p s m args c cX10_decode 6 RX10 wsX10_decode D ((cI, .int) :: (cZ, .boolean) :: ty') A) (post : Int32 → RM → Prop) (hret : ∀ (r : Int32) (M' : RM) (pc : Nat) (lv : List (Nat × Value)) (k n : Nat), k ≤ 0 → n ≤ 0 → post r M' → narrow .int (.int r) = .int r → decode cX10_decode pc = .ok (.ireturn, 1) → gG p l e rm_decode s m args below meth c Q D A 6 k n (rcells cI cZ ad M' Y) pc lv [.int r]) (K10 : Int32 → Int32 → Int32 → RM → Prop) (hK10 : ∀ (x2 x3 x4 : Int32) (M : RM), K10 x2 x3 x4 M → gG p l e rm_decode s m args below meth c Q D A 6 0 0 (rcells cI cZ ad M Y) 10 [(0, .ref (ad 0)), (2, .int x2), (3, .int x3), (4, .int x4)] []) : ∀  (x2 x3 x4 s0 s1 : Int32) (M : RM), w_decode_148 post K10  x2 x3 x4 s0 s1 M → gG p l e rm_decode s m args below meth c Q D A 6 0 0 (rcells cI cZ ad M Y) 148 [(0, .ref (ad 0)), (2, .int x2), (3, .int x3), (4, .int x4)] [.int s0, .int s1, .ref (ad 0)] := by
  obtain ⟨hx, hb, hml, ho, hts, hK, hA⟩ := id C0
  have hin := in_decode
  intro x2 x3 x4 s0 s1 M hw H locs ls hW hl
  rw [w_decode_148] at hw
  refine g_callv (cw0 := fun M => rcells cI cZ ad M Y) (M := M) (As := [.int s1, .int s0]) (rest := []) C0 hW hl.1 (k_addSign (l := l) _ s1 s0 _ hw) (cwV 2 hts gX10_decode_X10_addSign rfl rfl rfl (by decide +kernel) ⟨Nat.le_of_ble_eq_true rfl, Nat.le_of_ble_eq_true rfl⟩) (r_recv C0 hW) (Nat.le_of_ble_eq_true rfl) dX10_decode_148 rfl ⟨Nat.le_of_ble_eq_true rfl, Nat.le_of_ble_eq_true rfl⟩ (fun M23 H locs hw hW => ?_)
  try dsimp only at hw
  obtain ⟨v24, ev24⟩ : ∃ y : Int32, y = x4 + 2 := ⟨_, rfl⟩
  have hw := hw v24 ev24
  refine lv_iinc (v := v24) (lv' := [(4, .int v24), (0, .ref (ad 0)), (2, .int x2), (3, .int x3)]) hx hb dX10_decode_151 hl (k := 3) rfl (by rw [ev24]; rfl) (by decide) rfl (fun ls hl => ?_)
  refine lv_goto (tgt := 10) hx hb dX10_decode_154 (by decide) ?_
  exact hK10 x2 x3 v24 M23 hw _ _ _ hW (lv_sub hl [1, 2, 3, 0] rfl)
set_option maxHeartbeats 4000000 in
set_option maxRecDepth 100000 in
theorem t_decode_10 (C0 : rX p s m args c cX10_decode 6 RX10 wsX10_decode D ((cI, .int) :: (cZ, .boolean) :: ty') A) (post : Int32 → RM → Prop) (hret : ∀ (r : Int32) (M' : RM) (pc : Nat) (lv : List (Nat × Value)) (k n : Nat), k ≤ 0 → n ≤ 0 → post r M' → narrow .int (.int r) = .int r → decode cX10_decode pc = .ok (.ireturn, 1) → gG p l e rm_decode s m args below meth c Q D A 6 k n (rcells cI cZ ad M' Y) pc lv [.int r])  : ∀ (nf : Nat) (x2 x3 x4 : Int32) (M : RM), w_decode_10 post  nf x2 x3 x4 M → gG p l e rm_decode s m args below meth c Q D A 6 0 0 (rcells cI cZ ad M Y) 10 [(0, .ref (ad 0)), (2, .int x2), (3, .int x3), (4, .int x4)] [] := by
  obtain ⟨hx, hb, hml, ho, hts, hK, hA⟩ := id C0
  have hin := in_decode
  intro nf
  induction nf with
  | zero => intro x2 x3 x4 M hw; exact hw.elim
  | succ nf ih =>
    intro x2 x3 x4 M hw H locs ls hW hl
    rw [w_decode_10] at hw
    refine lv_iload hx hb dX10_decode_10 (lv_at hl 3 rfl) ?_
    refine lv_iload_n hx hb dX10_decode_12 rfl (lv_at hl 1 rfl) ?_
    refine lv_icmp_ge (tgt := 157) hx hb dX10_decode_13 (by decide) (fun c4 => ?_) (fun c4 => ?_)
    · have hw := hw.1 c4
      try dsimp only at hw
      refine lv_bipush (v := (-5)) hx hb dX10_decode_157 (by decide) ?_
      exact hret (-5) M _ _ 0 0 (Nat.le_refl _) (Nat.le_refl _) hw rfl dX10_decode_159 _ _ _ hW hl
    · have hw := hw.2 c4
      try dsimp only at hw
      refine lv_aload_n hx hb dX10_decode_16 rfl (lv_at hl 0 rfl) ?_
      refine r_get C0 hin hW 17 (by decide) (v := .ref (ad 11)) rfl (List.mem_of_getElem? (i := 2) rfl) rfl dX10_decode_17 ?_
      refine lv_iload hx hb dX10_decode_20 (lv_at hl 3 rfl) ?_
      obtain ⟨h5, hw⟩ := hw
      refine r_iald C0 hW 11 rfl rfl h5 dX10_decode_22 ?_
      refine lv_bipush (v := 92) hx hb dX10_decode_23 (by decide) ?_
      refine lv_icmp_eq (tgt := 46) hx hb dX10_decode_25 (by decide) (fun c6 => ?_) (fun c6 => ?_)
      · have hw := hw.1 c6
        try dsimp only at hw
        refine lv_aload_n hx hb dX10_decode_46 rfl (lv_at hl 0 rfl) ?_
        refine r_get C0 hin hW 17 (by decide) (v := .ref (ad 11)) rfl (List.mem_of_getElem? (i := 2) rfl) rfl dX10_decode_47 ?_
        refine lv_iload hx hb dX10_decode_50 (lv_at hl 3 rfl) ?_
        refine lv_iconst (v := 1) hx hb dX10_decode_52 (by decide) ?_
        refine lv_iadd hx hb dX10_decode_53 ?_
        obtain ⟨h7, hw⟩ := hw
        refine r_iald C0 hW 11 rfl rfl h7 dX10_decode_54 ?_
        refine lv_bipush (v := 117) hx hb dX10_decode_55 (by decide) ?_
        refine lv_icmp_ne (tgt := 97) hx hb dX10_decode_57 (by decide) (fun c8 => ?_) (fun c8 => ?_)
        · have hw := hw.1 c8
          try dsimp only at hw
          refine lv_aload_n hx hb dX10_decode_97 rfl (lv_at hl 0 rfl) ?_
          refine r_get C0 hin hW 17 (by decide) (v := .ref (ad 11)) rfl (List.mem_of_getElem? (i := 2) rfl) rfl dX10_decode_98 ?_
          refine lv_iload hx hb dX10_decode_101 (lv_at hl 3 rfl) ?_
          refine lv_iconst (v := 1) hx hb dX10_decode_103 (by decide) ?_
          refine lv_iadd hx hb dX10_decode_104 ?_
          obtain ⟨h9, hw⟩ := hw
          refine r_iald C0 hW 11 rfl rfl h9 dX10_decode_105 ?_
          refine lv_topi (fun v10 ev10 => ?_)
          have hw := hw v10 ev10
          refine lv_istore (lv' := [(5, .int v10), (0, .ref (ad 0)), (2, .int x2), (3, .int x3), (4, .int x4)]) hx hb dX10_decode_106 hl (by decide) rfl (fun ls hl => ?_)
          refine lv_aload_n hx hb dX10_decode_108 rfl (lv_at hl 1 rfl) ?_
          refine lv_iload_n hx hb dX10_decode_109 rfl (lv_at hl 3 rfl) ?_
          refine lv_iload hx hb dX10_decode_110 (lv_at hl 0 rfl) ?_
          refine lv_bipush (v := 116) hx hb dX10_decode_112 (by decide) ?_
          refine lv_icmp_ne (tgt := 122) hx hb dX10_decode_114 (by decide) (fun c11 => ?_) (fun c11 => ?_)
          · have hw := hw.1 c11
            try dsimp only at hw
            refine lv_iload hx hb dX10_decode_122 (lv_at hl 0 rfl) ?_
            refine lv_bipush (v := 110) hx hb dX10_decode_124 (by decide) ?_
            refine lv_icmp_ne (tgt := 134) hx hb dX10_decode_126 (by decide) (fun c12 => ?_) (fun c12 => ?_)
            · have hw := hw.1 c12
              try dsimp only at hw
              refine lv_iload hx hb dX10_decode_134 (lv_at hl 0 rfl) ?_
              refine lv_bipush (v := 114) hx hb dX10_decode_136 (by decide) ?_
              refine lv_icmp_ne (tgt := 146) hx hb dX10_decode_138 (by decide) (fun c13 => ?_) (fun c13 => ?_)
              · have hw := hw.1 c13
                try dsimp only at hw
                refine lv_iload hx hb dX10_decode_146 (lv_at hl 0 rfl) ?_
                exact t_decode_148 C0 post hret (w_decode_10 post  nf) ih x2 x3 x4 v10 x3 M hw _ _ _ hW (lv_sub hl [1, 2, 3, 4] rfl)
              · have hw := hw.2 c13
                try dsimp only at hw
                refine lv_bipush (v := 13) hx hb dX10_decode_141 (by decide) ?_
                refine lv_goto (tgt := 148) hx hb dX10_decode_143 (by decide) ?_
                exact t_decode_148 C0 post hret (w_decode_10 post  nf) ih x2 x3 x4 13 x3 M hw _ _ _ hW (lv_sub hl [1, 2, 3, 4] rfl)
            · have hw := hw.2 c12
              try dsimp only at hw
              refine lv_bipush (v := 10) hx hb dX10_decode_129 (by decide) ?_
              refine lv_goto (tgt := 148) hx hb dX10_decode_131 (by decide) ?_
              exact t_decode_148 C0 post hret (w_decode_10 post  nf) ih x2 x3 x4 10 x3 M hw _ _ _ hW (lv_sub hl [1, 2, 3, 4] rfl)
          · have hw := hw.2 c11
            try dsimp only at hw
            refine lv_bipush (v := 9) hx hb dX10_decode_117 (by decide) ?_
            refine lv_goto (tgt := 148) hx hb dX10_decode_119 (by decide) ?_
            exact t_decode_148 C0 post hret (w_decode_10 post  nf) ih x2 x3 x4 9 x3 M hw _ _ _ hW (lv_sub hl [1, 2, 3, 4] rfl)
        · have hw := hw.2 c8
          try dsimp only at hw
          refine lv_aload_n hx hb dX10_decode_60 rfl (lv_at hl 0 rfl) ?_
          refine lv_iload hx hb dX10_decode_61 (lv_at hl 3 rfl) ?_
          refine lv_iconst (v := 2) hx hb dX10_decode_63 (by decide) ?_
          refine lv_iadd hx hb dX10_decode_64 ?_
          refine lv_iload_n hx hb dX10_decode_65 rfl (lv_at hl 1 rfl) ?_
          refine g_calli (cw0 := fun M => rcells cI cZ ad M Y) (M := M) (As := [.int (x4 + 2), .int x2]) (rest := []) C0 hW hl.1 (k_numberAt (l := l) _ (x4 + 2) x2 _ hw) (cwV 2 hts gX10_decode_X10_numberAt rfl rfl rfl (by decide +kernel) ⟨Nat.le_of_ble_eq_true rfl, Nat.le_of_ble_eq_true rfl⟩) (r_recv C0 hW) (Nat.le_of_ble_eq_true rfl) dX10_decode_66 rfl ⟨Nat.le_of_ble_eq_true rfl, Nat.le_of_ble_eq_true rfl⟩ (fun r15 M14 H locs hw hW => ?_)
          try dsimp only at hw
          refine lv_istore (lv' := [(5, .int r15), (0, .ref (ad 0)), (2, .int x2), (3, .int x3), (4, .int x4)]) hx hb dX10_decode_69 hl (by decide) rfl (fun ls hl => ?_)
          refine lv_iload hx hb dX10_decode_71 (lv_at hl 0 rfl) ?_
          refine lv_if_ge (tgt := 84) hx hb dX10_decode_73 (by decide) (fun c16 => ?_) (fun c16 => ?_)
          · have hw := hw.1 c16
            try dsimp only at hw
            refine lv_aload_n hx hb dX10_decode_84 rfl (lv_at hl 1 rfl) ?_
            refine lv_iload_n hx hb dX10_decode_85 rfl (lv_at hl 3 rfl) ?_
            refine lv_iload hx hb dX10_decode_86 (lv_at hl 0 rfl) ?_
            refine g_callv (cw0 := fun M => rcells cI cZ ad M Y) (M := M14) (As := [.int x3, .int r15]) (rest := []) C0 hW hl.1 (k_addSign (l := l) _ x3 r15 _ hw) (cwV 2 hts gX10_decode_X10_addSign rfl rfl rfl (by decide +kernel) ⟨Nat.le_of_ble_eq_true rfl, Nat.le_of_ble_eq_true rfl⟩) (r_recv C0 hW) (Nat.le_of_ble_eq_true rfl) dX10_decode_88 rfl ⟨Nat.le_of_ble_eq_true rfl, Nat.le_of_ble_eq_true rfl⟩ (fun M17 H locs hw hW => ?_)
            try dsimp only at hw
            obtain ⟨v18, ev18⟩ : ∃ y : Int32, y = x4 + 6 := ⟨_, rfl⟩
            have hw := hw v18 ev18
            refine lv_iinc (v := v18) (lv' := [(4, .int v18), (5, .int r15), (0, .ref (ad 0)), (2, .int x2), (3, .int x3)]) hx hb dX10_decode_91 hl (k := 4) rfl (by rw [ev18]; rfl) (by decide) rfl (fun ls hl => ?_)
            refine lv_goto (tgt := 10) hx hb dX10_decode_94 (by decide) ?_
            exact ih x2 x3 v18 M17 hw _ _ _ hW (lv_sub hl [2, 3, 4, 0] rfl)
          · have hw := hw.2 c16
            try dsimp only at hw
            refine lv_aload_n hx hb dX10_decode_76 rfl (lv_at hl 1 rfl) ?_
            refine r_get C0 hin hW 18 (by decide) (v := .ref (ad 12)) rfl (List.mem_of_getElem? (i := 3) rfl) rfl dX10_decode_77 ?_
            refine lv_iload hx hb dX10_decode_80 (lv_at hl 4 rfl) ?_
            obtain ⟨h19, hw⟩ := hw
            refine r_iald C0 hW 12 rfl rfl h19 dX10_decode_82 ?_
            exact hret (M14 12 x4.toNatClampNeg) M14 _ _ 0 0 (Nat.le_refl _) (Nat.le_refl _) hw rfl dX10_decode_83 _ _ _ hW hl
      · have hw := hw.2 c6
        try dsimp only at hw
        refine lv_aload_n hx hb dX10_decode_28 rfl (lv_at hl 0 rfl) ?_
        refine lv_iload_n hx hb dX10_decode_29 rfl (lv_at hl 2 rfl) ?_
        refine lv_aload_n hx hb dX10_decode_30 rfl (lv_at hl 0 rfl) ?_
        refine r_get C0 hin hW 17 (by decide) (v := .ref (ad 11)) rfl (List.mem_of_getElem? (i := 2) rfl) rfl dX10_decode_31 ?_
        refine lv_iload hx hb dX10_decode_34 (lv_at hl 3 rfl) ?_
        obtain ⟨h20, hw⟩ := hw
        refine r_iald C0 hW 11 rfl rfl h20 dX10_decode_36 ?_
        refine g_callv (cw0 := fun M => rcells cI cZ ad M Y) (M := M) (As := [.int x3, .int (M 11 x4.toNatClampNeg)]) (rest := []) C0 hW hl.1 (k_addSign (l := l) _ x3 (M 11 x4.toNatClampNeg) _ hw) (cwV 2 hts gX10_decode_X10_addSign rfl rfl rfl (by decide +kernel) ⟨Nat.le_of_ble_eq_true rfl, Nat.le_of_ble_eq_true rfl⟩) (r_recv C0 hW) (Nat.le_of_ble_eq_true rfl) dX10_decode_37 rfl ⟨Nat.le_of_ble_eq_true rfl, Nat.le_of_ble_eq_true rfl⟩ (fun M21 H locs hw hW => ?_)
        try dsimp only at hw
        obtain ⟨v22, ev22⟩ : ∃ y : Int32, y = x4 + 1 := ⟨_, rfl⟩
        have hw := hw v22 ev22
        refine lv_iinc (v := v22) (lv' := [(4, .int v22), (0, .ref (ad 0)), (2, .int x2), (3, .int x3)]) hx hb dX10_decode_40 hl (k := 3) rfl (by rw [ev22]; rfl) (by decide) rfl (fun ls hl => ?_)
        refine lv_goto (tgt := 10) hx hb dX10_decode_43 (by decide) ?_
        exact ih x2 x3 v22 M21 hw _ _ _ hW (lv_sub hl [1, 2, 3, 0] rfl)
set_option maxHeartbeats 4000000 in
set_option maxRecDepth 100000 in
theorem t_decode_0 (C0 : rX p s m args c cX10_decode 6 RX10 wsX10_decode D ((cI, .int) :: (cZ, .boolean) :: ty') A) (post : Int32 → RM → Prop) (hret : ∀ (r : Int32) (M' : RM) (pc : Nat) (lv : List (Nat × Value)) (k n : Nat), k ≤ 0 → n ≤ 0 → post r M' → narrow .int (.int r) = .int r → decode cX10_decode pc = .ok (.ireturn, 1) → gG p l e rm_decode s m args below meth c Q D A 6 k n (rcells cI cZ ad M' Y) pc lv [.int r])  : ∀  (a1 a2 a3 : Int32) (M : RM), w_decode post   a1 a2 a3 M → gG p l e rm_decode s m args below meth c Q D A 6 0 0 (rcells cI cZ ad M Y) 0 [(0, .ref (ad 0)), (1, .int a1), (2, .int a2), (3, .int a3)] [] := by
  obtain ⟨hx, hb, hml, ho, hts, hK, hA⟩ := id C0
  have hin := in_decode
  intro a1 a2 a3 M hw H locs ls hW hl
  rw [w_decode] at hw
  refine lv_aload_n hx hb dX10_decode_0 rfl (lv_at hl 0 rfl) ?_
  refine r_get C0 hin hW 0 (by decide) (v := .ref (ad 1)) rfl (List.mem_of_getElem? (i := 1) rfl) rfl dX10_decode_1 ?_
  refine lv_iload_n hx hb dX10_decode_4 rfl (lv_at hl 3 rfl) ?_
  refine lv_iconst (v := 0) hx hb dX10_decode_5 (by decide) ?_
  obtain ⟨h1, hw⟩ := hw
  refine r_iast C0 hW 1 rfl rfl h1 rfl dX10_decode_6 (fun M2 H locs eM2 hW => ?_)
  have hw := hw M2 eM2
  refine lv_iload_n hx hb dX10_decode_7 rfl (lv_at hl 1 rfl) ?_
  refine lv_istore (lv' := [(4, .int a1), (0, .ref (ad 0)), (1, .int a1), (2, .int a2), (3, .int a3)]) hx hb dX10_decode_8 hl (by decide) rfl (fun ls hl => ?_)
  obtain ⟨n3, hw⟩ := hw
  exact t_decode_10 C0 post hret  n3 a2 a3 a1 M2 hw _ _ _ hW (lv_sub hl [1, 3, 4, 0] rfl)
set_option maxHeartbeats 4000000 in
set_option maxRecDepth 100000 in
theorem k_decode {l : Launch} {D : va_G} {cI cZ : ClassId} {ty' : List (ClassId × FieldType)} {ad : Nat → Nat} {Y : va_W} {sz : Nat} (post : Int32 → RM → Prop) (a1 a2 a3 : Int32) (M : RM) (hw : w_decode post a1 a2 a3 M) : gMi l yX10_decode wsX10_decode rm_decode D ((cI, .int) :: (cZ, .boolean) :: ty') sz (fun M => rcells cI cZ ad M Y) M [.ref (ad 0), .int a1, .int a2, .int a3] post 0 0 := by
  refine gMi_of (cc := cX10_decode) (nL := 6) (ty := .int) (own := RX10) (by decide) rfl rfl (Nat.le_of_ble_eq_true rfl) ?_
  intro p e s m args below meth c A Q C0 hret
  exact t_decode_0 C0 post hret a1 a2 a3 M hw
abbrev rm_layKeyAndValue : Room := { frames := 3, cells := 0, slots := 0, locals := 70 }
theorem in_layKeyAndValue : ∀ w ∈ wsX100, w ∈ wsX10_layKeyAndValue := fun w hw => List.mem_cons_of_mem _ (List.mem_append_right _ hw)
set_option maxHeartbeats 4000000 in
set_option maxRecDepth 100000 in
theorem t_layKeyAndValue_0 (C0 : rX p s m args c cX10_layKeyAndValue 3 RX10 wsX10_layKeyAndValue D ((cI, .int) :: (cZ, .boolean) :: ty') A) (post : Int32 → RM → Prop) (hret : ∀ (r : Int32) (M' : RM) (pc : Nat) (lv : List (Nat × Value)) (k n : Nat), k ≤ 0 → n ≤ 0 → post r M' → narrow .int (.int r) = .int r → decode cX10_layKeyAndValue pc = .ok (.ireturn, 1) → gG p l e rm_layKeyAndValue s m args below meth c Q D A 3 k n (rcells cI cZ ad M' Y) pc lv [.int r])  : ∀  (M : RM), w_layKeyAndValue post    M → gG p l e rm_layKeyAndValue s m args below meth c Q D A 3 0 0 (rcells cI cZ ad M Y) 0 [(0, .ref (ad 0))] [] := by
  obtain ⟨hx, hb, hml, ho, hts, hK, hA⟩ := id C0
  have hin := in_layKeyAndValue
  intro  M hw H locs ls hW hl
  rw [w_layKeyAndValue] at hw
  refine lv_aload_n hx hb dX10_layKeyAndValue_0 rfl (lv_at hl 0 rfl) ?_
  refine g_calli (cw0 := fun M => rcells cI cZ ad M Y) (M := M) (As := []) (rest := []) C0 hW hl.1 (k_keyEnd (l := l) _  _ hw) (cwV 0 hts gX10_layKeyAndValue_X10_keyEnd rfl rfl rfl (by decide +kernel) ⟨Nat.le_of_ble_eq_true rfl, Nat.le_of_ble_eq_true rfl⟩) (r_recv C0 hW) (Nat.le_of_ble_eq_true rfl) dX10_layKeyAndValue_1 rfl ⟨Nat.le_of_ble_eq_true rfl, Nat.le_of_ble_eq_true rfl⟩ (fun r2 M1 H locs hw hW => ?_)
  try dsimp only at hw
  refine lv_istore_n (lv' := [(1, .int r2), (0, .ref (ad 0))]) hx hb dX10_layKeyAndValue_4 rfl hl (by decide) rfl (fun ls hl => ?_)
  refine lv_aload_n hx hb dX10_layKeyAndValue_5 rfl (lv_at hl 1 rfl) ?_
  refine lv_iconst (v := 0) hx hb dX10_layKeyAndValue_6 (by decide) ?_
  refine lv_iload_n hx hb dX10_layKeyAndValue_7 rfl (lv_at hl 0 rfl) ?_
  refine lv_sipush (v := 1806) hx hb dX10_layKeyAndValue_8 (by decide) ?_
  refine g_calli (cw0 := fun M => rcells cI cZ ad M Y) (M := M1) (As := [.int 0, .int r2, .int 1806]) (rest := []) C0 hW hl.1 (k_decode (l := l) _ 0 r2 1806 _ hw) (cwV 3 hts gX10_layKeyAndValue_X10_decode rfl rfl rfl (by decide +kernel) ⟨Nat.le_of_ble_eq_true rfl, Nat.le_of_ble_eq_true rfl⟩) (r_recv C0 hW) (Nat.le_of_ble_eq_true rfl) dX10_layKeyAndValue_11 rfl ⟨Nat.le_of_ble_eq_true rfl, Nat.le_of_ble_eq_true rfl⟩ (fun r4 M3 H locs hw hW => ?_)
  try dsimp only at hw
  refine lv_istore_n (lv' := [(2, .int r4), (1, .int r2), (0, .ref (ad 0))]) hx hb dX10_layKeyAndValue_14 rfl hl (by decide) rfl (fun ls hl => ?_)
  refine lv_iload_n hx hb dX10_layKeyAndValue_15 rfl (lv_at hl 0 rfl) ?_
  refine lv_if_lt (tgt := 23) hx hb dX10_layKeyAndValue_16 (by decide) (fun c5 => ?_) (fun c5 => ?_)
  · have hw := hw.1 c5
    try dsimp only at hw
    refine lv_aload_n hx hb dX10_layKeyAndValue_23 rfl (lv_at hl 2 rfl) ?_
    refine lv_aload_n hx hb dX10_layKeyAndValue_24 rfl (lv_at hl 2 rfl) ?_
    refine lv_iload_n hx hb dX10_layKeyAndValue_25 rfl (lv_at hl 1 rfl) ?_
    refine g_calli (cw0 := fun M => rcells cI cZ ad M Y) (M := M3) (As := [.int r2]) (rest := [.ref (ad 0)]) C0 hW hl.1 (k_valueBegin (l := l) _ r2 _ hw) (cwV 1 hts gX10_layKeyAndValue_X10_valueBegin rfl rfl rfl (by decide +kernel) ⟨Nat.le_of_ble_eq_true rfl, Nat.le_of_ble_eq_true rfl⟩) (r_recv C0 hW) (Nat.le_of_ble_eq_true rfl) dX10_layKeyAndValue_26 rfl ⟨Nat.le_of_ble_eq_true rfl, Nat.le_of_ble_eq_true rfl⟩ (fun r7 M6 H locs hw hW => ?_)
    try dsimp only at hw
    refine lv_aload_n hx hb dX10_layKeyAndValue_29 rfl (lv_at hl 2 rfl) ?_
    refine r_get C0 hin hW 19 (by decide) (v := .int (M6 0 7)) rfl (List.mem_of_getElem? (i := 1) rfl) rfl dX10_layKeyAndValue_30 ?_
    refine lv_sipush (v := 2107) hx hb dX10_layKeyAndValue_33 (by decide) ?_
    refine g_calli (cw0 := fun M => rcells cI cZ ad M Y) (M := M6) (As := [.int r7, .int (M6 0 7), .int 2107]) (rest := []) C0 hW hl.1 (k_decode (l := l) _ r7 (M6 0 7) 2107 _ hw) (cwV 3 hts gX10_layKeyAndValue_X10_decode rfl rfl rfl (by decide +kernel) ⟨Nat.le_of_ble_eq_true rfl, Nat.le_of_ble_eq_true rfl⟩) (r_recv C0 hW) (Nat.le_of_ble_eq_true rfl) dX10_layKeyAndValue_36 rfl ⟨Nat.le_of_ble_eq_true rfl, Nat.le_of_ble_eq_true rfl⟩ (fun r9 M8 H locs hw hW => ?_)
    try dsimp only at hw
    exact hret r9 M8 _ _ 0 0 (Nat.le_refl _) (Nat.le_refl _) hw rfl dX10_layKeyAndValue_39 _ _ _ hW hl
  · have hw := hw.2 c5
    try dsimp only at hw
    refine lv_iload_n hx hb dX10_layKeyAndValue_19 rfl (lv_at hl 0 rfl) ?_
    refine lv_goto (tgt := 39) hx hb dX10_layKeyAndValue_20 (by decide) ?_
    exact hret r4 M3 _ _ 0 0 (Nat.le_refl _) (Nat.le_refl _) hw rfl dX10_layKeyAndValue_39 _ _ _ hW hl
set_option maxHeartbeats 4000000 in
set_option maxRecDepth 100000 in
theorem k_layKeyAndValue {l : Launch} {D : va_G} {cI cZ : ClassId} {ty' : List (ClassId × FieldType)} {ad : Nat → Nat} {Y : va_W} {sz : Nat} (post : Int32 → RM → Prop) (M : RM) (hw : w_layKeyAndValue post  M) : gMi l yX10_layKeyAndValue wsX10_layKeyAndValue rm_layKeyAndValue D ((cI, .int) :: (cZ, .boolean) :: ty') sz (fun M => rcells cI cZ ad M Y) M [.ref (ad 0)] post 0 0 := by
  refine gMi_of (cc := cX10_layKeyAndValue) (nL := 3) (ty := .int) (own := RX10) (by decide) rfl rfl (Nat.le_of_ble_eq_true rfl) ?_
  intro p e s m args below meth c A Q C0 hret
  exact t_layKeyAndValue_0 C0 post hret  M hw
abbrev rm_firstBroken : Room := { frames := 4, cells := 0, slots := 0, locals := 92 }
theorem in_firstBroken : ∀ w ∈ wsX100, w ∈ wsX10_firstBroken := fun w hw => List.mem_cons_of_mem _ (List.mem_append_right _ hw)
set_option maxHeartbeats 4000000 in
set_option maxRecDepth 100000 in
theorem t_firstBroken_5 (C0 : rX p s m args c cX10_firstBroken 3 RX10 wsX10_firstBroken D ((cI, .int) :: (cZ, .boolean) :: ty') A) (post : Int32 → RM → Prop) (hret : ∀ (r : Int32) (M' : RM) (pc : Nat) (lv : List (Nat × Value)) (k n : Nat), k ≤ 0 → n ≤ 0 → post r M' → narrow .int (.int r) = .int r → decode cX10_firstBroken pc = .ok (.ireturn, 1) → gG p l e rm_firstBroken s m args below meth c Q D A 3 k n (rcells cI cZ ad M' Y) pc lv [.int r])  : ∀ (nf : Nat) (x1 x2 : Int32) (M : RM), w_firstBroken_5 post  nf x1 x2 M → gG p l e rm_firstBroken s m args below meth c Q D A 3 0 0 (rcells cI cZ ad M Y) 5 [(0, .ref (ad 0)), (1, .int x1), (2, .int x2)] [] := by
  obtain ⟨hx, hb, hml, ho, hts, hK, hA⟩ := id C0
  have hin := in_firstBroken
  intro nf
  induction nf with
  | zero => intro x1 x2 M hw; exact hw.elim
  | succ nf ih =>
    intro x1 x2 M hw H locs ls hW hl
    rw [w_firstBroken_5] at hw
    refine lv_iload_n hx hb dX10_firstBroken_5 rfl (lv_at hl 1 rfl) ?_
    refine lv_bipush (v := (-5)) hx hb dX10_firstBroken_6 (by decide) ?_
    refine lv_icmp_eq (tgt := 41) hx hb dX10_firstBroken_8 (by decide) (fun c2 => ?_) (fun c2 => ?_)
    · have hw := hw.1 c2
      try dsimp only at hw
      refine lv_iload_n hx hb dX10_firstBroken_41 rfl (lv_at hl 2 rfl) ?_
      exact hret x2 M _ _ 0 0 (Nat.le_refl _) (Nat.le_refl _) hw rfl dX10_firstBroken_42 _ _ _ hW hl
    · have hw := hw.2 c2
      try dsimp only at hw
      refine lv_iload_n hx hb dX10_firstBroken_11 rfl (lv_at hl 2 rfl) ?_
      refine lv_if_ge (tgt := 41) hx hb dX10_firstBroken_12 (by decide) (fun c3 => ?_) (fun c3 => ?_)
      · have hw := hw.1 c3
        try dsimp only at hw
        refine lv_iload_n hx hb dX10_firstBroken_41 rfl (lv_at hl 2 rfl) ?_
        exact hret x2 M _ _ 0 0 (Nat.le_refl _) (Nat.le_refl _) hw rfl dX10_firstBroken_42 _ _ _ hW hl
      · have hw := hw.2 c3
        try dsimp only at hw
        refine lv_aload_n hx hb dX10_firstBroken_15 rfl (lv_at hl 0 rfl) ?_
        refine lv_iload_n hx hb dX10_firstBroken_16 rfl (lv_at hl 1 rfl) ?_
        refine g_calli (cw0 := fun M => rcells cI cZ ad M Y) (M := M) (As := [.int x1]) (rest := []) C0 hW hl.1 (k_layEntry (l := l) _ x1 _ hw) (cwV 1 hts gX10_firstBroken_X10_layEntry rfl rfl rfl (by decide +kernel) ⟨Nat.le_of_ble_eq_true rfl, Nat.le_of_ble_eq_true rfl⟩) (r_recv C0 hW) (Nat.le_of_ble_eq_true rfl) dX10_firstBroken_17 rfl ⟨Nat.le_of_ble_eq_true rfl, Nat.le_of_ble_eq_true rfl⟩ (fun r5 M4 H locs hw hW => ?_)
        try dsimp only at hw
        refine lv_istore_n (lv' := [(1, .int r5), (0, .ref (ad 0)), (2, .int x2)]) hx hb dX10_firstBroken_20 rfl hl (by decide) rfl (fun ls hl => ?_)
        refine lv_aload_n hx hb dX10_firstBroken_21 rfl (lv_at hl 1 rfl) ?_
        refine r_get C0 hin hW 19 (by decide) (v := .int (M4 0 7)) rfl (List.mem_of_getElem? (i := 1) rfl) rfl dX10_firstBroken_22 ?_
        refine lv_if_le (tgt := 35) hx hb dX10_firstBroken_25 (by decide) (fun c6 => ?_) (fun c6 => ?_)
        · have hw := hw.1 c6
          try dsimp only at hw
          refine lv_bipush (v := (-5)) hx hb dX10_firstBroken_35 (by decide) ?_
          refine lv_istore_n (lv' := [(2, .int (-5)), (1, .int r5), (0, .ref (ad 0))]) hx hb dX10_firstBroken_37 rfl hl (by decide) rfl (fun ls hl => ?_)
          refine lv_goto (tgt := 5) hx hb dX10_firstBroken_38 (by decide) ?_
          exact ih r5 (-5) M4 hw _ _ _ hW (lv_sub hl [2, 1, 0] rfl)
        · have hw := hw.2 c6
          try dsimp only at hw
          refine lv_aload_n hx hb dX10_firstBroken_28 rfl (lv_at hl 1 rfl) ?_
          refine g_calli (cw0 := fun M => rcells cI cZ ad M Y) (M := M4) (As := []) (rest := []) C0 hW hl.1 (k_layKeyAndValue (l := l) _  _ hw) (cwV 0 hts gX10_firstBroken_X10_layKeyAndValue rfl rfl rfl (by decide +kernel) ⟨Nat.le_of_ble_eq_true rfl, Nat.le_of_ble_eq_true rfl⟩) (r_recv C0 hW) (Nat.le_of_ble_eq_true rfl) dX10_firstBroken_29 rfl ⟨Nat.le_of_ble_eq_true rfl, Nat.le_of_ble_eq_true rfl⟩ (fun r8 M7 H locs hw hW => ?_)
          try dsimp only at hw
          refine lv_goto (tgt := 37) hx hb dX10_firstBroken_32 (by decide) ?_
          refine lv_istore_n (lv' := [(2, .int r8), (1, .int r5), (0, .ref (ad 0))]) hx hb dX10_firstBroken_37 rfl hl (by decide) rfl (fun ls hl => ?_)
          refine lv_goto (tgt := 5) hx hb dX10_firstBroken_38 (by decide) ?_
          exact ih r5 r8 M7 hw _ _ _ hW (lv_sub hl [2, 1, 0] rfl)
set_option maxHeartbeats 4000000 in
set_option maxRecDepth 100000 in
theorem t_firstBroken_0 (C0 : rX p s m args c cX10_firstBroken 3 RX10 wsX10_firstBroken D ((cI, .int) :: (cZ, .boolean) :: ty') A) (post : Int32 → RM → Prop) (hret : ∀ (r : Int32) (M' : RM) (pc : Nat) (lv : List (Nat × Value)) (k n : Nat), k ≤ 0 → n ≤ 0 → post r M' → narrow .int (.int r) = .int r → decode cX10_firstBroken pc = .ok (.ireturn, 1) → gG p l e rm_firstBroken s m args below meth c Q D A 3 k n (rcells cI cZ ad M' Y) pc lv [.int r])  : ∀  (M : RM), w_firstBroken post    M → gG p l e rm_firstBroken s m args below meth c Q D A 3 0 0 (rcells cI cZ ad M Y) 0 [(0, .ref (ad 0))] [] := by
  obtain ⟨hx, hb, hml, ho, hts, hK, hA⟩ := id C0
  have hin := in_firstBroken
  intro  M hw H locs ls hW hl
  rw [w_firstBroken] at hw
  refine lv_iconst (v := 0) hx hb dX10_firstBroken_0 (by decide) ?_
  refine lv_istore_n (lv' := [(1, .int 0), (0, .ref (ad 0))]) hx hb dX10_firstBroken_1 rfl hl (by decide) rfl (fun ls hl => ?_)
  refine lv_bipush (v := (-5)) hx hb dX10_firstBroken_2 (by decide) ?_
  refine lv_istore_n (lv' := [(2, .int (-5)), (1, .int 0), (0, .ref (ad 0))]) hx hb dX10_firstBroken_4 rfl hl (by decide) rfl (fun ls hl => ?_)
  obtain ⟨n1, hw⟩ := hw
  exact t_firstBroken_5 C0 post hret  n1 0 (-5) M hw _ _ _ hW (lv_sub hl [2, 1, 0] rfl)
set_option maxHeartbeats 4000000 in
set_option maxRecDepth 100000 in
theorem k_firstBroken {l : Launch} {D : va_G} {cI cZ : ClassId} {ty' : List (ClassId × FieldType)} {ad : Nat → Nat} {Y : va_W} {sz : Nat} (post : Int32 → RM → Prop) (M : RM) (hw : w_firstBroken post  M) : gMi l yX10_firstBroken wsX10_firstBroken rm_firstBroken D ((cI, .int) :: (cZ, .boolean) :: ty') sz (fun M => rcells cI cZ ad M Y) M [.ref (ad 0)] post 0 0 := by
  refine gMi_of (cc := cX10_firstBroken) (nL := 3) (ty := .int) (own := RX10) (by decide) rfl rfl (Nat.le_of_ble_eq_true rfl) ?_
  intro p e s m args below meth c A Q C0 hret
  exact t_firstBroken_0 C0 post hret  M hw
abbrev rm_brokenAt : Room := { frames := 5, cells := 0, slots := 0, locals := 114 }
theorem in_brokenAt : ∀ w ∈ wsX100, w ∈ wsX10_brokenAt := fun w hw => List.mem_cons_of_mem _ (List.mem_append_right _ hw)
set_option maxHeartbeats 4000000 in
set_option maxRecDepth 100000 in
theorem t_brokenAt_0 (C0 : rX p s m args c cX10_brokenAt 1 RX10 wsX10_brokenAt D ((cI, .int) :: (cZ, .boolean) :: ty') A) (post : Int32 → RM → Prop) (hret : ∀ (r : Int32) (M' : RM) (pc : Nat) (lv : List (Nat × Value)) (k n : Nat), k ≤ 0 → n ≤ 0 → post r M' → narrow .int (.int r) = .int r → decode cX10_brokenAt pc = .ok (.ireturn, 1) → gG p l e rm_brokenAt s m args below meth c Q D A 1 k n (rcells cI cZ ad M' Y) pc lv [.int r])  : ∀  (M : RM), w_brokenAt post    M → gG p l e rm_brokenAt s m args below meth c Q D A 1 0 0 (rcells cI cZ ad M Y) 0 [(0, .ref (ad 0))] [] := by
  obtain ⟨hx, hb, hml, ho, hts, hK, hA⟩ := id C0
  have hin := in_brokenAt
  intro  M hw H locs ls hW hl
  rw [w_brokenAt] at hw
  refine lv_aload_n hx hb dX10_brokenAt_0 rfl (lv_at hl 0 rfl) ?_
  refine g_calli (cw0 := fun M => rcells cI cZ ad M Y) (M := M) (As := []) (rest := []) C0 hW hl.1 (k_firstBroken (l := l) _  _ hw) (cwV 0 hts gX10_brokenAt_X10_firstBroken rfl rfl rfl (by decide +kernel) ⟨Nat.le_of_ble_eq_true rfl, Nat.le_of_ble_eq_true rfl⟩) (r_recv C0 hW) (Nat.le_of_ble_eq_true rfl) dX10_brokenAt_1 rfl ⟨Nat.le_of_ble_eq_true rfl, Nat.le_of_ble_eq_true rfl⟩ (fun r2 M1 H locs hw hW => ?_)
  try dsimp only at hw
  exact hret r2 M1 _ _ 0 0 (Nat.le_refl _) (Nat.le_refl _) hw rfl dX10_brokenAt_4 _ _ _ hW hl
set_option maxHeartbeats 4000000 in
set_option maxRecDepth 100000 in
theorem k_brokenAt {l : Launch} {D : va_G} {cI cZ : ClassId} {ty' : List (ClassId × FieldType)} {ad : Nat → Nat} {Y : va_W} {sz : Nat} (post : Int32 → RM → Prop) (M : RM) (hw : w_brokenAt post  M) : gMi l yX10_brokenAt wsX10_brokenAt rm_brokenAt D ((cI, .int) :: (cZ, .boolean) :: ty') sz (fun M => rcells cI cZ ad M Y) M [.ref (ad 0)] post 0 0 := by
  refine gMi_of (cc := cX10_brokenAt) (nL := 1) (ty := .int) (own := RX10) (by decide) rfl rfl (Nat.le_of_ble_eq_true rfl) ?_
  intro p e s m args below meth c A Q C0 hret
  exact t_brokenAt_0 C0 post hret  M hw
abbrev rm_entryOf : Room := { frames := 0, cells := 0, slots := 0, locals := 0 }
set_option maxHeartbeats 4000000 in
set_option maxRecDepth 100000 in
theorem k_entryOf {l : Launch} (post : Int32 → Prop) (a1 a2 : Int32) (hw : q_entryOf post a1 a2) : gMs l yX10_entryOf wsX10_entryOf rm_entryOf [.int a1, .int a2] post := by
  refine gMs_of (cc := cX10_entryOf) (nL := 2) (ty := .int) (own := RX10) (by decide) rfl rfl (Nat.le_of_ble_eq_true rfl) ?_
  intro p e s m args below meth c Q hx hb hml ho hts hret ls hl
  rw [q_entryOf] at hw
  refine lv_sipush (v := 8100) hx hb dX10_entryOf_0 (by decide) ?_
  refine lv_sipush (v := 24080) hx hb dX10_entryOf_3 (by decide) ?_
  refine lv_iload_n hx hb dX10_entryOf_6 rfl (lv_at hl 0 rfl) ?_
  refine lv_imul hx hb dX10_entryOf_7 ?_
  refine lv_iadd hx hb dX10_entryOf_8 ?_
  refine lv_sipush (v := 602) hx hb dX10_entryOf_9 (by decide) ?_
  refine lv_iload_n hx hb dX10_entryOf_12 rfl (lv_at hl 1 rfl) ?_
  refine lv_imul hx hb dX10_entryOf_13 ?_
  refine lv_iadd hx hb dX10_entryOf_14 ?_
  exact hret ((8100 + (24080 * a1)) + (602 * a2)) _ _ hw rfl dX10_entryOf_15
abbrev rm_valueOf : Room := { frames := 1, cells := 0, slots := 0, locals := 21 }
set_option maxHeartbeats 4000000 in
set_option maxRecDepth 100000 in
theorem k_valueOf {l : Launch} (post : Int32 → Prop) (a1 a2 : Int32) (hw : q_valueOf post a1 a2) : gMs l yX10_valueOf wsX10_valueOf rm_valueOf [.int a1, .int a2] post := by
  refine gMs_of (cc := cX10_valueOf) (nL := 2) (ty := .int) (own := RX10) (by decide) rfl rfl (Nat.le_of_ble_eq_true rfl) ?_
  intro p e s m args below meth c Q hx hb hml ho hts hret ls hl
  rw [q_valueOf] at hw
  refine lv_iload_n hx hb dX10_valueOf_0 rfl (lv_at hl 0 rfl) ?_
  refine lv_iload_n hx hb dX10_valueOf_1 rfl (lv_at hl 1 rfl) ?_
  refine g_calls (As := [.int a1, .int a2]) (rest := []) ⟨hx, hb, hml, ho, hts⟩ hl.1 (k_entryOf (l := l) _ a1 a2 hw) (va_cwS 2 hts gX10_valueOf_X10_entryOf rfl rfl rfl (by decide +kernel) ⟨Nat.le_of_ble_eq_true rfl, Nat.le_of_ble_eq_true rfl⟩) (Nat.le_of_ble_eq_true rfl) dX10_valueOf_2 rfl ⟨Nat.le_of_ble_eq_true rfl, Nat.le_of_ble_eq_true rfl⟩ (fun r1 hw => ?_)
  try dsimp only at hw
  refine lv_sipush (v := 301) hx hb dX10_valueOf_5 (by decide) ?_
  refine lv_iadd hx hb dX10_valueOf_8 ?_
  exact hret (r1 + 301) _ _ hw rfl dX10_valueOf_9
abbrev rm_placeOf : Room := { frames := 1, cells := 0, slots := 0, locals := 24 }
theorem in_placeOf : ∀ w ∈ wsX100, w ∈ wsX10_placeOf := fun w hw => List.mem_cons_of_mem _ (List.mem_append_right _ hw)
set_option maxHeartbeats 4000000 in
set_option maxRecDepth 100000 in
theorem t_placeOf_2 (C0 : rX p s m args c cX10_placeOf 4 RX10 wsX10_placeOf D ((cI, .int) :: (cZ, .boolean) :: ty') A) (post : Int32 → RM → Prop) (hret : ∀ (r : Int32) (M' : RM) (pc : Nat) (lv : List (Nat × Value)) (k n : Nat), k ≤ 0 → n ≤ 0 → post r M' → narrow .int (.int r) = .int r → decode cX10_placeOf pc = .ok (.ireturn, 1) → gG p l e rm_placeOf s m args below meth c Q D A 4 k n (rcells cI cZ ad M' Y) pc lv [.int r])  : ∀ (nf : Nat) (x1 x2 x3 : Int32) (M : RM), w_placeOf_2 post  nf x1 x2 x3 M → gG p l e rm_placeOf s m args below meth c Q D A 4 0 0 (rcells cI cZ ad M Y) 2 [(0, .ref (ad 0)), (1, .int x1), (2, .int x2), (3, .int x3)] [] := by
  obtain ⟨hx, hb, hml, ho, hts, hK, hA⟩ := id C0
  have hin := in_placeOf
  intro nf
  induction nf with
  | zero => intro x1 x2 x3 M hw; exact hw.elim
  | succ nf ih =>
    intro x1 x2 x3 M hw H locs ls hW hl
    rw [w_placeOf_2] at hw
    refine lv_iload_n hx hb dX10_placeOf_2 rfl (lv_at hl 3 rfl) ?_
    refine lv_aload_n hx hb dX10_placeOf_3 rfl (lv_at hl 0 rfl) ?_
    refine r_get C0 hin hW 1 (by decide) (v := .ref (ad 2)) rfl (List.mem_of_getElem? (i := 1) rfl) rfl dX10_placeOf_4 ?_
    refine lv_iload_n hx hb dX10_placeOf_7 rfl (lv_at hl 1 rfl) ?_
    obtain ⟨h2, hw⟩ := hw
    refine r_iald C0 hW 2 rfl rfl h2 dX10_placeOf_8 ?_
    refine lv_icmp_ge (tgt := 31) hx hb dX10_placeOf_9 (by decide) (fun c3 => ?_) (fun c3 => ?_)
    · have hw := hw.1 c3
      try dsimp only at hw
      refine lv_iload_n hx hb dX10_placeOf_31 rfl (lv_at hl 3 rfl) ?_
      exact hret x3 M _ _ 0 0 (Nat.le_refl _) (Nat.le_refl _) hw rfl dX10_placeOf_32 _ _ _ hW hl
    · have hw := hw.2 c3
      try dsimp only at hw
      refine lv_aload_n hx hb dX10_placeOf_12 rfl (lv_at hl 0 rfl) ?_
      refine lv_iload_n hx hb dX10_placeOf_13 rfl (lv_at hl 1 rfl) ?_
      refine lv_iload_n hx hb dX10_placeOf_14 rfl (lv_at hl 3 rfl) ?_
      refine g_calls (As := [.int x1, .int x3]) (rest := [.ref (ad 0)]) ⟨hx, hb, hml, ho, hts⟩ hl.1 (k_entryOf (l := l) _ x1 x3 hw) (va_cwS 2 hts gX10_placeOf_X10_entryOf rfl rfl rfl (by decide +kernel) ⟨Nat.le_of_ble_eq_true rfl, Nat.le_of_ble_eq_true rfl⟩) (Nat.le_of_ble_eq_true rfl) dX10_placeOf_15 rfl ⟨Nat.le_of_ble_eq_true rfl, Nat.le_of_ble_eq_true rfl⟩ (fun r4 hw => ?_)
      try dsimp only at hw
      refine lv_iload_n hx hb dX10_placeOf_18 rfl (lv_at hl 2 rfl) ?_
      refine g_calli (cw0 := fun M => rcells cI cZ ad M Y) (M := M) (As := [.int r4, .int x2]) (rest := []) C0 hW hl.1 (k_compare (l := l) _ r4 x2 _ hw) (cwV 2 hts gX10_placeOf_X10_compare rfl rfl rfl (by decide +kernel) ⟨Nat.le_of_ble_eq_true rfl, Nat.le_of_ble_eq_true rfl⟩) (r_recv C0 hW) (Nat.le_of_ble_eq_true rfl) dX10_placeOf_19 rfl ⟨Nat.le_of_ble_eq_true rfl, Nat.le_of_ble_eq_true rfl⟩ (fun r6 M5 H locs hw hW => ?_)
      try dsimp only at hw
      refine lv_if_ge (tgt := 31) hx hb dX10_placeOf_22 (by decide) (fun c7 => ?_) (fun c7 => ?_)
      · have hw := hw.1 c7
        try dsimp only at hw
        refine lv_iload_n hx hb dX10_placeOf_31 rfl (lv_at hl 3 rfl) ?_
        exact hret x3 M5 _ _ 0 0 (Nat.le_refl _) (Nat.le_refl _) hw rfl dX10_placeOf_32 _ _ _ hW hl
      · have hw := hw.2 c7
        try dsimp only at hw
        obtain ⟨v8, ev8⟩ : ∃ y : Int32, y = x3 + 1 := ⟨_, rfl⟩
        have hw := hw v8 ev8
        refine lv_iinc (v := v8) (lv' := [(3, .int v8), (0, .ref (ad 0)), (1, .int x1), (2, .int x2)]) hx hb dX10_placeOf_25 hl (k := 3) rfl (by rw [ev8]; rfl) (by decide) rfl (fun ls hl => ?_)
        refine lv_goto (tgt := 2) hx hb dX10_placeOf_28 (by decide) ?_
        exact ih x1 x2 v8 M5 hw _ _ _ hW (lv_sub hl [1, 2, 3, 0] rfl)
set_option maxHeartbeats 4000000 in
set_option maxRecDepth 100000 in
theorem t_placeOf_0 (C0 : rX p s m args c cX10_placeOf 4 RX10 wsX10_placeOf D ((cI, .int) :: (cZ, .boolean) :: ty') A) (post : Int32 → RM → Prop) (hret : ∀ (r : Int32) (M' : RM) (pc : Nat) (lv : List (Nat × Value)) (k n : Nat), k ≤ 0 → n ≤ 0 → post r M' → narrow .int (.int r) = .int r → decode cX10_placeOf pc = .ok (.ireturn, 1) → gG p l e rm_placeOf s m args below meth c Q D A 4 k n (rcells cI cZ ad M' Y) pc lv [.int r])  : ∀  (a1 a2 : Int32) (M : RM), w_placeOf post   a1 a2 M → gG p l e rm_placeOf s m args below meth c Q D A 4 0 0 (rcells cI cZ ad M Y) 0 [(0, .ref (ad 0)), (1, .int a1), (2, .int a2)] [] := by
  obtain ⟨hx, hb, hml, ho, hts, hK, hA⟩ := id C0
  have hin := in_placeOf
  intro a1 a2 M hw H locs ls hW hl
  rw [w_placeOf] at hw
  refine lv_iconst (v := 0) hx hb dX10_placeOf_0 (by decide) ?_
  refine lv_istore_n (lv' := [(3, .int 0), (0, .ref (ad 0)), (1, .int a1), (2, .int a2)]) hx hb dX10_placeOf_1 rfl hl (by decide) rfl (fun ls hl => ?_)
  obtain ⟨n1, hw⟩ := hw
  exact t_placeOf_2 C0 post hret  n1 a1 a2 0 M hw _ _ _ hW (lv_sub hl [1, 2, 3, 0] rfl)
set_option maxHeartbeats 4000000 in
set_option maxRecDepth 100000 in
theorem k_placeOf {l : Launch} {D : va_G} {cI cZ : ClassId} {ty' : List (ClassId × FieldType)} {ad : Nat → Nat} {Y : va_W} {sz : Nat} (post : Int32 → RM → Prop) (a1 a2 : Int32) (M : RM) (hw : w_placeOf post a1 a2 M) : gMi l yX10_placeOf wsX10_placeOf rm_placeOf D ((cI, .int) :: (cZ, .boolean) :: ty') sz (fun M => rcells cI cZ ad M Y) M [.ref (ad 0), .int a1, .int a2] post 0 0 := by
  refine gMi_of (cc := cX10_placeOf) (nL := 4) (ty := .int) (own := RX10) (by decide) rfl rfl (Nat.le_of_ble_eq_true rfl) ?_
  intro p e s m args below meth c A Q C0 hret
  exact t_placeOf_0 C0 post hret a1 a2 M hw
abbrev rm_find : Room := { frames := 2, cells := 0, slots := 0, locals := 47 }
theorem in_find : ∀ w ∈ wsX100, w ∈ wsX10_find := fun w hw => List.mem_cons_of_mem _ (List.mem_append_right _ hw)
set_option maxHeartbeats 4000000 in
set_option maxRecDepth 100000 in
theorem t_find_0 (C0 : rX p s m args c cX10_find 4 RX10 wsX10_find D ((cI, .int) :: (cZ, .boolean) :: ty') A) (post : Int32 → RM → Prop) (hret : ∀ (r : Int32) (M' : RM) (pc : Nat) (lv : List (Nat × Value)) (k n : Nat), k ≤ 0 → n ≤ 0 → post r M' → narrow .int (.int r) = .int r → decode cX10_find pc = .ok (.ireturn, 1) → gG p l e rm_find s m args below meth c Q D A 4 k n (rcells cI cZ ad M' Y) pc lv [.int r])  : ∀  (a1 a2 : Int32) (M : RM), w_find post   a1 a2 M → gG p l e rm_find s m args below meth c Q D A 4 0 0 (rcells cI cZ ad M Y) 0 [(0, .ref (ad 0)), (1, .int a1), (2, .int a2)] [] := by
  obtain ⟨hx, hb, hml, ho, hts, hK, hA⟩ := id C0
  have hin := in_find
  intro a1 a2 M hw H locs ls hW hl
  rw [w_find] at hw
  refine lv_aload_n hx hb dX10_find_0 rfl (lv_at hl 0 rfl) ?_
  refine lv_iload_n hx hb dX10_find_1 rfl (lv_at hl 1 rfl) ?_
  refine lv_iload_n hx hb dX10_find_2 rfl (lv_at hl 2 rfl) ?_
  refine g_calli (cw0 := fun M => rcells cI cZ ad M Y) (M := M) (As := [.int a1, .int a2]) (rest := []) C0 hW hl.1 (k_placeOf (l := l) _ a1 a2 _ hw) (cwV 2 hts gX10_find_X10_placeOf rfl rfl rfl (by decide +kernel) ⟨Nat.le_of_ble_eq_true rfl, Nat.le_of_ble_eq_true rfl⟩) (r_recv C0 hW) (Nat.le_of_ble_eq_true rfl) dX10_find_3 rfl ⟨Nat.le_of_ble_eq_true rfl, Nat.le_of_ble_eq_true rfl⟩ (fun r2 M1 H locs hw hW => ?_)
  try dsimp only at hw
  refine lv_istore_n (lv' := [(3, .int r2), (0, .ref (ad 0)), (1, .int a1), (2, .int a2)]) hx hb dX10_find_6 rfl hl (by decide) rfl (fun ls hl => ?_)
  refine lv_iload_n hx hb dX10_find_7 rfl (lv_at hl 0 rfl) ?_
  refine lv_aload_n hx hb dX10_find_8 rfl (lv_at hl 1 rfl) ?_
  refine r_get C0 hin hW 1 (by decide) (v := .ref (ad 2)) rfl (List.mem_of_getElem? (i := 1) rfl) rfl dX10_find_9 ?_
  refine lv_iload_n hx hb dX10_find_12 rfl (lv_at hl 2 rfl) ?_
  obtain ⟨h3, hw⟩ := hw
  refine r_iald C0 hW 2 rfl rfl h3 dX10_find_13 ?_
  refine lv_icmp_ge (tgt := 34) hx hb dX10_find_14 (by decide) (fun c4 => ?_) (fun c4 => ?_)
  · have hw := hw.1 c4
    try dsimp only at hw
    refine lv_bipush (v := (-5)) hx hb dX10_find_34 (by decide) ?_
    exact hret (-5) M1 _ _ 0 0 (Nat.le_refl _) (Nat.le_refl _) hw rfl dX10_find_36 _ _ _ hW hl
  · have hw := hw.2 c4
    try dsimp only at hw
    refine lv_aload_n hx hb dX10_find_17 rfl (lv_at hl 1 rfl) ?_
    refine lv_iload_n hx hb dX10_find_18 rfl (lv_at hl 2 rfl) ?_
    refine lv_iload_n hx hb dX10_find_19 rfl (lv_at hl 0 rfl) ?_
    refine g_calls (As := [.int a1, .int r2]) (rest := [.ref (ad 0)]) ⟨hx, hb, hml, ho, hts⟩ hl.1 (k_entryOf (l := l) _ a1 r2 hw) (va_cwS 2 hts gX10_find_X10_entryOf rfl rfl rfl (by decide +kernel) ⟨Nat.le_of_ble_eq_true rfl, Nat.le_of_ble_eq_true rfl⟩) (Nat.le_of_ble_eq_true rfl) dX10_find_20 rfl ⟨Nat.le_of_ble_eq_true rfl, Nat.le_of_ble_eq_true rfl⟩ (fun r5 hw => ?_)
    try dsimp only at hw
    refine lv_iload_n hx hb dX10_find_23 rfl (lv_at hl 3 rfl) ?_
    refine g_calli (cw0 := fun M => rcells cI cZ ad M Y) (M := M1) (As := [.int r5, .int a2]) (rest := []) C0 hW hl.1 (k_compare (l := l) _ r5 a2 _ hw) (cwV 2 hts gX10_find_X10_compare rfl rfl rfl (by decide +kernel) ⟨Nat.le_of_ble_eq_true rfl, Nat.le_of_ble_eq_true rfl⟩) (r_recv C0 hW) (Nat.le_of_ble_eq_true rfl) dX10_find_24 rfl ⟨Nat.le_of_ble_eq_true rfl, Nat.le_of_ble_eq_true rfl⟩ (fun r7 M6 H locs hw hW => ?_)
    try dsimp only at hw
    refine lv_if_ne (tgt := 34) hx hb dX10_find_27 (by decide) (fun c8 => ?_) (fun c8 => ?_)
    · have hw := hw.1 c8
      try dsimp only at hw
      refine lv_bipush (v := (-5)) hx hb dX10_find_34 (by decide) ?_
      exact hret (-5) M6 _ _ 0 0 (Nat.le_refl _) (Nat.le_refl _) hw rfl dX10_find_36 _ _ _ hW hl
    · have hw := hw.2 c8
      try dsimp only at hw
      refine lv_iload_n hx hb dX10_find_30 rfl (lv_at hl 0 rfl) ?_
      refine lv_goto (tgt := 36) hx hb dX10_find_31 (by decide) ?_
      exact hret r2 M6 _ _ 0 0 (Nat.le_refl _) (Nat.le_refl _) hw rfl dX10_find_36 _ _ _ hW hl
set_option maxHeartbeats 4000000 in
set_option maxRecDepth 100000 in
theorem k_find {l : Launch} {D : va_G} {cI cZ : ClassId} {ty' : List (ClassId × FieldType)} {ad : Nat → Nat} {Y : va_W} {sz : Nat} (post : Int32 → RM → Prop) (a1 a2 : Int32) (M : RM) (hw : w_find post a1 a2 M) : gMi l yX10_find wsX10_find rm_find D ((cI, .int) :: (cZ, .boolean) :: ty') sz (fun M => rcells cI cZ ad M Y) M [.ref (ad 0), .int a1, .int a2] post 0 0 := by
  refine gMi_of (cc := cX10_find) (nL := 4) (ty := .int) (own := RX10) (by decide) rfl rfl (Nat.le_of_ble_eq_true rfl) ?_
  intro p e s m args below meth c A Q C0 hret
  exact t_find_0 C0 post hret a1 a2 M hw
abbrev rm_copyEntry : Room := { frames := 2, cells := 0, slots := 0, locals := 42 }
theorem in_copyEntry : ∀ w ∈ wsX100, w ∈ wsX10_copyEntry := fun w hw => List.mem_cons_of_mem _ (List.mem_append_right _ hw)
set_option maxHeartbeats 4000000 in
set_option maxRecDepth 100000 in
theorem t_copyEntry_0 (C0 : rX p s m args c cX10_copyEntry 4 RX10 wsX10_copyEntry D ((cI, .int) :: (cZ, .boolean) :: ty') A) (post : RM → Prop) (hret : ∀ (M' : RM) (pc : Nat) (lv : List (Nat × Value)) (k n : Nat), k ≤ 0 → n ≤ 0 → post M' → decode cX10_copyEntry pc = .ok (.return_, 1) → gG p l e rm_copyEntry s m args below meth c Q D A 4 k n (rcells cI cZ ad M' Y) pc lv [])  : ∀  (a1 a2 a3 : Int32) (M : RM), w_copyEntry post   a1 a2 a3 M → gG p l e rm_copyEntry s m args below meth c Q D A 4 0 0 (rcells cI cZ ad M Y) 0 [(0, .ref (ad 0)), (1, .int a1), (2, .int a2), (3, .int a3)] [] := by
  obtain ⟨hx, hb, hml, ho, hts, hK, hA⟩ := id C0
  have hin := in_copyEntry
  intro a1 a2 a3 M hw H locs ls hW hl
  rw [w_copyEntry] at hw
  refine lv_aload_n hx hb dX10_copyEntry_0 rfl (lv_at hl 0 rfl) ?_
  refine lv_iload_n hx hb dX10_copyEntry_1 rfl (lv_at hl 1 rfl) ?_
  refine lv_iload_n hx hb dX10_copyEntry_2 rfl (lv_at hl 2 rfl) ?_
  refine g_calls (As := [.int a1, .int a2]) (rest := [.ref (ad 0)]) ⟨hx, hb, hml, ho, hts⟩ hl.1 (k_entryOf (l := l) _ a1 a2 hw) (va_cwS 2 hts gX10_copyEntry_X10_entryOf rfl rfl rfl (by decide +kernel) ⟨Nat.le_of_ble_eq_true rfl, Nat.le_of_ble_eq_true rfl⟩) (Nat.le_of_ble_eq_true rfl) dX10_copyEntry_3 rfl ⟨Nat.le_of_ble_eq_true rfl, Nat.le_of_ble_eq_true rfl⟩ (fun r1 hw => ?_)
  try dsimp only at hw
  refine lv_iload_n hx hb dX10_copyEntry_6 rfl (lv_at hl 1 rfl) ?_
  refine lv_iload_n hx hb dX10_copyEntry_7 rfl (lv_at hl 3 rfl) ?_
  refine g_calls (As := [.int a1, .int a3]) (rest := [.int r1, .ref (ad 0)]) ⟨hx, hb, hml, ho, hts⟩ hl.1 (k_entryOf (l := l) _ a1 a3 hw) (va_cwS 2 hts gX10_copyEntry_X10_entryOf rfl rfl rfl (by decide +kernel) ⟨Nat.le_of_ble_eq_true rfl, Nat.le_of_ble_eq_true rfl⟩) (Nat.le_of_ble_eq_true rfl) dX10_copyEntry_8 rfl ⟨Nat.le_of_ble_eq_true rfl, Nat.le_of_ble_eq_true rfl⟩ (fun r2 hw => ?_)
  try dsimp only at hw
  refine g_callv (cw0 := fun M => rcells cI cZ ad M Y) (M := M) (As := [.int r1, .int r2]) (rest := []) C0 hW hl.1 (k_copyText (l := l) _ r1 r2 _ hw) (cwV 2 hts gX10_copyEntry_X10_copyText rfl rfl rfl (by decide +kernel) ⟨Nat.le_of_ble_eq_true rfl, Nat.le_of_ble_eq_true rfl⟩) (r_recv C0 hW) (Nat.le_of_ble_eq_true rfl) dX10_copyEntry_11 rfl ⟨Nat.le_of_ble_eq_true rfl, Nat.le_of_ble_eq_true rfl⟩ (fun M3 H locs hw hW => ?_)
  try dsimp only at hw
  refine lv_aload_n hx hb dX10_copyEntry_14 rfl (lv_at hl 0 rfl) ?_
  refine lv_iload_n hx hb dX10_copyEntry_15 rfl (lv_at hl 1 rfl) ?_
  refine lv_iload_n hx hb dX10_copyEntry_16 rfl (lv_at hl 2 rfl) ?_
  refine g_calls (As := [.int a1, .int a2]) (rest := [.ref (ad 0)]) ⟨hx, hb, hml, ho, hts⟩ hl.1 (k_valueOf (l := l) _ a1 a2 hw) (va_cwS 2 hts gX10_copyEntry_X10_valueOf rfl rfl rfl (by decide +kernel) ⟨Nat.le_of_ble_eq_true rfl, Nat.le_of_ble_eq_true rfl⟩) (Nat.le_of_ble_eq_true rfl) dX10_copyEntry_17 rfl ⟨Nat.le_of_ble_eq_true rfl, Nat.le_of_ble_eq_true rfl⟩ (fun r4 hw => ?_)
  try dsimp only at hw
  refine lv_iload_n hx hb dX10_copyEntry_20 rfl (lv_at hl 1 rfl) ?_
  refine lv_iload_n hx hb dX10_copyEntry_21 rfl (lv_at hl 3 rfl) ?_
  refine g_calls (As := [.int a1, .int a3]) (rest := [.int r4, .ref (ad 0)]) ⟨hx, hb, hml, ho, hts⟩ hl.1 (k_valueOf (l := l) _ a1 a3 hw) (va_cwS 2 hts gX10_copyEntry_X10_valueOf rfl rfl rfl (by decide +kernel) ⟨Nat.le_of_ble_eq_true rfl, Nat.le_of_ble_eq_true rfl⟩) (Nat.le_of_ble_eq_true rfl) dX10_copyEntry_22 rfl ⟨Nat.le_of_ble_eq_true rfl, Nat.le_of_ble_eq_true rfl⟩ (fun r5 hw => ?_)
  try dsimp only at hw
  refine g_callv (cw0 := fun M => rcells cI cZ ad M Y) (M := M3) (As := [.int r4, .int r5]) (rest := []) C0 hW hl.1 (k_copyText (l := l) _ r4 r5 _ hw) (cwV 2 hts gX10_copyEntry_X10_copyText rfl rfl rfl (by decide +kernel) ⟨Nat.le_of_ble_eq_true rfl, Nat.le_of_ble_eq_true rfl⟩) (r_recv C0 hW) (Nat.le_of_ble_eq_true rfl) dX10_copyEntry_25 rfl ⟨Nat.le_of_ble_eq_true rfl, Nat.le_of_ble_eq_true rfl⟩ (fun M6 H locs hw hW => ?_)
  try dsimp only at hw
  exact hret M6 _ _ 0 0 (Nat.le_refl _) (Nat.le_refl _) hw dX10_copyEntry_28 _ _ _ hW hl
set_option maxHeartbeats 4000000 in
set_option maxRecDepth 100000 in
theorem k_copyEntry {l : Launch} {D : va_G} {cI cZ : ClassId} {ty' : List (ClassId × FieldType)} {ad : Nat → Nat} {Y : va_W} {sz : Nat} (post : RM → Prop) (a1 a2 a3 : Int32) (M : RM) (hw : w_copyEntry post a1 a2 a3 M) : gMv l yX10_copyEntry wsX10_copyEntry rm_copyEntry D ((cI, .int) :: (cZ, .boolean) :: ty') sz (fun M => rcells cI cZ ad M Y) M [.ref (ad 0), .int a1, .int a2, .int a3] post 0 0 := by
  refine gMv_of (cc := cX10_copyEntry) (nL := 4) (own := RX10) (by decide) rfl rfl (Nat.le_of_ble_eq_true rfl) ?_
  intro p e s m args below meth c A Q C0 hret
  exact t_copyEntry_0 C0 post hret a1 a2 a3 M hw
abbrev rm_copyLayer : Room := { frames := 2, cells := 0, slots := 0, locals := 42 }
theorem in_copyLayer : ∀ w ∈ wsX100, w ∈ wsX10_copyLayer := fun w hw => List.mem_cons_of_mem _ (List.mem_append_right _ hw)
set_option maxHeartbeats 4000000 in
set_option maxRecDepth 100000 in
theorem t_copyLayer_14 (C0 : rX p s m args c cX10_copyLayer 4 RX10 wsX10_copyLayer D ((cI, .int) :: (cZ, .boolean) :: ty') A) (post : RM → Prop) (hret : ∀ (M' : RM) (pc : Nat) (lv : List (Nat × Value)) (k n : Nat), k ≤ 0 → n ≤ 0 → post M' → decode cX10_copyLayer pc = .ok (.return_, 1) → gG p l e rm_copyLayer s m args below meth c Q D A 4 k n (rcells cI cZ ad M' Y) pc lv [])  : ∀ (nf : Nat) (x1 x2 x3 : Int32) (M : RM), w_copyLayer_14 post  nf x1 x2 x3 M → gG p l e rm_copyLayer s m args below meth c Q D A 4 0 0 (rcells cI cZ ad M Y) 14 [(0, .ref (ad 0)), (1, .int x1), (2, .int x2), (3, .int x3)] [] := by
  obtain ⟨hx, hb, hml, ho, hts, hK, hA⟩ := id C0
  have hin := in_copyLayer
  intro nf
  induction nf with
  | zero => intro x1 x2 x3 M hw; exact hw.elim
  | succ nf ih =>
    intro x1 x2 x3 M hw H locs ls hW hl
    rw [w_copyLayer_14] at hw
    refine lv_iload_n hx hb dX10_copyLayer_14 rfl (lv_at hl 3 rfl) ?_
    refine lv_aload_n hx hb dX10_copyLayer_15 rfl (lv_at hl 0 rfl) ?_
    refine r_get C0 hin hW 1 (by decide) (v := .ref (ad 2)) rfl (List.mem_of_getElem? (i := 1) rfl) rfl dX10_copyLayer_16 ?_
    refine lv_iload_n hx hb dX10_copyLayer_19 rfl (lv_at hl 1 rfl) ?_
    obtain ⟨h5, hw⟩ := hw
    refine r_iald C0 hW 2 rfl rfl h5 dX10_copyLayer_20 ?_
    refine lv_icmp_ge (tgt := 58) hx hb dX10_copyLayer_21 (by decide) (fun c6 => ?_) (fun c6 => ?_)
    · have hw := hw.1 c6
      try dsimp only at hw
      exact hret M _ _ 0 0 (Nat.le_refl _) (Nat.le_refl _) hw dX10_copyLayer_58 _ _ _ hW hl
    · have hw := hw.2 c6
      try dsimp only at hw
      refine lv_aload_n hx hb dX10_copyLayer_24 rfl (lv_at hl 0 rfl) ?_
      refine lv_iload_n hx hb dX10_copyLayer_25 rfl (lv_at hl 1 rfl) ?_
      refine lv_iload_n hx hb dX10_copyLayer_26 rfl (lv_at hl 3 rfl) ?_
      refine g_calls (As := [.int x1, .int x3]) (rest := [.ref (ad 0)]) ⟨hx, hb, hml, ho, hts⟩ hl.1 (k_entryOf (l := l) _ x1 x3 hw) (va_cwS 2 hts gX10_copyLayer_X10_entryOf rfl rfl rfl (by decide +kernel) ⟨Nat.le_of_ble_eq_true rfl, Nat.le_of_ble_eq_true rfl⟩) (Nat.le_of_ble_eq_true rfl) dX10_copyLayer_27 rfl ⟨Nat.le_of_ble_eq_true rfl, Nat.le_of_ble_eq_true rfl⟩ (fun r7 hw => ?_)
      try dsimp only at hw
      refine lv_iload_n hx hb dX10_copyLayer_30 rfl (lv_at hl 2 rfl) ?_
      refine lv_iload_n hx hb dX10_copyLayer_31 rfl (lv_at hl 3 rfl) ?_
      refine g_calls (As := [.int x2, .int x3]) (rest := [.int r7, .ref (ad 0)]) ⟨hx, hb, hml, ho, hts⟩ hl.1 (k_entryOf (l := l) _ x2 x3 hw) (va_cwS 2 hts gX10_copyLayer_X10_entryOf rfl rfl rfl (by decide +kernel) ⟨Nat.le_of_ble_eq_true rfl, Nat.le_of_ble_eq_true rfl⟩) (Nat.le_of_ble_eq_true rfl) dX10_copyLayer_32 rfl ⟨Nat.le_of_ble_eq_true rfl, Nat.le_of_ble_eq_true rfl⟩ (fun r8 hw => ?_)
      try dsimp only at hw
      refine g_callv (cw0 := fun M => rcells cI cZ ad M Y) (M := M) (As := [.int r7, .int r8]) (rest := []) C0 hW hl.1 (k_copyText (l := l) _ r7 r8 _ hw) (cwV 2 hts gX10_copyLayer_X10_copyText rfl rfl rfl (by decide +kernel) ⟨Nat.le_of_ble_eq_true rfl, Nat.le_of_ble_eq_true rfl⟩) (r_recv C0 hW) (Nat.le_of_ble_eq_true rfl) dX10_copyLayer_35 rfl ⟨Nat.le_of_ble_eq_true rfl, Nat.le_of_ble_eq_true rfl⟩ (fun M9 H locs hw hW => ?_)
      try dsimp only at hw
      refine lv_aload_n hx hb dX10_copyLayer_38 rfl (lv_at hl 0 rfl) ?_
      refine lv_iload_n hx hb dX10_copyLayer_39 rfl (lv_at hl 1 rfl) ?_
      refine lv_iload_n hx hb dX10_copyLayer_40 rfl (lv_at hl 3 rfl) ?_
      refine g_calls (As := [.int x1, .int x3]) (rest := [.ref (ad 0)]) ⟨hx, hb, hml, ho, hts⟩ hl.1 (k_valueOf (l := l) _ x1 x3 hw) (va_cwS 2 hts gX10_copyLayer_X10_valueOf rfl rfl rfl (by decide +kernel) ⟨Nat.le_of_ble_eq_true rfl, Nat.le_of_ble_eq_true rfl⟩) (Nat.le_of_ble_eq_true rfl) dX10_copyLayer_41 rfl ⟨Nat.le_of_ble_eq_true rfl, Nat.le_of_ble_eq_true rfl⟩ (fun r10 hw => ?_)
      try dsimp only at hw
      refine lv_iload_n hx hb dX10_copyLayer_44 rfl (lv_at hl 2 rfl) ?_
      refine lv_iload_n hx hb dX10_copyLayer_45 rfl (lv_at hl 3 rfl) ?_
      refine g_calls (As := [.int x2, .int x3]) (rest := [.int r10, .ref (ad 0)]) ⟨hx, hb, hml, ho, hts⟩ hl.1 (k_valueOf (l := l) _ x2 x3 hw) (va_cwS 2 hts gX10_copyLayer_X10_valueOf rfl rfl rfl (by decide +kernel) ⟨Nat.le_of_ble_eq_true rfl, Nat.le_of_ble_eq_true rfl⟩) (Nat.le_of_ble_eq_true rfl) dX10_copyLayer_46 rfl ⟨Nat.le_of_ble_eq_true rfl, Nat.le_of_ble_eq_true rfl⟩ (fun r11 hw => ?_)
      try dsimp only at hw
      refine g_callv (cw0 := fun M => rcells cI cZ ad M Y) (M := M9) (As := [.int r10, .int r11]) (rest := []) C0 hW hl.1 (k_copyText (l := l) _ r10 r11 _ hw) (cwV 2 hts gX10_copyLayer_X10_copyText rfl rfl rfl (by decide +kernel) ⟨Nat.le_of_ble_eq_true rfl, Nat.le_of_ble_eq_true rfl⟩) (r_recv C0 hW) (Nat.le_of_ble_eq_true rfl) dX10_copyLayer_49 rfl ⟨Nat.le_of_ble_eq_true rfl, Nat.le_of_ble_eq_true rfl⟩ (fun M12 H locs hw hW => ?_)
      try dsimp only at hw
      obtain ⟨v13, ev13⟩ : ∃ y : Int32, y = x3 + 1 := ⟨_, rfl⟩
      have hw := hw v13 ev13
      refine lv_iinc (v := v13) (lv' := [(3, .int v13), (0, .ref (ad 0)), (1, .int x1), (2, .int x2)]) hx hb dX10_copyLayer_52 hl (k := 3) rfl (by rw [ev13]; rfl) (by decide) rfl (fun ls hl => ?_)
      refine lv_goto (tgt := 14) hx hb dX10_copyLayer_55 (by decide) ?_
      exact ih x1 x2 v13 M12 hw _ _ _ hW (lv_sub hl [1, 2, 3, 0] rfl)
set_option maxHeartbeats 4000000 in
set_option maxRecDepth 100000 in
theorem t_copyLayer_0 (C0 : rX p s m args c cX10_copyLayer 4 RX10 wsX10_copyLayer D ((cI, .int) :: (cZ, .boolean) :: ty') A) (post : RM → Prop) (hret : ∀ (M' : RM) (pc : Nat) (lv : List (Nat × Value)) (k n : Nat), k ≤ 0 → n ≤ 0 → post M' → decode cX10_copyLayer pc = .ok (.return_, 1) → gG p l e rm_copyLayer s m args below meth c Q D A 4 k n (rcells cI cZ ad M' Y) pc lv [])  : ∀  (a1 a2 : Int32) (M : RM), w_copyLayer post   a1 a2 M → gG p l e rm_copyLayer s m args below meth c Q D A 4 0 0 (rcells cI cZ ad M Y) 0 [(0, .ref (ad 0)), (1, .int a1), (2, .int a2)] [] := by
  obtain ⟨hx, hb, hml, ho, hts, hK, hA⟩ := id C0
  have hin := in_copyLayer
  intro a1 a2 M hw H locs ls hW hl
  rw [w_copyLayer] at hw
  refine lv_aload_n hx hb dX10_copyLayer_0 rfl (lv_at hl 0 rfl) ?_
  refine r_get C0 hin hW 1 (by decide) (v := .ref (ad 2)) rfl (List.mem_of_getElem? (i := 1) rfl) rfl dX10_copyLayer_1 ?_
  refine lv_iload_n hx hb dX10_copyLayer_4 rfl (lv_at hl 2 rfl) ?_
  refine lv_aload_n hx hb dX10_copyLayer_5 rfl (lv_at hl 0 rfl) ?_
  refine r_get C0 hin hW 1 (by decide) (v := .ref (ad 2)) rfl (List.mem_of_getElem? (i := 1) rfl) rfl dX10_copyLayer_6 ?_
  refine lv_iload_n hx hb dX10_copyLayer_9 rfl (lv_at hl 1 rfl) ?_
  obtain ⟨h1, hw⟩ := hw
  refine r_iald C0 hW 2 rfl rfl h1 dX10_copyLayer_10 ?_
  obtain ⟨h2, hw⟩ := hw
  refine r_iast C0 hW 2 rfl rfl h2 rfl dX10_copyLayer_11 (fun M3 H locs eM3 hW => ?_)
  have hw := hw M3 eM3
  refine lv_iconst (v := 0) hx hb dX10_copyLayer_12 (by decide) ?_
  refine lv_istore_n (lv' := [(3, .int 0), (0, .ref (ad 0)), (1, .int a1), (2, .int a2)]) hx hb dX10_copyLayer_13 rfl hl (by decide) rfl (fun ls hl => ?_)
  obtain ⟨n4, hw⟩ := hw
  exact t_copyLayer_14 C0 post hret  n4 a1 a2 0 M3 hw _ _ _ hW (lv_sub hl [1, 2, 3, 0] rfl)
set_option maxHeartbeats 4000000 in
set_option maxRecDepth 100000 in
theorem k_copyLayer {l : Launch} {D : va_G} {cI cZ : ClassId} {ty' : List (ClassId × FieldType)} {ad : Nat → Nat} {Y : va_W} {sz : Nat} (post : RM → Prop) (a1 a2 : Int32) (M : RM) (hw : w_copyLayer post a1 a2 M) : gMv l yX10_copyLayer wsX10_copyLayer rm_copyLayer D ((cI, .int) :: (cZ, .boolean) :: ty') sz (fun M => rcells cI cZ ad M Y) M [.ref (ad 0), .int a1, .int a2] post 0 0 := by
  refine gMv_of (cc := cX10_copyLayer) (nL := 4) (own := RX10) (by decide) rfl rfl (Nat.le_of_ble_eq_true rfl) ?_
  intro p e s m args below meth c A Q C0 hret
  exact t_copyLayer_0 C0 post hret a1 a2 M hw
abbrev rm_put : Room := { frames := 3, cells := 0, slots := 0, locals := 70 }
theorem in_put : ∀ w ∈ wsX100, w ∈ wsX10_put := fun w hw => List.mem_cons_of_mem _ (List.mem_append_right _ hw)
set_option maxHeartbeats 4000000 in
set_option maxRecDepth 100000 in
theorem t_put_102 (C0 : rX p s m args c cX10_put 7 RX10 wsX10_put D ((cI, .int) :: (cZ, .boolean) :: ty') A) (post : Int32 → RM → Prop) (hret : ∀ (r : Int32) (M' : RM) (pc : Nat) (lv : List (Nat × Value)) (k n : Nat), k ≤ 0 → n ≤ 0 → post r M' → narrow .boolean (.int r) = .int r → decode cX10_put pc = .ok (.ireturn, 1) → gG p l e rm_put s m args below meth c Q D A 7 k n (rcells cI cZ ad M' Y) pc lv [.int r])  : ∀  (x1 x3 x4 : Int32) (M : RM), w_put_102 post   x1 x3 x4 M → gG p l e rm_put s m args below meth c Q D A 7 0 0 (rcells cI cZ ad M Y) 102 [(0, .ref (ad 0)), (1, .int x1), (3, .int x3), (4, .int x4)] [] := by
  obtain ⟨hx, hb, hml, ho, hts, hK, hA⟩ := id C0
  have hin := in_put
  intro x1 x3 x4 M hw H locs ls hW hl
  rw [w_put_102] at hw
  refine lv_aload_n hx hb dX10_put_102 rfl (lv_at hl 0 rfl) ?_
  refine lv_iload_n hx hb dX10_put_103 rfl (lv_at hl 2 rfl) ?_
  refine lv_iload_n hx hb dX10_put_104 rfl (lv_at hl 1 rfl) ?_
  refine lv_iload hx hb dX10_put_105 (lv_at hl 3 rfl) ?_
  refine g_calls (As := [.int x1, .int x4]) (rest := [.int x3, .ref (ad 0)]) ⟨hx, hb, hml, ho, hts⟩ hl.1 (k_valueOf (l := l) _ x1 x4 hw) (va_cwS 2 hts gX10_put_X10_valueOf rfl rfl rfl (by decide +kernel) ⟨Nat.le_of_ble_eq_true rfl, Nat.le_of_ble_eq_true rfl⟩) (Nat.le_of_ble_eq_true rfl) dX10_put_107 rfl ⟨Nat.le_of_ble_eq_true rfl, Nat.le_of_ble_eq_true rfl⟩ (fun r21 hw => ?_)
  try dsimp only at hw
  refine g_callv (cw0 := fun M => rcells cI cZ ad M Y) (M := M) (As := [.int x3, .int r21]) (rest := []) C0 hW hl.1 (k_copyText (l := l) _ x3 r21 _ hw) (cwV 2 hts gX10_put_X10_copyText rfl rfl rfl (by decide +kernel) ⟨Nat.le_of_ble_eq_true rfl, Nat.le_of_ble_eq_true rfl⟩) (r_recv C0 hW) (Nat.le_of_ble_eq_true rfl) dX10_put_110 rfl ⟨Nat.le_of_ble_eq_true rfl, Nat.le_of_ble_eq_true rfl⟩ (fun M22 H locs hw hW => ?_)
  try dsimp only at hw
  refine lv_iconst (v := 1) hx hb dX10_put_113 (by decide) ?_
  exact hret 1 M22 _ _ 0 0 (Nat.le_refl _) (Nat.le_refl _) hw (by decide) dX10_put_114 _ _ _ hW hl
set_option maxHeartbeats 4000000 in
set_option maxRecDepth 100000 in
theorem t_put_57 (C0 : rX p s m args c cX10_put 7 RX10 wsX10_put D ((cI, .int) :: (cZ, .boolean) :: ty') A) (post : Int32 → RM → Prop) (hret : ∀ (r : Int32) (M' : RM) (pc : Nat) (lv : List (Nat × Value)) (k n : Nat), k ≤ 0 → n ≤ 0 → post r M' → narrow .boolean (.int r) = .int r → decode cX10_put pc = .ok (.ireturn, 1) → gG p l e rm_put s m args below meth c Q D A 7 k n (rcells cI cZ ad M' Y) pc lv [.int r])  : ∀ (nf : Nat) (x1 x2 x3 x4 x6 : Int32) (M : RM), w_put_57 post  nf x1 x2 x3 x4 x6 M → gG p l e rm_put s m args below meth c Q D A 7 0 0 (rcells cI cZ ad M Y) 57 [(0, .ref (ad 0)), (1, .int x1), (2, .int x2), (3, .int x3), (4, .int x4), (6, .int x6)] [] := by
  obtain ⟨hx, hb, hml, ho, hts, hK, hA⟩ := id C0
  have hin := in_put
  intro nf
  induction nf with
  | zero => intro x1 x2 x3 x4 x6 M hw; exact hw.elim
  | succ nf ih =>
    intro x1 x2 x3 x4 x6 M hw H locs ls hW hl
    rw [w_put_57] at hw
    refine lv_iload hx hb dX10_put_57 (lv_at hl 5 rfl) ?_
    refine lv_iload hx hb dX10_put_59 (lv_at hl 4 rfl) ?_
    refine lv_icmp_le (tgt := 81) hx hb dX10_put_61 (by decide) (fun c13 => ?_) (fun c13 => ?_)
    · have hw := hw.1 c13
      try dsimp only at hw
      refine lv_aload_n hx hb dX10_put_81 rfl (lv_at hl 0 rfl) ?_
      refine lv_iload_n hx hb dX10_put_82 rfl (lv_at hl 2 rfl) ?_
      refine lv_iload_n hx hb dX10_put_83 rfl (lv_at hl 1 rfl) ?_
      refine lv_iload hx hb dX10_put_84 (lv_at hl 4 rfl) ?_
      refine g_calls (As := [.int x1, .int x4]) (rest := [.int x2, .ref (ad 0)]) ⟨hx, hb, hml, ho, hts⟩ hl.1 (k_entryOf (l := l) _ x1 x4 hw) (va_cwS 2 hts gX10_put_X10_entryOf rfl rfl rfl (by decide +kernel) ⟨Nat.le_of_ble_eq_true rfl, Nat.le_of_ble_eq_true rfl⟩) (Nat.le_of_ble_eq_true rfl) dX10_put_86 rfl ⟨Nat.le_of_ble_eq_true rfl, Nat.le_of_ble_eq_true rfl⟩ (fun r14 hw => ?_)
      try dsimp only at hw
      refine g_callv (cw0 := fun M => rcells cI cZ ad M Y) (M := M) (As := [.int x2, .int r14]) (rest := []) C0 hW hl.1 (k_copyText (l := l) _ x2 r14 _ hw) (cwV 2 hts gX10_put_X10_copyText rfl rfl rfl (by decide +kernel) ⟨Nat.le_of_ble_eq_true rfl, Nat.le_of_ble_eq_true rfl⟩) (r_recv C0 hW) (Nat.le_of_ble_eq_true rfl) dX10_put_89 rfl ⟨Nat.le_of_ble_eq_true rfl, Nat.le_of_ble_eq_true rfl⟩ (fun M15 H locs hw hW => ?_)
      try dsimp only at hw
      refine lv_aload_n hx hb dX10_put_92 rfl (lv_at hl 0 rfl) ?_
      refine r_get C0 hin hW 1 (by decide) (v := .ref (ad 2)) rfl (List.mem_of_getElem? (i := 1) rfl) rfl dX10_put_93 ?_
      refine lv_iload_n hx hb dX10_put_96 rfl (lv_at hl 1 rfl) ?_
      refine lv_dup2_11 hx hb dX10_put_97 rfl rfl ?_
      obtain ⟨h16, hw⟩ := hw
      refine r_iald C0 hW 2 rfl rfl h16 dX10_put_98 ?_
      refine lv_iconst (v := 1) hx hb dX10_put_99 (by decide) ?_
      refine lv_iadd hx hb dX10_put_100 ?_
      obtain ⟨h17, hw⟩ := hw
      refine r_iast C0 hW 2 rfl rfl h17 rfl dX10_put_101 (fun M18 H locs eM18 hW => ?_)
      have hw := hw M18 eM18
      exact t_put_102 C0 post hret  x1 x3 x4 M18 hw _ _ _ hW (lv_sub hl [0, 1, 3, 4] rfl)
    · have hw := hw.2 c13
      try dsimp only at hw
      refine lv_aload_n hx hb dX10_put_64 rfl (lv_at hl 0 rfl) ?_
      refine lv_iload_n hx hb dX10_put_65 rfl (lv_at hl 1 rfl) ?_
      refine lv_iload hx hb dX10_put_66 (lv_at hl 5 rfl) ?_
      refine lv_iconst (v := 1) hx hb dX10_put_68 (by decide) ?_
      refine lv_isub hx hb dX10_put_69 ?_
      refine lv_iload hx hb dX10_put_70 (lv_at hl 5 rfl) ?_
      refine g_callv (cw0 := fun M => rcells cI cZ ad M Y) (M := M) (As := [.int x1, .int (x6 - 1), .int x6]) (rest := []) C0 hW hl.1 (k_copyEntry (l := l) _ x1 (x6 - 1) x6 _ hw) (cwV 3 hts gX10_put_X10_copyEntry rfl rfl rfl (by decide +kernel) ⟨Nat.le_of_ble_eq_true rfl, Nat.le_of_ble_eq_true rfl⟩) (r_recv C0 hW) (Nat.le_of_ble_eq_true rfl) dX10_put_72 rfl ⟨Nat.le_of_ble_eq_true rfl, Nat.le_of_ble_eq_true rfl⟩ (fun M19 H locs hw hW => ?_)
      try dsimp only at hw
      obtain ⟨v20, ev20⟩ : ∃ y : Int32, y = x6 + (-1) := ⟨_, rfl⟩
      have hw := hw v20 ev20
      refine lv_iinc (v := v20) (lv' := [(6, .int v20), (0, .ref (ad 0)), (1, .int x1), (2, .int x2), (3, .int x3), (4, .int x4)]) hx hb dX10_put_75 hl (k := 5) rfl (by rw [ev20]; rfl) (by decide) rfl (fun ls hl => ?_)
      refine lv_goto (tgt := 57) hx hb dX10_put_78 (by decide) ?_
      exact ih x1 x2 x3 x4 v20 M19 hw _ _ _ hW (lv_sub hl [1, 2, 3, 4, 5, 0] rfl)
set_option maxHeartbeats 4000000 in
set_option maxRecDepth 100000 in
theorem t_put_44 (C0 : rX p s m args c cX10_put 7 RX10 wsX10_put D ((cI, .int) :: (cZ, .boolean) :: ty') A) (post : Int32 → RM → Prop) (hret : ∀ (r : Int32) (M' : RM) (pc : Nat) (lv : List (Nat × Value)) (k n : Nat), k ≤ 0 → n ≤ 0 → post r M' → narrow .boolean (.int r) = .int r → decode cX10_put pc = .ok (.ireturn, 1) → gG p l e rm_put s m args below meth c Q D A 7 k n (rcells cI cZ ad M' Y) pc lv [.int r])  : ∀  (x1 x2 x3 x4 x5 : Int32) (M : RM), w_put_44 post   x1 x2 x3 x4 x5 M → gG p l e rm_put s m args below meth c Q D A 7 0 0 (rcells cI cZ ad M Y) 44 [(0, .ref (ad 0)), (1, .int x1), (2, .int x2), (3, .int x3), (4, .int x4), (5, .int x5)] [] := by
  obtain ⟨hx, hb, hml, ho, hts, hK, hA⟩ := id C0
  have hin := in_put
  intro x1 x2 x3 x4 x5 M hw H locs ls hW hl
  rw [w_put_44] at hw
  refine lv_iload hx hb dX10_put_44 (lv_at hl 5 rfl) ?_
  refine lv_if_ne (tgt := 102) hx hb dX10_put_46 (by decide) (fun c9 => ?_) (fun c9 => ?_)
  · have hw := hw.1 c9
    try dsimp only at hw
    exact t_put_102 C0 post hret  x1 x3 x4 M hw _ _ _ hW (lv_sub hl [0, 1, 3, 4] rfl)
  · have hw := hw.2 c9
    try dsimp only at hw
    refine lv_aload_n hx hb dX10_put_49 rfl (lv_at hl 0 rfl) ?_
    refine r_get C0 hin hW 1 (by decide) (v := .ref (ad 2)) rfl (List.mem_of_getElem? (i := 1) rfl) rfl dX10_put_50 ?_
    refine lv_iload_n hx hb dX10_put_53 rfl (lv_at hl 1 rfl) ?_
    obtain ⟨h10, hw⟩ := hw
    refine r_iald C0 hW 2 rfl rfl h10 dX10_put_54 ?_
    refine lv_topi (fun v11 ev11 => ?_)
    have hw := hw v11 ev11
    refine lv_istore (lv' := [(6, .int v11), (0, .ref (ad 0)), (1, .int x1), (2, .int x2), (3, .int x3), (4, .int x4), (5, .int x5)]) hx hb dX10_put_55 hl (by decide) rfl (fun ls hl => ?_)
    obtain ⟨n12, hw⟩ := hw
    exact t_put_57 C0 post hret  n12 x1 x2 x3 x4 v11 M hw _ _ _ hW (lv_sub hl [1, 2, 3, 4, 5, 0] rfl)
set_option maxHeartbeats 4000000 in
set_option maxRecDepth 100000 in
theorem t_put_24 (C0 : rX p s m args c cX10_put 7 RX10 wsX10_put D ((cI, .int) :: (cZ, .boolean) :: ty') A) (post : Int32 → RM → Prop) (hret : ∀ (r : Int32) (M' : RM) (pc : Nat) (lv : List (Nat × Value)) (k n : Nat), k ≤ 0 → n ≤ 0 → post r M' → narrow .boolean (.int r) = .int r → decode cX10_put pc = .ok (.ireturn, 1) → gG p l e rm_put s m args below meth c Q D A 7 k n (rcells cI cZ ad M' Y) pc lv [.int r])  : ∀  (x1 x2 x3 x4 s0 : Int32) (M : RM), w_put_24 post   x1 x2 x3 x4 s0 M → gG p l e rm_put s m args below meth c Q D A 7 0 0 (rcells cI cZ ad M Y) 24 [(0, .ref (ad 0)), (1, .int x1), (2, .int x2), (3, .int x3), (4, .int x4)] [.int s0] := by
  obtain ⟨hx, hb, hml, ho, hts, hK, hA⟩ := id C0
  have hin := in_put
  intro x1 x2 x3 x4 s0 M hw H locs ls hW hl
  rw [w_put_24] at hw
  refine lv_istore (lv' := [(5, .int s0), (0, .ref (ad 0)), (1, .int x1), (2, .int x2), (3, .int x3), (4, .int x4)]) hx hb dX10_put_24 hl (by decide) rfl (fun ls hl => ?_)
  refine lv_iload hx hb dX10_put_26 (lv_at hl 0 rfl) ?_
  refine lv_if_ne (tgt := 44) hx hb dX10_put_28 (by decide) (fun c6 => ?_) (fun c6 => ?_)
  · have hw := hw.1 c6
    try dsimp only at hw
    exact t_put_44 C0 post hret  x1 x2 x3 x4 s0 M hw _ _ _ hW (lv_sub hl [1, 2, 3, 4, 5, 0] rfl)
  · have hw := hw.2 c6
    try dsimp only at hw
    refine lv_aload_n hx hb dX10_put_31 rfl (lv_at hl 1 rfl) ?_
    refine r_get C0 hin hW 1 (by decide) (v := .ref (ad 2)) rfl (List.mem_of_getElem? (i := 1) rfl) rfl dX10_put_32 ?_
    refine lv_iload_n hx hb dX10_put_35 rfl (lv_at hl 2 rfl) ?_
    obtain ⟨h7, hw⟩ := hw
    refine r_iald C0 hW 2 rfl rfl h7 dX10_put_36 ?_
    refine lv_bipush (v := 40) hx hb dX10_put_37 (by decide) ?_
    refine lv_icmp_ne (tgt := 44) hx hb dX10_put_39 (by decide) (fun c8 => ?_) (fun c8 => ?_)
    · have hw := hw.1 c8
      try dsimp only at hw
      exact t_put_44 C0 post hret  x1 x2 x3 x4 s0 M hw _ _ _ hW (lv_sub hl [1, 2, 3, 4, 5, 0] rfl)
    · have hw := hw.2 c8
      try dsimp only at hw
      refine lv_iconst (v := 0) hx hb dX10_put_42 (by decide) ?_
      exact hret 0 M _ _ 0 0 (Nat.le_refl _) (Nat.le_refl _) hw (by decide) dX10_put_43 _ _ _ hW hl
set_option maxHeartbeats 4000000 in
set_option maxRecDepth 100000 in
theorem t_put_0 (C0 : rX p s m args c cX10_put 7 RX10 wsX10_put D ((cI, .int) :: (cZ, .boolean) :: ty') A) (post : Int32 → RM → Prop) (hret : ∀ (r : Int32) (M' : RM) (pc : Nat) (lv : List (Nat × Value)) (k n : Nat), k ≤ 0 → n ≤ 0 → post r M' → narrow .boolean (.int r) = .int r → decode cX10_put pc = .ok (.ireturn, 1) → gG p l e rm_put s m args below meth c Q D A 7 k n (rcells cI cZ ad M' Y) pc lv [.int r])  : ∀  (a1 a2 a3 : Int32) (M : RM), w_put post   a1 a2 a3 M → gG p l e rm_put s m args below meth c Q D A 7 0 0 (rcells cI cZ ad M Y) 0 [(0, .ref (ad 0)), (1, .int a1), (2, .int a2), (3, .int a3)] [] := by
  obtain ⟨hx, hb, hml, ho, hts, hK, hA⟩ := id C0
  have hin := in_put
  intro a1 a2 a3 M hw H locs ls hW hl
  rw [w_put] at hw
  refine lv_aload_n hx hb dX10_put_0 rfl (lv_at hl 0 rfl) ?_
  refine lv_iload_n hx hb dX10_put_1 rfl (lv_at hl 1 rfl) ?_
  refine lv_iload_n hx hb dX10_put_2 rfl (lv_at hl 2 rfl) ?_
  refine g_calli (cw0 := fun M => rcells cI cZ ad M Y) (M := M) (As := [.int a1, .int a2]) (rest := []) C0 hW hl.1 (k_placeOf (l := l) _ a1 a2 _ hw) (cwV 2 hts gX10_put_X10_placeOf rfl rfl rfl (by decide +kernel) ⟨Nat.le_of_ble_eq_true rfl, Nat.le_of_ble_eq_true rfl⟩) (r_recv C0 hW) (Nat.le_of_ble_eq_true rfl) dX10_put_3 rfl ⟨Nat.le_of_ble_eq_true rfl, Nat.le_of_ble_eq_true rfl⟩ (fun r2 M1 H locs hw hW => ?_)
  try dsimp only at hw
  refine lv_istore (lv' := [(4, .int r2), (0, .ref (ad 0)), (1, .int a1), (2, .int a2), (3, .int a3)]) hx hb dX10_put_6 hl (by decide) rfl (fun ls hl => ?_)
  refine lv_aload_n hx hb dX10_put_8 rfl (lv_at hl 1 rfl) ?_
  refine lv_iload_n hx hb dX10_put_9 rfl (lv_at hl 2 rfl) ?_
  refine lv_iload_n hx hb dX10_put_10 rfl (lv_at hl 3 rfl) ?_
  refine g_calli (cw0 := fun M => rcells cI cZ ad M Y) (M := M1) (As := [.int a1, .int a2]) (rest := []) C0 hW hl.1 (k_find (l := l) _ a1 a2 _ hw) (cwV 2 hts gX10_put_X10_find rfl rfl rfl (by decide +kernel) ⟨Nat.le_of_ble_eq_true rfl, Nat.le_of_ble_eq_true rfl⟩) (r_recv C0 hW) (Nat.le_of_ble_eq_true rfl) dX10_put_11 rfl ⟨Nat.le_of_ble_eq_true rfl, Nat.le_of_ble_eq_true rfl⟩ (fun r4 M3 H locs hw hW => ?_)
  try dsimp only at hw
  refine lv_bipush (v := (-5)) hx hb dX10_put_14 (by decide) ?_
  refine lv_icmp_eq (tgt := 23) hx hb dX10_put_16 (by decide) (fun c5 => ?_) (fun c5 => ?_)
  · have hw := hw.1 c5
    try dsimp only at hw
    refine lv_iconst (v := 0) hx hb dX10_put_23 (by decide) ?_
    exact t_put_24 C0 post hret  a1 a2 a3 r2 0 M3 hw _ _ _ hW (lv_sub hl [1, 2, 3, 4, 0] rfl)
  · have hw := hw.2 c5
    try dsimp only at hw
    refine lv_iconst (v := 1) hx hb dX10_put_19 (by decide) ?_
    refine lv_goto (tgt := 24) hx hb dX10_put_20 (by decide) ?_
    exact t_put_24 C0 post hret  a1 a2 a3 r2 1 M3 hw _ _ _ hW (lv_sub hl [1, 2, 3, 4, 0] rfl)
set_option maxHeartbeats 4000000 in
set_option maxRecDepth 100000 in
theorem k_put {l : Launch} {D : va_G} {cI cZ : ClassId} {ty' : List (ClassId × FieldType)} {ad : Nat → Nat} {Y : va_W} {sz : Nat} (post : Int32 → RM → Prop) (a1 a2 a3 : Int32) (M : RM) (hw : w_put post a1 a2 a3 M) : gMi l yX10_put wsX10_put rm_put D ((cI, .int) :: (cZ, .boolean) :: ty') sz (fun M => rcells cI cZ ad M Y) M [.ref (ad 0), .int a1, .int a2, .int a3] post 0 0 := by
  refine gMi_of (cc := cX10_put) (nL := 7) (ty := .boolean) (own := RX10) (by decide) rfl rfl (Nat.le_of_ble_eq_true rfl) ?_
  intro p e s m args below meth c A Q C0 hret
  exact t_put_0 C0 post hret a1 a2 a3 M hw
abbrev rm_take : Room := { frames := 3, cells := 0, slots := 0, locals := 65 }
theorem in_take : ∀ w ∈ wsX100, w ∈ wsX10_take := fun w hw => List.mem_cons_of_mem _ (List.mem_append_right _ hw)
set_option maxHeartbeats 4000000 in
set_option maxRecDepth 100000 in
theorem t_take_2 (C0 : rX p s m args c cX10_take 4 RX10 wsX10_take D ((cI, .int) :: (cZ, .boolean) :: ty') A) (post : RM → Prop) (hret : ∀ (M' : RM) (pc : Nat) (lv : List (Nat × Value)) (k n : Nat), k ≤ 0 → n ≤ 0 → post M' → decode cX10_take pc = .ok (.return_, 1) → gG p l e rm_take s m args below meth c Q D A 4 k n (rcells cI cZ ad M' Y) pc lv [])  : ∀ (nf : Nat) (x1 x3 : Int32) (M : RM), w_take_2 post  nf x1 x3 M → gG p l e rm_take s m args below meth c Q D A 4 0 0 (rcells cI cZ ad M Y) 2 [(0, .ref (ad 0)), (1, .int x1), (3, .int x3)] [] := by
  obtain ⟨hx, hb, hml, ho, hts, hK, hA⟩ := id C0
  have hin := in_take
  intro nf
  induction nf with
  | zero => intro x1 x3 M hw; exact hw.elim
  | succ nf ih =>
    intro x1 x3 M hw H locs ls hW hl
    rw [w_take_2] at hw
    refine lv_iload_n hx hb dX10_take_2 rfl (lv_at hl 2 rfl) ?_
    refine lv_aload_n hx hb dX10_take_3 rfl (lv_at hl 0 rfl) ?_
    refine r_get C0 hin hW 1 (by decide) (v := .ref (ad 2)) rfl (List.mem_of_getElem? (i := 1) rfl) rfl dX10_take_4 ?_
    refine lv_iload_n hx hb dX10_take_7 rfl (lv_at hl 1 rfl) ?_
    obtain ⟨h2, hw⟩ := hw
    refine r_iald C0 hW 2 rfl rfl h2 dX10_take_8 ?_
    refine lv_iconst (v := 1) hx hb dX10_take_9 (by decide) ?_
    refine lv_isub hx hb dX10_take_10 ?_
    refine lv_icmp_ge (tgt := 29) hx hb dX10_take_11 (by decide) (fun c3 => ?_) (fun c3 => ?_)
    · have hw := hw.1 c3
      try dsimp only at hw
      refine lv_aload_n hx hb dX10_take_29 rfl (lv_at hl 0 rfl) ?_
      refine r_get C0 hin hW 1 (by decide) (v := .ref (ad 2)) rfl (List.mem_of_getElem? (i := 1) rfl) rfl dX10_take_30 ?_
      refine lv_iload_n hx hb dX10_take_33 rfl (lv_at hl 1 rfl) ?_
      refine lv_dup2_11 hx hb dX10_take_34 rfl rfl ?_
      obtain ⟨h4, hw⟩ := hw
      refine r_iald C0 hW 2 rfl rfl h4 dX10_take_35 ?_
      refine lv_iconst (v := 1) hx hb dX10_take_36 (by decide) ?_
      refine lv_isub hx hb dX10_take_37 ?_
      obtain ⟨h5, hw⟩ := hw
      refine r_iast C0 hW 2 rfl rfl h5 rfl dX10_take_38 (fun M6 H locs eM6 hW => ?_)
      have hw := hw M6 eM6
      exact hret M6 _ _ 0 0 (Nat.le_refl _) (Nat.le_refl _) hw dX10_take_39 _ _ _ hW hl
    · have hw := hw.2 c3
      try dsimp only at hw
      refine lv_aload_n hx hb dX10_take_14 rfl (lv_at hl 0 rfl) ?_
      refine lv_iload_n hx hb dX10_take_15 rfl (lv_at hl 1 rfl) ?_
      refine lv_iload_n hx hb dX10_take_16 rfl (lv_at hl 2 rfl) ?_
      refine lv_iconst (v := 1) hx hb dX10_take_17 (by decide) ?_
      refine lv_iadd hx hb dX10_take_18 ?_
      refine lv_iload_n hx hb dX10_take_19 rfl (lv_at hl 2 rfl) ?_
      refine g_callv (cw0 := fun M => rcells cI cZ ad M Y) (M := M) (As := [.int x1, .int (x3 + 1), .int x3]) (rest := []) C0 hW hl.1 (k_copyEntry (l := l) _ x1 (x3 + 1) x3 _ hw) (cwV 3 hts gX10_take_X10_copyEntry rfl rfl rfl (by decide +kernel) ⟨Nat.le_of_ble_eq_true rfl, Nat.le_of_ble_eq_true rfl⟩) (r_recv C0 hW) (Nat.le_of_ble_eq_true rfl) dX10_take_20 rfl ⟨Nat.le_of_ble_eq_true rfl, Nat.le_of_ble_eq_true rfl⟩ (fun M7 H locs hw hW => ?_)
      try dsimp only at hw
      obtain ⟨v8, ev8⟩ : ∃ y : Int32, y = x3 + 1 := ⟨_, rfl⟩
      have hw := hw v8 ev8
      refine lv_iinc (v := v8) (lv' := [(3, .int v8), (0, .ref (ad 0)), (1, .int x1)]) hx hb dX10_take_23 hl (k := 2) rfl (by rw [ev8]; rfl) (by decide) rfl (fun ls hl => ?_)
      refine lv_goto (tgt := 2) hx hb dX10_take_26 (by decide) ?_
      exact ih x1 v8 M7 hw _ _ _ hW (lv_sub hl [1, 2, 0] rfl)
set_option maxHeartbeats 4000000 in
set_option maxRecDepth 100000 in
theorem t_take_0 (C0 : rX p s m args c cX10_take 4 RX10 wsX10_take D ((cI, .int) :: (cZ, .boolean) :: ty') A) (post : RM → Prop) (hret : ∀ (M' : RM) (pc : Nat) (lv : List (Nat × Value)) (k n : Nat), k ≤ 0 → n ≤ 0 → post M' → decode cX10_take pc = .ok (.return_, 1) → gG p l e rm_take s m args below meth c Q D A 4 k n (rcells cI cZ ad M' Y) pc lv [])  : ∀  (a1 a2 : Int32) (M : RM), w_take post   a1 a2 M → gG p l e rm_take s m args below meth c Q D A 4 0 0 (rcells cI cZ ad M Y) 0 [(0, .ref (ad 0)), (1, .int a1), (2, .int a2)] [] := by
  obtain ⟨hx, hb, hml, ho, hts, hK, hA⟩ := id C0
  have hin := in_take
  intro a1 a2 M hw H locs ls hW hl
  rw [w_take] at hw
  refine lv_iload_n hx hb dX10_take_0 rfl (lv_at hl 2 rfl) ?_
  refine lv_istore_n (lv' := [(3, .int a2), (0, .ref (ad 0)), (1, .int a1), (2, .int a2)]) hx hb dX10_take_1 rfl hl (by decide) rfl (fun ls hl => ?_)
  obtain ⟨n1, hw⟩ := hw
  exact t_take_2 C0 post hret  n1 a1 a2 M hw _ _ _ hW (lv_sub hl [1, 2, 0] rfl)
set_option maxHeartbeats 4000000 in
set_option maxRecDepth 100000 in
theorem k_take {l : Launch} {D : va_G} {cI cZ : ClassId} {ty' : List (ClassId × FieldType)} {ad : Nat → Nat} {Y : va_W} {sz : Nat} (post : RM → Prop) (a1 a2 : Int32) (M : RM) (hw : w_take post a1 a2 M) : gMv l yX10_take wsX10_take rm_take D ((cI, .int) :: (cZ, .boolean) :: ty') sz (fun M => rcells cI cZ ad M Y) M [.ref (ad 0), .int a1, .int a2] post 0 0 := by
  refine gMv_of (cc := cX10_take) (nL := 4) (own := RX10) (by decide) rfl rfl (Nat.le_of_ble_eq_true rfl) ?_
  intro p e s m args below meth c A Q C0 hret
  exact t_take_0 C0 post hret a1 a2 M hw
abbrev rm_load : Room := { frames := 5, cells := 0, slots := 0, locals := 114 }
theorem in_load : ∀ w ∈ wsX100, w ∈ wsX10_load := fun w hw => List.mem_cons_of_mem _ (List.mem_append_right _ hw)
set_option maxHeartbeats 4000000 in
set_option maxRecDepth 100000 in
theorem t_load_30 (C0 : rX p s m args c cX10_load 4 RX10 wsX10_load D ((cI, .int) :: (cZ, .boolean) :: ty') A) (post : Int32 → RM → Prop) (hret : ∀ (r : Int32) (M' : RM) (pc : Nat) (lv : List (Nat × Value)) (k n : Nat), k ≤ 0 → n ≤ 0 → post r M' → narrow .int (.int r) = .int r → decode cX10_load pc = .ok (.ireturn, 1) → gG p l e rm_load s m args below meth c Q D A 4 k n (rcells cI cZ ad M' Y) pc lv [.int r])  : ∀ (nf : Nat) (x1 x2 x3 : Int32) (M : RM), w_load_30 post  nf x1 x2 x3 M → gG p l e rm_load s m args below meth c Q D A 4 0 0 (rcells cI cZ ad M Y) 30 [(0, .ref (ad 0)), (1, .int x1), (2, .int x2), (3, .int x3)] [] := by
  obtain ⟨hx, hb, hml, ho, hts, hK, hA⟩ := id C0
  have hin := in_load
  intro nf
  induction nf with
  | zero => intro x1 x2 x3 M hw; exact hw.elim
  | succ nf ih =>
    intro x1 x2 x3 M hw H locs ls hW hl
    rw [w_load_30] at hw
    refine lv_iload_n hx hb dX10_load_30 rfl (lv_at hl 3 rfl) ?_
    refine lv_bipush (v := (-5)) hx hb dX10_load_31 (by decide) ?_
    refine lv_icmp_eq (tgt := 84) hx hb dX10_load_33 (by decide) (fun c8 => ?_) (fun c8 => ?_)
    · have hw := hw.1 c8
      try dsimp only at hw
      refine lv_iload_n hx hb dX10_load_84 rfl (lv_at hl 2 rfl) ?_
      exact hret x2 M _ _ 0 0 (Nat.le_refl _) (Nat.le_refl _) hw rfl dX10_load_85 _ _ _ hW hl
    · have hw := hw.2 c8
      try dsimp only at hw
      refine lv_aload_n hx hb dX10_load_36 rfl (lv_at hl 0 rfl) ?_
      refine lv_iload_n hx hb dX10_load_37 rfl (lv_at hl 3 rfl) ?_
      refine g_calli (cw0 := fun M => rcells cI cZ ad M Y) (M := M) (As := [.int x3]) (rest := []) C0 hW hl.1 (k_layEntry (l := l) _ x3 _ hw) (cwV 1 hts gX10_load_X10_layEntry rfl rfl rfl (by decide +kernel) ⟨Nat.le_of_ble_eq_true rfl, Nat.le_of_ble_eq_true rfl⟩) (r_recv C0 hW) (Nat.le_of_ble_eq_true rfl) dX10_load_38 rfl ⟨Nat.le_of_ble_eq_true rfl, Nat.le_of_ble_eq_true rfl⟩ (fun r10 M9 H locs hw hW => ?_)
      try dsimp only at hw
      refine lv_istore_n (lv' := [(3, .int r10), (0, .ref (ad 0)), (1, .int x1), (2, .int x2)]) hx hb dX10_load_41 rfl hl (by decide) rfl (fun ls hl => ?_)
      refine lv_aload_n hx hb dX10_load_42 rfl (lv_at hl 1 rfl) ?_
      refine r_get C0 hin hW 19 (by decide) (v := .int (M9 0 7)) rfl (List.mem_of_getElem? (i := 1) rfl) rfl dX10_load_43 ?_
      refine lv_if_le (tgt := 30) hx hb dX10_load_46 (by decide) (fun c11 => ?_) (fun c11 => ?_)
      · have hw := hw.1 c11
        try dsimp only at hw
        exact ih x1 x2 r10 M9 hw _ _ _ hW (lv_sub hl [1, 2, 3, 0] rfl)
      · have hw := hw.2 c11
        try dsimp only at hw
        refine lv_aload_n hx hb dX10_load_49 rfl (lv_at hl 1 rfl) ?_
        refine g_calli (cw0 := fun M => rcells cI cZ ad M Y) (M := M9) (As := []) (rest := []) C0 hW hl.1 (k_layKeyAndValue (l := l) _  _ hw) (cwV 0 hts gX10_load_X10_layKeyAndValue rfl rfl rfl (by decide +kernel) ⟨Nat.le_of_ble_eq_true rfl, Nat.le_of_ble_eq_true rfl⟩) (r_recv C0 hW) (Nat.le_of_ble_eq_true rfl) dX10_load_50 rfl ⟨Nat.le_of_ble_eq_true rfl, Nat.le_of_ble_eq_true rfl⟩ (fun r13 M12 H locs hw hW => ?_)
        try dsimp only at hw
        refine lv_pop hx hb dX10_load_53 rfl ?_
        refine lv_aload_n hx hb dX10_load_54 rfl (lv_at hl 1 rfl) ?_
        refine lv_iload_n hx hb dX10_load_55 rfl (lv_at hl 2 rfl) ?_
        refine lv_sipush (v := 1806) hx hb dX10_load_56 (by decide) ?_
        refine lv_sipush (v := 2107) hx hb dX10_load_59 (by decide) ?_
        refine g_calli (cw0 := fun M => rcells cI cZ ad M Y) (M := M12) (As := [.int x1, .int 1806, .int 2107]) (rest := []) C0 hW hl.1 (k_put (l := l) _ x1 1806 2107 _ hw) (cwV 3 hts gX10_load_X10_put rfl rfl rfl (by decide +kernel) ⟨Nat.le_of_ble_eq_true rfl, Nat.le_of_ble_eq_true rfl⟩) (r_recv C0 hW) (Nat.le_of_ble_eq_true rfl) dX10_load_62 rfl ⟨Nat.le_of_ble_eq_true rfl, Nat.le_of_ble_eq_true rfl⟩ (fun r15 M14 H locs hw hW => ?_)
        try dsimp only at hw
        refine lv_if_ne (tgt := 78) hx hb dX10_load_65 (by decide) (fun c16 => ?_) (fun c16 => ?_)
        · have hw := hw.1 c16
          try dsimp only at hw
          obtain ⟨v17, ev17⟩ : ∃ y : Int32, y = x2 + 1 := ⟨_, rfl⟩
          have hw := hw v17 ev17
          refine lv_iinc (v := v17) (lv' := [(2, .int v17), (3, .int r10), (0, .ref (ad 0)), (1, .int x1)]) hx hb dX10_load_78 hl (k := 3) rfl (by rw [ev17]; rfl) (by decide) rfl (fun ls hl => ?_)
          refine lv_goto (tgt := 30) hx hb dX10_load_81 (by decide) ?_
          exact ih x1 v17 r10 M14 hw _ _ _ hW (lv_sub hl [2, 3, 0, 1] rfl)
        · have hw := hw.2 c16
          try dsimp only at hw
          refine lv_aload_n hx hb dX10_load_68 rfl (lv_at hl 1 rfl) ?_
          refine lv_bipush (v := 12) hx hb dX10_load_69 (by decide) ?_
          refine lv_iload_n hx hb dX10_load_71 rfl (lv_at hl 2 rfl) ?_
          refine g_callv (cw0 := fun M => rcells cI cZ ad M Y) (M := M14) (As := [.int 12, .int x1]) (rest := []) C0 hW hl.1 (k_copyLayer (l := l) _ 12 x1 _ hw) (cwV 2 hts gX10_load_X10_copyLayer rfl rfl rfl (by decide +kernel) ⟨Nat.le_of_ble_eq_true rfl, Nat.le_of_ble_eq_true rfl⟩) (r_recv C0 hW) (Nat.le_of_ble_eq_true rfl) dX10_load_72 rfl ⟨Nat.le_of_ble_eq_true rfl, Nat.le_of_ble_eq_true rfl⟩ (fun M18 H locs hw hW => ?_)
          try dsimp only at hw
          refine lv_bipush (v := (-3)) hx hb dX10_load_75 (by decide) ?_
          exact hret (-3) M18 _ _ 0 0 (Nat.le_refl _) (Nat.le_refl _) hw rfl dX10_load_77 _ _ _ hW hl
set_option maxHeartbeats 4000000 in
set_option maxRecDepth 100000 in
theorem t_load_0 (C0 : rX p s m args c cX10_load 4 RX10 wsX10_load D ((cI, .int) :: (cZ, .boolean) :: ty') A) (post : Int32 → RM → Prop) (hret : ∀ (r : Int32) (M' : RM) (pc : Nat) (lv : List (Nat × Value)) (k n : Nat), k ≤ 0 → n ≤ 0 → post r M' → narrow .int (.int r) = .int r → decode cX10_load pc = .ok (.ireturn, 1) → gG p l e rm_load s m args below meth c Q D A 4 k n (rcells cI cZ ad M' Y) pc lv [.int r])  : ∀  (a1 : Int32) (M : RM), w_load post   a1 M → gG p l e rm_load s m args below meth c Q D A 4 0 0 (rcells cI cZ ad M Y) 0 [(0, .ref (ad 0)), (1, .int a1)] [] := by
  obtain ⟨hx, hb, hml, ho, hts, hK, hA⟩ := id C0
  have hin := in_load
  intro a1 M hw H locs ls hW hl
  rw [w_load] at hw
  refine lv_iload_n hx hb dX10_load_0 rfl (lv_at hl 1 rfl) ?_
  refine g_calls (As := [.int a1]) (rest := []) ⟨hx, hb, hml, ho, hts⟩ hl.1 (k_isLayer (l := l) _ a1 hw) (va_cwS 1 hts gX10_load_X10_isLayer rfl rfl rfl (by decide +kernel) ⟨Nat.le_of_ble_eq_true rfl, Nat.le_of_ble_eq_true rfl⟩) (Nat.le_of_ble_eq_true rfl) dX10_load_1 rfl ⟨Nat.le_of_ble_eq_true rfl, Nat.le_of_ble_eq_true rfl⟩ (fun r1 hw => ?_)
  try dsimp only at hw
  refine lv_if_ne (tgt := 9) hx hb dX10_load_4 (by decide) (fun c2 => ?_) (fun c2 => ?_)
  · have hw := hw.1 c2
    try dsimp only at hw
    refine lv_aload_n hx hb dX10_load_9 rfl (lv_at hl 0 rfl) ?_
    refine g_calli (cw0 := fun M => rcells cI cZ ad M Y) (M := M) (As := []) (rest := []) C0 hW hl.1 (k_firstBroken (l := l) _  _ hw) (cwV 0 hts gX10_load_X10_firstBroken rfl rfl rfl (by decide +kernel) ⟨Nat.le_of_ble_eq_true rfl, Nat.le_of_ble_eq_true rfl⟩) (r_recv C0 hW) (Nat.le_of_ble_eq_true rfl) dX10_load_10 rfl ⟨Nat.le_of_ble_eq_true rfl, Nat.le_of_ble_eq_true rfl⟩ (fun r4 M3 H locs hw hW => ?_)
    try dsimp only at hw
    refine lv_if_lt (tgt := 19) hx hb dX10_load_13 (by decide) (fun c5 => ?_) (fun c5 => ?_)
    · have hw := hw.1 c5
      try dsimp only at hw
      refine lv_aload_n hx hb dX10_load_19 rfl (lv_at hl 0 rfl) ?_
      refine lv_iload_n hx hb dX10_load_20 rfl (lv_at hl 1 rfl) ?_
      refine lv_bipush (v := 12) hx hb dX10_load_21 (by decide) ?_
      refine g_callv (cw0 := fun M => rcells cI cZ ad M Y) (M := M3) (As := [.int a1, .int 12]) (rest := []) C0 hW hl.1 (k_copyLayer (l := l) _ a1 12 _ hw) (cwV 2 hts gX10_load_X10_copyLayer rfl rfl rfl (by decide +kernel) ⟨Nat.le_of_ble_eq_true rfl, Nat.le_of_ble_eq_true rfl⟩) (r_recv C0 hW) (Nat.le_of_ble_eq_true rfl) dX10_load_23 rfl ⟨Nat.le_of_ble_eq_true rfl, Nat.le_of_ble_eq_true rfl⟩ (fun M6 H locs hw hW => ?_)
      try dsimp only at hw
      refine lv_iconst (v := 0) hx hb dX10_load_26 (by decide) ?_
      refine lv_istore_n (lv' := [(2, .int 0), (0, .ref (ad 0)), (1, .int a1)]) hx hb dX10_load_27 rfl hl (by decide) rfl (fun ls hl => ?_)
      refine lv_iconst (v := 0) hx hb dX10_load_28 (by decide) ?_
      refine lv_istore_n (lv' := [(3, .int 0), (2, .int 0), (0, .ref (ad 0)), (1, .int a1)]) hx hb dX10_load_29 rfl hl (by decide) rfl (fun ls hl => ?_)
      obtain ⟨n7, hw⟩ := hw
      exact t_load_30 C0 post hret  n7 a1 0 0 M6 hw _ _ _ hW (lv_sub hl [2, 3, 1, 0] rfl)
    · have hw := hw.2 c5
      try dsimp only at hw
      refine lv_bipush (v := (-6)) hx hb dX10_load_16 (by decide) ?_
      exact hret (-6) M3 _ _ 0 0 (Nat.le_refl _) (Nat.le_refl _) hw rfl dX10_load_18 _ _ _ hW hl
  · have hw := hw.2 c2
    try dsimp only at hw
    refine lv_iconst (v := (-1)) hx hb dX10_load_7 (by decide) ?_
    exact hret (-1) M _ _ 0 0 (Nat.le_refl _) (Nat.le_refl _) hw rfl dX10_load_8 _ _ _ hW hl
set_option maxHeartbeats 4000000 in
set_option maxRecDepth 100000 in
theorem k_load {l : Launch} {D : va_G} {cI cZ : ClassId} {ty' : List (ClassId × FieldType)} {ad : Nat → Nat} {Y : va_W} {sz : Nat} (post : Int32 → RM → Prop) (a1 : Int32) (M : RM) (hw : w_load post a1 M) : gMi l yX10_load wsX10_load rm_load D ((cI, .int) :: (cZ, .boolean) :: ty') sz (fun M => rcells cI cZ ad M Y) M [.ref (ad 0), .int a1] post 0 0 := by
  refine gMi_of (cc := cX10_load) (nL := 4) (ty := .int) (own := RX10) (by decide) rfl rfl (Nat.le_of_ble_eq_true rfl) ?_
  intro p e s m args below meth c A Q C0 hret
  exact t_load_0 C0 post hret a1 M hw
abbrev rm_writes : Room := { frames := 0, cells := 0, slots := 0, locals := 0 }
theorem in_writes : ∀ w ∈ wsX100, w ∈ wsX10_writes := fun w hw => List.mem_cons_of_mem _ (List.mem_append_right _ hw)
set_option maxHeartbeats 4000000 in
set_option maxRecDepth 100000 in
theorem t_writes_20 (C0 : rX p s m args c cX10_writes 2 RX10 wsX10_writes D ((cI, .int) :: (cZ, .boolean) :: ty') A) (post : RM → Prop) (hret : ∀ (M' : RM) (pc : Nat) (lv : List (Nat × Value)) (k n : Nat), k ≤ 0 → n ≤ 0 → post M' → decode cX10_writes pc = .ok (.return_, 1) → gG p l e rm_writes s m args below meth c Q D A 2 k n (rcells cI cZ ad M' Y) pc lv [])  : ∀  (M : RM), w_writes_20 post    M → gG p l e rm_writes s m args below meth c Q D A 2 0 0 (rcells cI cZ ad M Y) 20 [(0, .ref (ad 0))] [] := by
  obtain ⟨hx, hb, hml, ho, hts, hK, hA⟩ := id C0
  have hin := in_writes
  intro  M hw H locs ls hW hl
  rw [w_writes_20] at hw
  refine lv_aload_n hx hb dX10_writes_20 rfl (lv_at hl 0 rfl) ?_
  refine lv_dup hx hb dX10_writes_21 rfl ?_
  refine r_get C0 hin hW 6 (by decide) (v := .int (M 0 1)) rfl (List.mem_of_getElem? (i := 1) rfl) rfl dX10_writes_22 ?_
  refine lv_iconst (v := 1) hx hb dX10_writes_25 (by decide) ?_
  refine lv_iadd hx hb dX10_writes_26 ?_
  refine r_put C0 hin hW 6 1 (by decide) (List.mem_of_getElem? (i := 1) rfl) rfl rfl (by decide +kernel) rfl dX10_writes_27 (fun M4 H locs eM4 hW => ?_)
  have hw := hw M4 eM4
  exact hret M4 _ _ 0 0 (Nat.le_refl _) (Nat.le_refl _) hw dX10_writes_30 _ _ _ hW hl
set_option maxHeartbeats 4000000 in
set_option maxRecDepth 100000 in
theorem t_writes_0 (C0 : rX p s m args c cX10_writes 2 RX10 wsX10_writes D ((cI, .int) :: (cZ, .boolean) :: ty') A) (post : RM → Prop) (hret : ∀ (M' : RM) (pc : Nat) (lv : List (Nat × Value)) (k n : Nat), k ≤ 0 → n ≤ 0 → post M' → decode cX10_writes pc = .ok (.return_, 1) → gG p l e rm_writes s m args below meth c Q D A 2 k n (rcells cI cZ ad M' Y) pc lv [])  : ∀  (a1 : Int32) (M : RM), w_writes post   a1 M → gG p l e rm_writes s m args below meth c Q D A 2 0 0 (rcells cI cZ ad M Y) 0 [(0, .ref (ad 0)), (1, .int a1)] [] := by
  obtain ⟨hx, hb, hml, ho, hts, hK, hA⟩ := id C0
  have hin := in_writes
  intro a1 M hw H locs ls hW hl
  rw [w_writes] at hw
  refine lv_aload_n hx hb dX10_writes_0 rfl (lv_at hl 0 rfl) ?_
  refine r_get C0 hin hW 6 (by decide) (v := .int (M 0 1)) rfl (List.mem_of_getElem? (i := 1) rfl) rfl dX10_writes_1 ?_
  refine lv_sipush (v := 300) hx hb dX10_writes_4 (by decide) ?_
  refine lv_icmp_ge (tgt := 20) hx hb dX10_writes_7 (by decide) (fun c1 => ?_) (fun c1 => ?_)
  · have hw := hw.1 c1
    try dsimp only at hw
    exact t_writes_20 C0 post hret   M hw _ _ _ hW (lv_sub hl [0] rfl)
  · have hw := hw.2 c1
    try dsimp only at hw
    refine lv_aload_n hx hb dX10_writes_10 rfl (lv_at hl 0 rfl) ?_
    refine r_get C0 hin hW 5 (by decide) (v := .ref (ad 5)) rfl (List.mem_of_getElem? (i := 2) rfl) rfl dX10_writes_11 ?_
    refine lv_aload_n hx hb dX10_writes_14 rfl (lv_at hl 0 rfl) ?_
    refine r_get C0 hin hW 6 (by decide) (v := .int (M 0 1)) rfl (List.mem_of_getElem? (i := 1) rfl) rfl dX10_writes_15 ?_
    refine lv_iload_n hx hb dX10_writes_18 rfl (lv_at hl 1 rfl) ?_
    obtain ⟨h2, hw⟩ := hw
    refine r_iast C0 hW 5 rfl rfl h2 rfl dX10_writes_19 (fun M3 H locs eM3 hW => ?_)
    have hw := hw M3 eM3
    exact t_writes_20 C0 post hret   M3 hw _ _ _ hW (lv_sub hl [0] rfl)
set_option maxHeartbeats 4000000 in
set_option maxRecDepth 100000 in
theorem k_writes {l : Launch} {D : va_G} {cI cZ : ClassId} {ty' : List (ClassId × FieldType)} {ad : Nat → Nat} {Y : va_W} {sz : Nat} (post : RM → Prop) (a1 : Int32) (M : RM) (hw : w_writes post a1 M) : gMv l yX10_writes wsX10_writes rm_writes D ((cI, .int) :: (cZ, .boolean) :: ty') sz (fun M => rcells cI cZ ad M Y) M [.ref (ad 0), .int a1] post 0 0 := by
  refine gMv_of (cc := cX10_writes) (nL := 2) (own := RX10) (by decide) rfl rfl (Nat.le_of_ble_eq_true rfl) ?_
  intro p e s m args below meth c A Q C0 hret
  exact t_writes_0 C0 post hret a1 M hw
abbrev rm_hexSign : Room := { frames := 0, cells := 0, slots := 0, locals := 0 }
set_option maxHeartbeats 4000000 in
set_option maxRecDepth 100000 in
theorem k_hexSign {l : Launch} (post : Int32 → Prop) (a1 : Int32) (hw : q_hexSign post a1) : gMs l yX10_hexSign wsX10_hexSign rm_hexSign [.int a1] post := by
  refine gMs_of (cc := cX10_hexSign) (nL := 1) (ty := .int) (own := RX10) (by decide) rfl rfl (Nat.le_of_ble_eq_true rfl) ?_
  intro p e s m args below meth c Q hx hb hml ho hts hret ls hl
  rw [q_hexSign] at hw
  refine lv_iload_n hx hb dX10_hexSign_0 rfl (lv_at hl 0 rfl) ?_
  refine lv_bipush (v := 10) hx hb dX10_hexSign_1 (by decide) ?_
  refine lv_icmp_ge (tgt := 13) hx hb dX10_hexSign_3 (by decide) (fun c1 => ?_) (fun c1 => ?_)
  · have hw := hw.1 c1
    try dsimp only at hw
    refine lv_bipush (v := 97) hx hb dX10_hexSign_13 (by decide) ?_
    refine lv_iload_n hx hb dX10_hexSign_15 rfl (lv_at hl 0 rfl) ?_
    refine lv_iadd hx hb dX10_hexSign_16 ?_
    refine lv_bipush (v := 10) hx hb dX10_hexSign_17 (by decide) ?_
    refine lv_isub hx hb dX10_hexSign_19 ?_
    exact hret ((97 + a1) - 10) _ _ hw rfl dX10_hexSign_20
  · have hw := hw.2 c1
    try dsimp only at hw
    refine lv_bipush (v := 48) hx hb dX10_hexSign_6 (by decide) ?_
    refine lv_iload_n hx hb dX10_hexSign_8 rfl (lv_at hl 0 rfl) ?_
    refine lv_iadd hx hb dX10_hexSign_9 ?_
    refine lv_goto (tgt := 20) hx hb dX10_hexSign_10 (by decide) ?_
    exact hret (48 + a1) _ _ hw rfl dX10_hexSign_20
abbrev rm_writesSign : Room := { frames := 1, cells := 0, slots := 0, locals := 21 }
theorem in_writesSign : ∀ w ∈ wsX100, w ∈ wsX10_writesSign := fun w hw => List.mem_cons_of_mem _ (List.mem_append_right _ hw)
set_option maxHeartbeats 4000000 in
set_option maxRecDepth 100000 in
theorem t_writesSign_115 (C0 : rX p s m args c cX10_writesSign 4 RX10 wsX10_writesSign D ((cI, .int) :: (cZ, .boolean) :: ty') A) (post : RM → Prop) (hret : ∀ (M' : RM) (pc : Nat) (lv : List (Nat × Value)) (k n : Nat), k ≤ 0 → n ≤ 0 → post M' → decode cX10_writesSign pc = .ok (.return_, 1) → gG p l e rm_writesSign s m args below meth c Q D A 4 k n (rcells cI cZ ad M' Y) pc lv [])  : ∀  (s0 : Int32) (M : RM), w_writesSign_115 post   s0 M → gG p l e rm_writesSign s m args below meth c Q D A 4 0 0 (rcells cI cZ ad M Y) 115 [(0, .ref (ad 0))] [.int s0, .ref (ad 0)] := by
  obtain ⟨hx, hb, hml, ho, hts, hK, hA⟩ := id C0
  have hin := in_writesSign
  intro s0 M hw H locs ls hW hl
  rw [w_writesSign_115] at hw
  refine g_callv (cw0 := fun M => rcells cI cZ ad M Y) (M := M) (As := [.int s0]) (rest := []) C0 hW hl.1 (k_writes (l := l) _ s0 _ hw) (cwV 1 hts gX10_writesSign_X10_writes rfl rfl rfl (by decide +kernel) ⟨Nat.le_of_ble_eq_true rfl, Nat.le_of_ble_eq_true rfl⟩) (r_recv C0 hW) (Nat.le_of_ble_eq_true rfl) dX10_writesSign_115 rfl ⟨Nat.le_of_ble_eq_true rfl, Nat.le_of_ble_eq_true rfl⟩ (fun M19 H locs hw hW => ?_)
  try dsimp only at hw
  refine lv_goto (tgt := 187) hx hb dX10_writesSign_118 (by decide) ?_
  exact hret M19 _ _ 0 0 (Nat.le_refl _) (Nat.le_refl _) hw dX10_writesSign_187 _ _ _ hW hl
set_option maxHeartbeats 4000000 in
set_option maxRecDepth 100000 in
theorem t_writesSign_74 (C0 : rX p s m args c cX10_writesSign 4 RX10 wsX10_writesSign D ((cI, .int) :: (cZ, .boolean) :: ty') A) (post : RM → Prop) (hret : ∀ (M' : RM) (pc : Nat) (lv : List (Nat × Value)) (k n : Nat), k ≤ 0 → n ≤ 0 → post M' → decode cX10_writesSign pc = .ok (.return_, 1) → gG p l e rm_writesSign s m args below meth c Q D A 4 k n (rcells cI cZ ad M' Y) pc lv [])  : ∀  (x1 : Int32) (M : RM), w_writesSign_74 post   x1 M → gG p l e rm_writesSign s m args below meth c Q D A 4 0 0 (rcells cI cZ ad M Y) 74 [(0, .ref (ad 0)), (1, .int x1)] [] := by
  obtain ⟨hx, hb, hml, ho, hts, hK, hA⟩ := id C0
  have hin := in_writesSign
  intro x1 M hw H locs ls hW hl
  rw [w_writesSign_74] at hw
  refine lv_aload_n hx hb dX10_writesSign_74 rfl (lv_at hl 0 rfl) ?_
  refine lv_bipush (v := 92) hx hb dX10_writesSign_75 (by decide) ?_
  refine g_callv (cw0 := fun M => rcells cI cZ ad M Y) (M := M) (As := [.int 92]) (rest := []) C0 hW hl.1 (k_writes (l := l) _ 92 _ hw) (cwV 1 hts gX10_writesSign_X10_writes rfl rfl rfl (by decide +kernel) ⟨Nat.le_of_ble_eq_true rfl, Nat.le_of_ble_eq_true rfl⟩) (r_recv C0 hW) (Nat.le_of_ble_eq_true rfl) dX10_writesSign_77 rfl ⟨Nat.le_of_ble_eq_true rfl, Nat.le_of_ble_eq_true rfl⟩ (fun M15 H locs hw hW => ?_)
  try dsimp only at hw
  refine lv_aload_n hx hb dX10_writesSign_80 rfl (lv_at hl 0 rfl) ?_
  refine lv_iload_n hx hb dX10_writesSign_81 rfl (lv_at hl 1 rfl) ?_
  refine lv_bipush (v := 9) hx hb dX10_writesSign_82 (by decide) ?_
  refine lv_icmp_ne (tgt := 92) hx hb dX10_writesSign_84 (by decide) (fun c16 => ?_) (fun c16 => ?_)
  · have hw := hw.1 c16
    try dsimp only at hw
    refine lv_iload_n hx hb dX10_writesSign_92 rfl (lv_at hl 1 rfl) ?_
    refine lv_bipush (v := 10) hx hb dX10_writesSign_93 (by decide) ?_
    refine lv_icmp_ne (tgt := 103) hx hb dX10_writesSign_95 (by decide) (fun c17 => ?_) (fun c17 => ?_)
    · have hw := hw.1 c17
      try dsimp only at hw
      refine lv_iload_n hx hb dX10_writesSign_103 rfl (lv_at hl 1 rfl) ?_
      refine lv_bipush (v := 13) hx hb dX10_writesSign_104 (by decide) ?_
      refine lv_icmp_ne (tgt := 114) hx hb dX10_writesSign_106 (by decide) (fun c18 => ?_) (fun c18 => ?_)
      · have hw := hw.1 c18
        try dsimp only at hw
        refine lv_iload_n hx hb dX10_writesSign_114 rfl (lv_at hl 1 rfl) ?_
        exact t_writesSign_115 C0 post hret  x1 M15 hw _ _ _ hW (lv_sub hl [0] rfl)
      · have hw := hw.2 c18
        try dsimp only at hw
        refine lv_bipush (v := 114) hx hb dX10_writesSign_109 (by decide) ?_
        refine lv_goto (tgt := 115) hx hb dX10_writesSign_111 (by decide) ?_
        exact t_writesSign_115 C0 post hret  114 M15 hw _ _ _ hW (lv_sub hl [0] rfl)
    · have hw := hw.2 c17
      try dsimp only at hw
      refine lv_bipush (v := 110) hx hb dX10_writesSign_98 (by decide) ?_
      refine lv_goto (tgt := 115) hx hb dX10_writesSign_100 (by decide) ?_
      exact t_writesSign_115 C0 post hret  110 M15 hw _ _ _ hW (lv_sub hl [0] rfl)
  · have hw := hw.2 c16
    try dsimp only at hw
    refine lv_bipush (v := 116) hx hb dX10_writesSign_87 (by decide) ?_
    refine lv_goto (tgt := 115) hx hb dX10_writesSign_89 (by decide) ?_
    exact t_writesSign_115 C0 post hret  116 M15 hw _ _ _ hW (lv_sub hl [0] rfl)
set_option maxHeartbeats 4000000 in
set_option maxRecDepth 100000 in
theorem t_writesSign_133 (C0 : rX p s m args c cX10_writesSign 4 RX10 wsX10_writesSign D ((cI, .int) :: (cZ, .boolean) :: ty') A) (post : RM → Prop) (hret : ∀ (M' : RM) (pc : Nat) (lv : List (Nat × Value)) (k n : Nat), k ≤ 0 → n ≤ 0 → post M' → decode cX10_writesSign pc = .ok (.return_, 1) → gG p l e rm_writesSign s m args below meth c Q D A 4 k n (rcells cI cZ ad M' Y) pc lv [])  : ∀  (x1 : Int32) (M : RM), w_writesSign_133 post   x1 M → gG p l e rm_writesSign s m args below meth c Q D A 4 0 0 (rcells cI cZ ad M Y) 133 [(0, .ref (ad 0)), (1, .int x1)] [] := by
  obtain ⟨hx, hb, hml, ho, hts, hK, hA⟩ := id C0
  have hin := in_writesSign
  intro x1 M hw H locs ls hW hl
  rw [w_writesSign_133] at hw
  refine lv_aload_n hx hb dX10_writesSign_133 rfl (lv_at hl 0 rfl) ?_
  refine lv_bipush (v := 92) hx hb dX10_writesSign_134 (by decide) ?_
  refine g_callv (cw0 := fun M => rcells cI cZ ad M Y) (M := M) (As := [.int 92]) (rest := []) C0 hW hl.1 (k_writes (l := l) _ 92 _ hw) (cwV 1 hts gX10_writesSign_X10_writes rfl rfl rfl (by decide +kernel) ⟨Nat.le_of_ble_eq_true rfl, Nat.le_of_ble_eq_true rfl⟩) (r_recv C0 hW) (Nat.le_of_ble_eq_true rfl) dX10_writesSign_136 rfl ⟨Nat.le_of_ble_eq_true rfl, Nat.le_of_ble_eq_true rfl⟩ (fun M20 H locs hw hW => ?_)
  try dsimp only at hw
  refine lv_aload_n hx hb dX10_writesSign_139 rfl (lv_at hl 0 rfl) ?_
  refine lv_bipush (v := 117) hx hb dX10_writesSign_140 (by decide) ?_
  refine g_callv (cw0 := fun M => rcells cI cZ ad M Y) (M := M20) (As := [.int 117]) (rest := []) C0 hW hl.1 (k_writes (l := l) _ 117 _ hw) (cwV 1 hts gX10_writesSign_X10_writes rfl rfl rfl (by decide +kernel) ⟨Nat.le_of_ble_eq_true rfl, Nat.le_of_ble_eq_true rfl⟩) (r_recv C0 hW) (Nat.le_of_ble_eq_true rfl) dX10_writesSign_142 rfl ⟨Nat.le_of_ble_eq_true rfl, Nat.le_of_ble_eq_true rfl⟩ (fun M21 H locs hw hW => ?_)
  try dsimp only at hw
  refine lv_aload_n hx hb dX10_writesSign_145 rfl (lv_at hl 0 rfl) ?_
  refine lv_bipush (v := 48) hx hb dX10_writesSign_146 (by decide) ?_
  refine g_callv (cw0 := fun M => rcells cI cZ ad M Y) (M := M21) (As := [.int 48]) (rest := []) C0 hW hl.1 (k_writes (l := l) _ 48 _ hw) (cwV 1 hts gX10_writesSign_X10_writes rfl rfl rfl (by decide +kernel) ⟨Nat.le_of_ble_eq_true rfl, Nat.le_of_ble_eq_true rfl⟩) (r_recv C0 hW) (Nat.le_of_ble_eq_true rfl) dX10_writesSign_148 rfl ⟨Nat.le_of_ble_eq_true rfl, Nat.le_of_ble_eq_true rfl⟩ (fun M22 H locs hw hW => ?_)
  try dsimp only at hw
  refine lv_aload_n hx hb dX10_writesSign_151 rfl (lv_at hl 0 rfl) ?_
  refine lv_bipush (v := 48) hx hb dX10_writesSign_152 (by decide) ?_
  refine g_callv (cw0 := fun M => rcells cI cZ ad M Y) (M := M22) (As := [.int 48]) (rest := []) C0 hW hl.1 (k_writes (l := l) _ 48 _ hw) (cwV 1 hts gX10_writesSign_X10_writes rfl rfl rfl (by decide +kernel) ⟨Nat.le_of_ble_eq_true rfl, Nat.le_of_ble_eq_true rfl⟩) (r_recv C0 hW) (Nat.le_of_ble_eq_true rfl) dX10_writesSign_154 rfl ⟨Nat.le_of_ble_eq_true rfl, Nat.le_of_ble_eq_true rfl⟩ (fun M23 H locs hw hW => ?_)
  try dsimp only at hw
  refine lv_aload_n hx hb dX10_writesSign_157 rfl (lv_at hl 0 rfl) ?_
  refine lv_iload_n hx hb dX10_writesSign_158 rfl (lv_at hl 1 rfl) ?_
  refine lv_bipush (v := 16) hx hb dX10_writesSign_159 (by decide) ?_
  refine lv_idiv hx hb dX10_writesSign_161 (by decide) ?_
  refine g_calls (As := [.int (x1 / 16)]) (rest := [.ref (ad 0)]) ⟨hx, hb, hml, ho, hts⟩ hl.1 (k_hexSign (l := l) _ (x1 / 16) hw) (va_cwS 1 hts gX10_writesSign_X10_hexSign rfl rfl rfl (by decide +kernel) ⟨Nat.le_of_ble_eq_true rfl, Nat.le_of_ble_eq_true rfl⟩) (Nat.le_of_ble_eq_true rfl) dX10_writesSign_162 rfl ⟨Nat.le_of_ble_eq_true rfl, Nat.le_of_ble_eq_true rfl⟩ (fun r24 hw => ?_)
  try dsimp only at hw
  refine g_callv (cw0 := fun M => rcells cI cZ ad M Y) (M := M23) (As := [.int r24]) (rest := []) C0 hW hl.1 (k_writes (l := l) _ r24 _ hw) (cwV 1 hts gX10_writesSign_X10_writes rfl rfl rfl (by decide +kernel) ⟨Nat.le_of_ble_eq_true rfl, Nat.le_of_ble_eq_true rfl⟩) (r_recv C0 hW) (Nat.le_of_ble_eq_true rfl) dX10_writesSign_165 rfl ⟨Nat.le_of_ble_eq_true rfl, Nat.le_of_ble_eq_true rfl⟩ (fun M25 H locs hw hW => ?_)
  try dsimp only at hw
  refine lv_aload_n hx hb dX10_writesSign_168 rfl (lv_at hl 0 rfl) ?_
  refine lv_iload_n hx hb dX10_writesSign_169 rfl (lv_at hl 1 rfl) ?_
  refine lv_bipush (v := 16) hx hb dX10_writesSign_170 (by decide) ?_
  refine lv_irem hx hb dX10_writesSign_172 (by decide) ?_
  refine g_calls (As := [.int (x1 - x1 / 16 * 16)]) (rest := [.ref (ad 0)]) ⟨hx, hb, hml, ho, hts⟩ hl.1 (k_hexSign (l := l) _ (x1 - x1 / 16 * 16) hw) (va_cwS 1 hts gX10_writesSign_X10_hexSign rfl rfl rfl (by decide +kernel) ⟨Nat.le_of_ble_eq_true rfl, Nat.le_of_ble_eq_true rfl⟩) (Nat.le_of_ble_eq_true rfl) dX10_writesSign_173 rfl ⟨Nat.le_of_ble_eq_true rfl, Nat.le_of_ble_eq_true rfl⟩ (fun r26 hw => ?_)
  try dsimp only at hw
  refine g_callv (cw0 := fun M => rcells cI cZ ad M Y) (M := M25) (As := [.int r26]) (rest := []) C0 hW hl.1 (k_writes (l := l) _ r26 _ hw) (cwV 1 hts gX10_writesSign_X10_writes rfl rfl rfl (by decide +kernel) ⟨Nat.le_of_ble_eq_true rfl, Nat.le_of_ble_eq_true rfl⟩) (r_recv C0 hW) (Nat.le_of_ble_eq_true rfl) dX10_writesSign_176 rfl ⟨Nat.le_of_ble_eq_true rfl, Nat.le_of_ble_eq_true rfl⟩ (fun M27 H locs hw hW => ?_)
  try dsimp only at hw
  refine lv_goto (tgt := 187) hx hb dX10_writesSign_179 (by decide) ?_
  exact hret M27 _ _ 0 0 (Nat.le_refl _) (Nat.le_refl _) hw dX10_writesSign_187 _ _ _ hW hl
set_option maxHeartbeats 4000000 in
set_option maxRecDepth 100000 in
theorem t_writesSign_65 (C0 : rX p s m args c cX10_writesSign 4 RX10 wsX10_writesSign D ((cI, .int) :: (cZ, .boolean) :: ty') A) (post : RM → Prop) (hret : ∀ (M' : RM) (pc : Nat) (lv : List (Nat × Value)) (k n : Nat), k ≤ 0 → n ≤ 0 → post M' → decode cX10_writesSign pc = .ok (.return_, 1) → gG p l e rm_writesSign s m args below meth c Q D A 4 k n (rcells cI cZ ad M' Y) pc lv [])  : ∀  (x1 x2 s0 : Int32) (M : RM), w_writesSign_65 post   x1 x2 s0 M → gG p l e rm_writesSign s m args below meth c Q D A 4 0 0 (rcells cI cZ ad M Y) 65 [(0, .ref (ad 0)), (1, .int x1), (2, .int x2)] [.int s0] := by
  obtain ⟨hx, hb, hml, ho, hts, hK, hA⟩ := id C0
  have hin := in_writesSign
  intro x1 x2 s0 M hw H locs ls hW hl
  rw [w_writesSign_65] at hw
  refine lv_istore_n (lv' := [(3, .int s0), (0, .ref (ad 0)), (1, .int x1), (2, .int x2)]) hx hb dX10_writesSign_65 rfl hl (by decide) rfl (fun ls hl => ?_)
  refine lv_iload_n hx hb dX10_writesSign_66 rfl (lv_at hl 3 rfl) ?_
  refine lv_if_ne (tgt := 74) hx hb dX10_writesSign_67 (by decide) (fun c10 => ?_) (fun c10 => ?_)
  · have hw := hw.1 c10
    try dsimp only at hw
    exact t_writesSign_74 C0 post hret  x1 M hw _ _ _ hW (lv_sub hl [1, 2] rfl)
  · have hw := hw.2 c10
    try dsimp only at hw
    refine lv_iload_n hx hb dX10_writesSign_70 rfl (lv_at hl 0 rfl) ?_
    refine lv_if_eq (tgt := 121) hx hb dX10_writesSign_71 (by decide) (fun c11 => ?_) (fun c11 => ?_)
    · have hw := hw.1 c11
      try dsimp only at hw
      refine lv_iload_n hx hb dX10_writesSign_121 rfl (lv_at hl 2 rfl) ?_
      refine lv_bipush (v := 32) hx hb dX10_writesSign_122 (by decide) ?_
      refine lv_icmp_lt (tgt := 133) hx hb dX10_writesSign_124 (by decide) (fun c12 => ?_) (fun c12 => ?_)
      · have hw := hw.1 c12
        try dsimp only at hw
        exact t_writesSign_133 C0 post hret  x1 M hw _ _ _ hW (lv_sub hl [1, 2] rfl)
      · have hw := hw.2 c12
        try dsimp only at hw
        refine lv_iload_n hx hb dX10_writesSign_127 rfl (lv_at hl 2 rfl) ?_
        refine lv_bipush (v := 126) hx hb dX10_writesSign_128 (by decide) ?_
        refine lv_icmp_le (tgt := 182) hx hb dX10_writesSign_130 (by decide) (fun c13 => ?_) (fun c13 => ?_)
        · have hw := hw.1 c13
          try dsimp only at hw
          refine lv_aload_n hx hb dX10_writesSign_182 rfl (lv_at hl 1 rfl) ?_
          refine lv_iload_n hx hb dX10_writesSign_183 rfl (lv_at hl 2 rfl) ?_
          refine g_callv (cw0 := fun M => rcells cI cZ ad M Y) (M := M) (As := [.int x1]) (rest := []) C0 hW hl.1 (k_writes (l := l) _ x1 _ hw) (cwV 1 hts gX10_writesSign_X10_writes rfl rfl rfl (by decide +kernel) ⟨Nat.le_of_ble_eq_true rfl, Nat.le_of_ble_eq_true rfl⟩) (r_recv C0 hW) (Nat.le_of_ble_eq_true rfl) dX10_writesSign_184 rfl ⟨Nat.le_of_ble_eq_true rfl, Nat.le_of_ble_eq_true rfl⟩ (fun M14 H locs hw hW => ?_)
          try dsimp only at hw
          exact hret M14 _ _ 0 0 (Nat.le_refl _) (Nat.le_refl _) hw dX10_writesSign_187 _ _ _ hW hl
        · have hw := hw.2 c13
          try dsimp only at hw
          exact t_writesSign_133 C0 post hret  x1 M hw _ _ _ hW (lv_sub hl [1, 2] rfl)
    · have hw := hw.2 c11
      try dsimp only at hw
      exact t_writesSign_74 C0 post hret  x1 M hw _ _ _ hW (lv_sub hl [1, 2] rfl)
set_option maxHeartbeats 4000000 in
set_option maxRecDepth 100000 in
theorem t_writesSign_60 (C0 : rX p s m args c cX10_writesSign 4 RX10 wsX10_writesSign D ((cI, .int) :: (cZ, .boolean) :: ty') A) (post : RM → Prop) (hret : ∀ (M' : RM) (pc : Nat) (lv : List (Nat × Value)) (k n : Nat), k ≤ 0 → n ≤ 0 → post M' → decode cX10_writesSign pc = .ok (.return_, 1) → gG p l e rm_writesSign s m args below meth c Q D A 4 k n (rcells cI cZ ad M' Y) pc lv [])  : ∀  (x1 x2 : Int32) (M : RM), w_writesSign_60 post   x1 x2 M → gG p l e rm_writesSign s m args below meth c Q D A 4 0 0 (rcells cI cZ ad M Y) 60 [(0, .ref (ad 0)), (1, .int x1), (2, .int x2)] [] := by
  obtain ⟨hx, hb, hml, ho, hts, hK, hA⟩ := id C0
  have hin := in_writesSign
  intro x1 x2 M hw H locs ls hW hl
  rw [w_writesSign_60] at hw
  refine lv_iconst (v := 1) hx hb dX10_writesSign_60 (by decide) ?_
  refine lv_goto (tgt := 65) hx hb dX10_writesSign_61 (by decide) ?_
  exact t_writesSign_65 C0 post hret  x1 x2 1 M hw _ _ _ hW (lv_sub hl [0, 1, 2] rfl)
set_option maxHeartbeats 4000000 in
set_option maxRecDepth 100000 in
theorem t_writesSign_23 (C0 : rX p s m args c cX10_writesSign 4 RX10 wsX10_writesSign D ((cI, .int) :: (cZ, .boolean) :: ty') A) (post : RM → Prop) (hret : ∀ (M' : RM) (pc : Nat) (lv : List (Nat × Value)) (k n : Nat), k ≤ 0 → n ≤ 0 → post M' → decode cX10_writesSign pc = .ok (.return_, 1) → gG p l e rm_writesSign s m args below meth c Q D A 4 k n (rcells cI cZ ad M' Y) pc lv [])  : ∀  (x1 s0 : Int32) (M : RM), w_writesSign_23 post   x1 s0 M → gG p l e rm_writesSign s m args below meth c Q D A 4 0 0 (rcells cI cZ ad M Y) 23 [(0, .ref (ad 0)), (1, .int x1)] [.int s0] := by
  obtain ⟨hx, hb, hml, ho, hts, hK, hA⟩ := id C0
  have hin := in_writesSign
  intro x1 s0 M hw H locs ls hW hl
  rw [w_writesSign_23] at hw
  refine lv_istore_n (lv' := [(2, .int s0), (0, .ref (ad 0)), (1, .int x1)]) hx hb dX10_writesSign_23 rfl hl (by decide) rfl (fun ls hl => ?_)
  refine lv_iload_n hx hb dX10_writesSign_24 rfl (lv_at hl 2 rfl) ?_
  refine lv_bipush (v := 92) hx hb dX10_writesSign_25 (by decide) ?_
  refine lv_icmp_eq (tgt := 60) hx hb dX10_writesSign_27 (by decide) (fun c4 => ?_) (fun c4 => ?_)
  · have hw := hw.1 c4
    try dsimp only at hw
    exact t_writesSign_60 C0 post hret  x1 s0 M hw _ _ _ hW (lv_sub hl [1, 2, 0] rfl)
  · have hw := hw.2 c4
    try dsimp only at hw
    refine lv_iload_n hx hb dX10_writesSign_30 rfl (lv_at hl 2 rfl) ?_
    refine lv_bipush (v := 61) hx hb dX10_writesSign_31 (by decide) ?_
    refine lv_icmp_eq (tgt := 60) hx hb dX10_writesSign_33 (by decide) (fun c5 => ?_) (fun c5 => ?_)
    · have hw := hw.1 c5
      try dsimp only at hw
      exact t_writesSign_60 C0 post hret  x1 s0 M hw _ _ _ hW (lv_sub hl [1, 2, 0] rfl)
    · have hw := hw.2 c5
      try dsimp only at hw
      refine lv_iload_n hx hb dX10_writesSign_36 rfl (lv_at hl 2 rfl) ?_
      refine lv_bipush (v := 58) hx hb dX10_writesSign_37 (by decide) ?_
      refine lv_icmp_eq (tgt := 60) hx hb dX10_writesSign_39 (by decide) (fun c6 => ?_) (fun c6 => ?_)
      · have hw := hw.1 c6
        try dsimp only at hw
        exact t_writesSign_60 C0 post hret  x1 s0 M hw _ _ _ hW (lv_sub hl [1, 2, 0] rfl)
      · have hw := hw.2 c6
        try dsimp only at hw
        refine lv_iload_n hx hb dX10_writesSign_42 rfl (lv_at hl 2 rfl) ?_
        refine lv_bipush (v := 35) hx hb dX10_writesSign_43 (by decide) ?_
        refine lv_icmp_eq (tgt := 60) hx hb dX10_writesSign_45 (by decide) (fun c7 => ?_) (fun c7 => ?_)
        · have hw := hw.1 c7
          try dsimp only at hw
          exact t_writesSign_60 C0 post hret  x1 s0 M hw _ _ _ hW (lv_sub hl [1, 2, 0] rfl)
        · have hw := hw.2 c7
          try dsimp only at hw
          refine lv_iload_n hx hb dX10_writesSign_48 rfl (lv_at hl 2 rfl) ?_
          refine lv_bipush (v := 33) hx hb dX10_writesSign_49 (by decide) ?_
          refine lv_icmp_eq (tgt := 60) hx hb dX10_writesSign_51 (by decide) (fun c8 => ?_) (fun c8 => ?_)
          · have hw := hw.1 c8
            try dsimp only at hw
            exact t_writesSign_60 C0 post hret  x1 s0 M hw _ _ _ hW (lv_sub hl [1, 2, 0] rfl)
          · have hw := hw.2 c8
            try dsimp only at hw
            refine lv_iload_n hx hb dX10_writesSign_54 rfl (lv_at hl 2 rfl) ?_
            refine lv_bipush (v := 32) hx hb dX10_writesSign_55 (by decide) ?_
            refine lv_icmp_ne (tgt := 64) hx hb dX10_writesSign_57 (by decide) (fun c9 => ?_) (fun c9 => ?_)
            · have hw := hw.1 c9
              try dsimp only at hw
              refine lv_iconst (v := 0) hx hb dX10_writesSign_64 (by decide) ?_
              exact t_writesSign_65 C0 post hret  x1 s0 0 M hw _ _ _ hW (lv_sub hl [1, 2, 0] rfl)
            · have hw := hw.2 c9
              try dsimp only at hw
              exact t_writesSign_60 C0 post hret  x1 s0 M hw _ _ _ hW (lv_sub hl [1, 2, 0] rfl)
set_option maxHeartbeats 4000000 in
set_option maxRecDepth 100000 in
theorem t_writesSign_18 (C0 : rX p s m args c cX10_writesSign 4 RX10 wsX10_writesSign D ((cI, .int) :: (cZ, .boolean) :: ty') A) (post : RM → Prop) (hret : ∀ (M' : RM) (pc : Nat) (lv : List (Nat × Value)) (k n : Nat), k ≤ 0 → n ≤ 0 → post M' → decode cX10_writesSign pc = .ok (.return_, 1) → gG p l e rm_writesSign s m args below meth c Q D A 4 k n (rcells cI cZ ad M' Y) pc lv [])  : ∀  (x1 : Int32) (M : RM), w_writesSign_18 post   x1 M → gG p l e rm_writesSign s m args below meth c Q D A 4 0 0 (rcells cI cZ ad M Y) 18 [(0, .ref (ad 0)), (1, .int x1)] [] := by
  obtain ⟨hx, hb, hml, ho, hts, hK, hA⟩ := id C0
  have hin := in_writesSign
  intro x1 M hw H locs ls hW hl
  rw [w_writesSign_18] at hw
  refine lv_iconst (v := 1) hx hb dX10_writesSign_18 (by decide) ?_
  refine lv_goto (tgt := 23) hx hb dX10_writesSign_19 (by decide) ?_
  exact t_writesSign_23 C0 post hret  x1 1 M hw _ _ _ hW (lv_sub hl [0, 1] rfl)
set_option maxHeartbeats 4000000 in
set_option maxRecDepth 100000 in
theorem t_writesSign_0 (C0 : rX p s m args c cX10_writesSign 4 RX10 wsX10_writesSign D ((cI, .int) :: (cZ, .boolean) :: ty') A) (post : RM → Prop) (hret : ∀ (M' : RM) (pc : Nat) (lv : List (Nat × Value)) (k n : Nat), k ≤ 0 → n ≤ 0 → post M' → decode cX10_writesSign pc = .ok (.return_, 1) → gG p l e rm_writesSign s m args below meth c Q D A 4 k n (rcells cI cZ ad M' Y) pc lv [])  : ∀  (a1 : Int32) (M : RM), w_writesSign post   a1 M → gG p l e rm_writesSign s m args below meth c Q D A 4 0 0 (rcells cI cZ ad M Y) 0 [(0, .ref (ad 0)), (1, .int a1)] [] := by
  obtain ⟨hx, hb, hml, ho, hts, hK, hA⟩ := id C0
  have hin := in_writesSign
  intro a1 M hw H locs ls hW hl
  rw [w_writesSign] at hw
  refine lv_iload_n hx hb dX10_writesSign_0 rfl (lv_at hl 1 rfl) ?_
  refine lv_bipush (v := 9) hx hb dX10_writesSign_1 (by decide) ?_
  refine lv_icmp_eq (tgt := 18) hx hb dX10_writesSign_3 (by decide) (fun c1 => ?_) (fun c1 => ?_)
  · have hw := hw.1 c1
    try dsimp only at hw
    exact t_writesSign_18 C0 post hret  a1 M hw _ _ _ hW (lv_sub hl [0, 1] rfl)
  · have hw := hw.2 c1
    try dsimp only at hw
    refine lv_iload_n hx hb dX10_writesSign_6 rfl (lv_at hl 1 rfl) ?_
    refine lv_bipush (v := 10) hx hb dX10_writesSign_7 (by decide) ?_
    refine lv_icmp_eq (tgt := 18) hx hb dX10_writesSign_9 (by decide) (fun c2 => ?_) (fun c2 => ?_)
    · have hw := hw.1 c2
      try dsimp only at hw
      exact t_writesSign_18 C0 post hret  a1 M hw _ _ _ hW (lv_sub hl [0, 1] rfl)
    · have hw := hw.2 c2
      try dsimp only at hw
      refine lv_iload_n hx hb dX10_writesSign_12 rfl (lv_at hl 1 rfl) ?_
      refine lv_bipush (v := 13) hx hb dX10_writesSign_13 (by decide) ?_
      refine lv_icmp_ne (tgt := 22) hx hb dX10_writesSign_15 (by decide) (fun c3 => ?_) (fun c3 => ?_)
      · have hw := hw.1 c3
        try dsimp only at hw
        refine lv_iconst (v := 0) hx hb dX10_writesSign_22 (by decide) ?_
        exact t_writesSign_23 C0 post hret  a1 0 M hw _ _ _ hW (lv_sub hl [0, 1] rfl)
      · have hw := hw.2 c3
        try dsimp only at hw
        exact t_writesSign_18 C0 post hret  a1 M hw _ _ _ hW (lv_sub hl [0, 1] rfl)
set_option maxHeartbeats 4000000 in
set_option maxRecDepth 100000 in
theorem k_writesSign {l : Launch} {D : va_G} {cI cZ : ClassId} {ty' : List (ClassId × FieldType)} {ad : Nat → Nat} {Y : va_W} {sz : Nat} (post : RM → Prop) (a1 : Int32) (M : RM) (hw : w_writesSign post a1 M) : gMv l yX10_writesSign wsX10_writesSign rm_writesSign D ((cI, .int) :: (cZ, .boolean) :: ty') sz (fun M => rcells cI cZ ad M Y) M [.ref (ad 0), .int a1] post 0 0 := by
  refine gMv_of (cc := cX10_writesSign) (nL := 4) (own := RX10) (by decide) rfl rfl (Nat.le_of_ble_eq_true rfl) ?_
  intro p e s m args below meth c A Q C0 hret
  exact t_writesSign_0 C0 post hret a1 M hw
end REFM
