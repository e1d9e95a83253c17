section REFM
variable {p : Program} {l : Launch} {e : Env} {s : State} {m : MethodId} {args : Array Value} {below : List Frame} {meth : Method} {c : Code} {Q : State → Prop}
variable {D : va_G} {A : Nat → Prop} {cI cZ : ClassId} {ty' : List (ClassId × FieldType)} {ad : Nat → Nat} {Y : va_W}
abbrev rm_next : Room := { frames := 4, cells := 0, slots := 0, locals := 90 }
theorem in_next : ∀ w ∈ wsX100, w ∈ wsX10_next := fun w hw => List.mem_cons_of_mem _ (List.mem_append_right _ hw)
set_option maxHeartbeats 4000000 in
set_option maxRecDepth 100000 in
theorem t_next_0 (C0 : rX p s m args c cX10_next 3 RX10 wsX10_next D ((cI, .int) :: (cZ, .boolean) :: ty') A) (post : Int32 → RM → Prop) (hret : ∀ (r : Int32) (M' : RM) (pc : Nat) (lv : List (Nat × Value)) (k n : Nat), k ≤ 0 → n ≤ 0 → post r M' → narrow .int (.int r) = .int r → decode cX10_next pc = .ok (.ireturn, 1) → gG p l e rm_next s m args below meth c Q D A 3 k n (rcells cI cZ ad M' Y) pc lv [.int r])  : ∀  (a1 a2 : Int32) (M : RM), w_next post   a1 a2 M → gG p l e rm_next s m args below meth c Q D A 3 0 0 (rcells cI cZ ad M Y) 0 [(0, .ref (ad 0)), (1, .int a1), (2, .int a2)] [] := by
  obtain ⟨hx, hb, hml, ho, hts, hK, hA⟩ := id C0
  have hin := in_next
  intro a1 a2 M hw H locs ls hW hl
  rw [w_next] at hw
  refine lv_iload_n hx hb dX10_next_0 rfl (lv_at hl 1 rfl) ?_
  refine g_calls (As := [.int a1]) (rest := []) ⟨hx, hb, hml, ho, hts⟩ hl.1 (k_isTokenizer (l := l) _ a1 hw) (va_cwS 1 hts gX10_next_X10_isTokenizer rfl rfl rfl (by decide +kernel) ⟨Nat.le_of_ble_eq_true rfl, Nat.le_of_ble_eq_true rfl⟩) (Nat.le_of_ble_eq_true rfl) dX10_next_1 rfl ⟨Nat.le_of_ble_eq_true rfl, Nat.le_of_ble_eq_true rfl⟩ (fun r1 hw => ?_)
  try dsimp only at hw
  refine lv_if_eq (tgt := 14) hx hb dX10_next_4 (by decide) (fun c2 => ?_) (fun c2 => ?_)
  · have hw := hw.1 c2
    try dsimp only at hw
    refine lv_iconst (v := (-1)) hx hb dX10_next_14 (by decide) ?_
    exact hret (-1) M _ _ 0 0 (Nat.le_refl _) (Nat.le_refl _) hw rfl dX10_next_15 _ _ _ hW hl
  · have hw := hw.2 c2
    try dsimp only at hw
    refine lv_iload_n hx hb dX10_next_7 rfl (lv_at hl 2 rfl) ?_
    refine g_calls (As := [.int a2]) (rest := []) ⟨hx, hb, hml, ho, hts⟩ hl.1 (k_isSlot (l := l) _ a2 hw) (va_cwS 1 hts gX10_next_X10_isSlot rfl rfl rfl (by decide +kernel) ⟨Nat.le_of_ble_eq_true rfl, Nat.le_of_ble_eq_true rfl⟩) (Nat.le_of_ble_eq_true rfl) dX10_next_8 rfl ⟨Nat.le_of_ble_eq_true rfl, Nat.le_of_ble_eq_true rfl⟩ (fun r3 hw => ?_)
    try dsimp only at hw
    refine lv_if_ne (tgt := 16) hx hb dX10_next_11 (by decide) (fun c4 => ?_) (fun c4 => ?_)
    · have hw := hw.1 c4
      try dsimp only at hw
      refine lv_aload_n hx hb dX10_next_16 rfl (lv_at hl 0 rfl) ?_
      refine r_get C0 hin hW 7 (by decide) (v := .ref (ad 6)) rfl (List.mem_of_getElem? (i := 1) rfl) rfl dX10_next_17 ?_
      refine lv_iload_n hx hb dX10_next_20 rfl (lv_at hl 1 rfl) ?_
      obtain ⟨h5, hw⟩ := hw
      refine r_zald C0 hW 6 rfl rfl h5 dX10_next_21 ?_
      refine lv_if_ne (tgt := 30) hx hb dX10_next_22 (by decide) (fun c6 => ?_) (fun c6 => ?_)
      · have hw := hw.1 c6
        try dsimp only at hw
        refine lv_aload_n hx hb dX10_next_30 rfl (lv_at hl 0 rfl) ?_
        refine lv_iload_n hx hb dX10_next_31 rfl (lv_at hl 1 rfl) ?_
        refine lv_iload_n hx hb dX10_next_32 rfl (lv_at hl 2 rfl) ?_
        refine g_calli (cw0 := fun M => rcells cI cZ ad M Y) (M := M) (As := [.int a1, .int a2]) (rest := []) C0 hW hl.1 (k_takeToken (l := l) _ a1 a2 _ hw) (cwV 2 hts gX10_next_X10_takeToken rfl rfl rfl (by decide +kernel) ⟨Nat.le_of_ble_eq_true rfl, Nat.le_of_ble_eq_true rfl⟩) (r_recv C0 hW) (Nat.le_of_ble_eq_true rfl) dX10_next_33 rfl ⟨Nat.le_of_ble_eq_true rfl, Nat.le_of_ble_eq_true rfl⟩ (fun r8 M7 H locs hw hW => ?_)
        try dsimp only at hw
        exact hret r8 M7 _ _ 0 0 (Nat.le_refl _) (Nat.le_refl _) hw rfl dX10_next_36 _ _ _ hW hl
      · have hw := hw.2 c6
        try dsimp only at hw
        refine lv_bipush (v := (-4)) hx hb dX10_next_25 (by decide) ?_
        refine lv_goto (tgt := 36) hx hb dX10_next_27 (by decide) ?_
        exact hret (-4) M _ _ 0 0 (Nat.le_refl _) (Nat.le_refl _) hw rfl dX10_next_36 _ _ _ hW hl
    · have hw := hw.2 c4
      try dsimp only at hw
      refine lv_iconst (v := (-1)) hx hb dX10_next_14 (by decide) ?_
      exact hret (-1) M _ _ 0 0 (Nat.le_refl _) (Nat.le_refl _) hw rfl dX10_next_15 _ _ _ hW hl
set_option maxHeartbeats 4000000 in
set_option maxRecDepth 100000 in
theorem k_next {l : Launch} {D : va_G} {cI cZ : ClassId} {ty' : List (ClassId × FieldType)} {ad : Nat → Nat} {Y : va_W} {sz : Nat} (post : Int32 → RM → Prop) (a1 a2 : Int32) (M : RM) (hw : w_next post a1 a2 M) : gMi l yX10_next wsX10_next rm_next D ((cI, .int) :: (cZ, .boolean) :: ty') sz (fun M => rcells cI cZ ad M Y) M [.ref (ad 0), .int a1, .int a2] post 0 0 := by
  refine gMi_of (cc := cX10_next) (nL := 3) (ty := .int) (own := RX10) (by decide) rfl rfl (Nat.le_of_ble_eq_true rfl) ?_
  intro p e s m args below meth c A Q C0 hret
  exact t_next_0 C0 post hret a1 a2 M hw
abbrev rm_nextBy : Room := { frames := 4, cells := 0, slots := 0, locals := 90 }
theorem in_nextBy : ∀ w ∈ wsX100, w ∈ wsX10_nextBy := fun w hw => List.mem_cons_of_mem _ (List.mem_append_right _ hw)
set_option maxHeartbeats 4000000 in
set_option maxRecDepth 100000 in
theorem t_nextBy_0 (C0 : rX p s m args c cX10_nextBy 4 RX10 wsX10_nextBy D ((cI, .int) :: (cZ, .boolean) :: ty') A) (post : Int32 → RM → Prop) (hret : ∀ (r : Int32) (M' : RM) (pc : Nat) (lv : List (Nat × Value)) (k n : Nat), k ≤ 0 → n ≤ 0 → post r M' → narrow .int (.int r) = .int r → decode cX10_nextBy pc = .ok (.ireturn, 1) → gG p l e rm_nextBy s m args below meth c Q D A 4 k n (rcells cI cZ ad M' Y) pc lv [.int r])  : ∀  (a1 a2 a3 : Int32) (M : RM), w_nextBy post   a1 a2 a3 M → gG p l e rm_nextBy s m args below meth c Q D A 4 0 0 (rcells cI cZ ad M Y) 0 [(0, .ref (ad 0)), (1, .int a1), (2, .int a2), (3, .int a3)] [] := by
  obtain ⟨hx, hb, hml, ho, hts, hK, hA⟩ := id C0
  have hin := in_nextBy
  intro a1 a2 a3 M hw H locs ls hW hl
  rw [w_nextBy] at hw
  refine lv_iload_n hx hb dX10_nextBy_0 rfl (lv_at hl 1 rfl) ?_
  refine g_calls (As := [.int a1]) (rest := []) ⟨hx, hb, hml, ho, hts⟩ hl.1 (k_isTokenizer (l := l) _ a1 hw) (va_cwS 1 hts gX10_nextBy_X10_isTokenizer rfl rfl rfl (by decide +kernel) ⟨Nat.le_of_ble_eq_true rfl, Nat.le_of_ble_eq_true rfl⟩) (Nat.le_of_ble_eq_true rfl) dX10_nextBy_1 rfl ⟨Nat.le_of_ble_eq_true rfl, Nat.le_of_ble_eq_true rfl⟩ (fun r1 hw => ?_)
  try dsimp only at hw
  refine lv_if_eq (tgt := 21) hx hb dX10_nextBy_4 (by decide) (fun c2 => ?_) (fun c2 => ?_)
  · have hw := hw.1 c2
    try dsimp only at hw
    refine lv_iconst (v := (-1)) hx hb dX10_nextBy_21 (by decide) ?_
    exact hret (-1) M _ _ 0 0 (Nat.le_refl _) (Nat.le_refl _) hw rfl dX10_nextBy_22 _ _ _ hW hl
  · have hw := hw.2 c2
    try dsimp only at hw
    refine lv_iload_n hx hb dX10_nextBy_7 rfl (lv_at hl 2 rfl) ?_
    refine g_calls (As := [.int a2]) (rest := []) ⟨hx, hb, hml, ho, hts⟩ hl.1 (k_isSlot (l := l) _ a2 hw) (va_cwS 1 hts gX10_nextBy_X10_isSlot rfl rfl rfl (by decide +kernel) ⟨Nat.le_of_ble_eq_true rfl, Nat.le_of_ble_eq_true rfl⟩) (Nat.le_of_ble_eq_true rfl) dX10_nextBy_8 rfl ⟨Nat.le_of_ble_eq_true rfl, Nat.le_of_ble_eq_true rfl⟩ (fun r3 hw => ?_)
    try dsimp only at hw
    refine lv_if_eq (tgt := 21) hx hb dX10_nextBy_11 (by decide) (fun c4 => ?_) (fun c4 => ?_)
    · have hw := hw.1 c4
      try dsimp only at hw
      refine lv_iconst (v := (-1)) hx hb dX10_nextBy_21 (by decide) ?_
      exact hret (-1) M _ _ 0 0 (Nat.le_refl _) (Nat.le_refl _) hw rfl dX10_nextBy_22 _ _ _ hW hl
    · have hw := hw.2 c4
      try dsimp only at hw
      refine lv_iload_n hx hb dX10_nextBy_14 rfl (lv_at hl 3 rfl) ?_
      refine g_calls (As := [.int a3]) (rest := []) ⟨hx, hb, hml, ho, hts⟩ hl.1 (k_isSlot (l := l) _ a3 hw) (va_cwS 1 hts gX10_nextBy_X10_isSlot rfl rfl rfl (by decide +kernel) ⟨Nat.le_of_ble_eq_true rfl, Nat.le_of_ble_eq_true rfl⟩) (Nat.le_of_ble_eq_true rfl) dX10_nextBy_15 rfl ⟨Nat.le_of_ble_eq_true rfl, Nat.le_of_ble_eq_true rfl⟩ (fun r5 hw => ?_)
      try dsimp only at hw
      refine lv_if_ne (tgt := 23) hx hb dX10_nextBy_18 (by decide) (fun c6 => ?_) (fun c6 => ?_)
      · have hw := hw.1 c6
        try dsimp only at hw
        refine lv_aload_n hx hb dX10_nextBy_23 rfl (lv_at hl 0 rfl) ?_
        refine r_get C0 hin hW 7 (by decide) (v := .ref (ad 6)) rfl (List.mem_of_getElem? (i := 1) rfl) rfl dX10_nextBy_24 ?_
        refine lv_iload_n hx hb dX10_nextBy_27 rfl (lv_at hl 1 rfl) ?_
        obtain ⟨h7, hw⟩ := hw
        refine r_zald C0 hW 6 rfl rfl h7 dX10_nextBy_28 ?_
        refine lv_if_ne (tgt := 35) hx hb dX10_nextBy_29 (by decide) (fun c8 => ?_) (fun c8 => ?_)
        · have hw := hw.1 c8
          try dsimp only at hw
          refine lv_aload_n hx hb dX10_nextBy_35 rfl (lv_at hl 0 rfl) ?_
          refine lv_iload_n hx hb dX10_nextBy_36 rfl (lv_at hl 2 rfl) ?_
          refine g_calli (cw0 := fun M => rcells cI cZ ad M Y) (M := M) (As := [.int a2]) (rest := []) C0 hW hl.1 (k_hasNothing (l := l) _ a2 _ hw) (cwV 1 hts gX10_nextBy_X10_hasNothing rfl rfl rfl (by decide +kernel) ⟨Nat.le_of_ble_eq_true rfl, Nat.le_of_ble_eq_true rfl⟩) (r_recv C0 hW) (Nat.le_of_ble_eq_true rfl) dX10_nextBy_37 rfl ⟨Nat.le_of_ble_eq_true rfl, Nat.le_of_ble_eq_true rfl⟩ (fun r10 M9 H locs hw hW => ?_)
          try dsimp only at hw
          refine lv_if_eq (tgt := 46) hx hb dX10_nextBy_40 (by decide) (fun c11 => ?_) (fun c11 => ?_)
          · have hw := hw.1 c11
            try dsimp only at hw
            refine lv_aload_n hx hb dX10_nextBy_46 rfl (lv_at hl 0 rfl) ?_
            refine lv_iload_n hx hb dX10_nextBy_47 rfl (lv_at hl 1 rfl) ?_
            refine lv_iload_n hx hb dX10_nextBy_48 rfl (lv_at hl 2 rfl) ?_
            refine g_calls (As := [.int a2]) (rest := [.int a1, .ref (ad 0)]) ⟨hx, hb, hml, ho, hts⟩ hl.1 (k_at (l := l) _ a2 hw) (va_cwS 1 hts gX10_nextBy_X10_at rfl rfl rfl (by decide +kernel) ⟨Nat.le_of_ble_eq_true rfl, Nat.le_of_ble_eq_true rfl⟩) (Nat.le_of_ble_eq_true rfl) dX10_nextBy_49 rfl ⟨Nat.le_of_ble_eq_true rfl, Nat.le_of_ble_eq_true rfl⟩ (fun r12 hw => ?_)
            try dsimp only at hw
            refine g_callv (cw0 := fun M => rcells cI cZ ad M Y) (M := M9) (As := [.int a1, .int r12]) (rest := []) C0 hW hl.1 (k_layDelimiters (l := l) _ a1 r12 _ hw) (cwV 2 hts gX10_nextBy_X10_layDelimiters rfl rfl rfl (by decide +kernel) ⟨Nat.le_of_ble_eq_true rfl, Nat.le_of_ble_eq_true rfl⟩) (r_recv C0 hW) (Nat.le_of_ble_eq_true rfl) dX10_nextBy_52 rfl ⟨Nat.le_of_ble_eq_true rfl, Nat.le_of_ble_eq_true rfl⟩ (fun M13 H locs hw hW => ?_)
            try dsimp only at hw
            refine lv_aload_n hx hb dX10_nextBy_55 rfl (lv_at hl 0 rfl) ?_
            refine lv_iload_n hx hb dX10_nextBy_56 rfl (lv_at hl 1 rfl) ?_
            refine lv_iload_n hx hb dX10_nextBy_57 rfl (lv_at hl 3 rfl) ?_
            refine g_calli (cw0 := fun M => rcells cI cZ ad M Y) (M := M13) (As := [.int a1, .int a3]) (rest := []) C0 hW hl.1 (k_takeToken (l := l) _ a1 a3 _ hw) (cwV 2 hts gX10_nextBy_X10_takeToken rfl rfl rfl (by decide +kernel) ⟨Nat.le_of_ble_eq_true rfl, Nat.le_of_ble_eq_true rfl⟩) (r_recv C0 hW) (Nat.le_of_ble_eq_true rfl) dX10_nextBy_58 rfl ⟨Nat.le_of_ble_eq_true rfl, Nat.le_of_ble_eq_true rfl⟩ (fun r15 M14 H locs hw hW => ?_)
            try dsimp only at hw
            exact hret r15 M14 _ _ 0 0 (Nat.le_refl _) (Nat.le_refl _) hw rfl dX10_nextBy_61 _ _ _ hW hl
          · have hw := hw.2 c11
            try dsimp only at hw
            refine lv_bipush (v := (-2)) hx hb dX10_nextBy_43 (by decide) ?_
            exact hret (-2) M9 _ _ 0 0 (Nat.le_refl _) (Nat.le_refl _) hw rfl dX10_nextBy_45 _ _ _ hW hl
        · have hw := hw.2 c8
          try dsimp only at hw
          refine lv_bipush (v := (-4)) hx hb dX10_nextBy_32 (by decide) ?_
          exact hret (-4) M _ _ 0 0 (Nat.le_refl _) (Nat.le_refl _) hw rfl dX10_nextBy_34 _ _ _ hW hl
      · have hw := hw.2 c6
        try dsimp only at hw
        refine lv_iconst (v := (-1)) hx hb dX10_nextBy_21 (by decide) ?_
        exact hret (-1) M _ _ 0 0 (Nat.le_refl _) (Nat.le_refl _) hw rfl dX10_nextBy_22 _ _ _ hW hl
set_option maxHeartbeats 4000000 in
set_option maxRecDepth 100000 in
theorem k_nextBy {l : Launch} {D : va_G} {cI cZ : ClassId} {ty' : List (ClassId × FieldType)} {ad : Nat → Nat} {Y : va_W} {sz : Nat} (post : Int32 → RM → Prop) (a1 a2 a3 : Int32) (M : RM) (hw : w_nextBy post a1 a2 a3 M) : gMi l yX10_nextBy wsX10_nextBy rm_nextBy D ((cI, .int) :: (cZ, .boolean) :: ty') sz (fun M => rcells cI cZ ad M Y) M [.ref (ad 0), .int a1, .int a2, .int a3] post 0 0 := by
  refine gMi_of (cc := cX10_nextBy) (nL := 4) (ty := .int) (own := RX10) (by decide) rfl rfl (Nat.le_of_ble_eq_true rfl) ?_
  intro p e s m args below meth c A Q C0 hret
  exact t_nextBy_0 C0 post hret a1 a2 a3 M hw
abbrev rm_isJoiner : Room := { frames := 0, cells := 0, slots := 0, locals := 0 }
set_option maxHeartbeats 4000000 in
set_option maxRecDepth 100000 in
theorem k_isJoiner {l : Launch} (post : Int32 → Prop) (a1 : Int32) (hw : q_isJoiner post a1) : gMs l yX10_isJoiner wsX10_isJoiner rm_isJoiner [.int a1] post := by
  refine gMs_of (cc := cX10_isJoiner) (nL := 1) (ty := .boolean) (own := RX10) (by decide) rfl rfl (Nat.le_of_ble_eq_true rfl) ?_
  intro p e s m args below meth c Q hx hb hml ho hts hret ls hl
  rw [q_isJoiner] at hw
  refine lv_iload_n hx hb dX10_isJoiner_0 rfl (lv_at hl 0 rfl) ?_
  refine lv_if_lt (tgt := 13) hx hb dX10_isJoiner_1 (by decide) (fun c1 => ?_) (fun c1 => ?_)
  · have hw := hw.1 c1
    try dsimp only at hw
    refine lv_iconst (v := 0) hx hb dX10_isJoiner_13 (by decide) ?_
    exact hret 0 _ _ hw (by decide) dX10_isJoiner_14
  · have hw := hw.2 c1
    try dsimp only at hw
    refine lv_iload_n hx hb dX10_isJoiner_4 rfl (lv_at hl 0 rfl) ?_
    refine lv_iconst (v := 3) hx hb dX10_isJoiner_5 (by decide) ?_
    refine lv_icmp_ge (tgt := 13) hx hb dX10_isJoiner_6 (by decide) (fun c2 => ?_) (fun c2 => ?_)
    · have hw := hw.1 c2
      try dsimp only at hw
      refine lv_iconst (v := 0) hx hb dX10_isJoiner_13 (by decide) ?_
      exact hret 0 _ _ hw (by decide) dX10_isJoiner_14
    · have hw := hw.2 c2
      try dsimp only at hw
      refine lv_iconst (v := 1) hx hb dX10_isJoiner_9 (by decide) ?_
      refine lv_goto (tgt := 14) hx hb dX10_isJoiner_10 (by decide) ?_
      exact hret 1 _ _ hw (by decide) dX10_isJoiner_14
abbrev rm_part : Room := { frames := 0, cells := 0, slots := 0, locals := 0 }
set_option maxHeartbeats 4000000 in
set_option maxRecDepth 100000 in
theorem k_part {l : Launch} (post : Int32 → Prop) (a1 a2 : Int32) (hw : q_part post a1 a2) : gMs l yX10_part wsX10_part rm_part [.int a1, .int a2] post := by
  refine gMs_of (cc := cX10_part) (nL := 2) (ty := .int) (own := RX10) (by decide) rfl rfl (Nat.le_of_ble_eq_true rfl) ?_
  intro p e s m args below meth c Q hx hb hml ho hts hret ls hl
  rw [q_part] at hw
  refine lv_sipush (v := 2408) hx hb dX10_part_0 (by decide) ?_
  refine lv_sipush (v := 1505) hx hb dX10_part_3 (by decide) ?_
  refine lv_iload_n hx hb dX10_part_6 rfl (lv_at hl 0 rfl) ?_
  refine lv_imul hx hb dX10_part_7 ?_
  refine lv_iadd hx hb dX10_part_8 ?_
  refine lv_iload_n hx hb dX10_part_9 rfl (lv_at hl 1 rfl) ?_
  refine lv_iadd hx hb dX10_part_10 ?_
  exact hret ((2408 + (1505 * a1)) + a2) _ _ hw rfl dX10_part_11
abbrev rm_resultSize : Room := { frames := 1, cells := 0, slots := 0, locals := 21 }
theorem in_resultSize : ∀ w ∈ wsX100, w ∈ wsX10_resultSize := fun w hw => List.mem_cons_of_mem _ (List.mem_append_right _ hw)
set_option maxHeartbeats 4000000 in
set_option maxRecDepth 100000 in
theorem t_resultSize_0 (C0 : rX p s m args c cX10_resultSize 4 RX10 wsX10_resultSize D ((cI, .int) :: (cZ, .boolean) :: ty') A) (post : Int32 → RM → Prop) (hret : ∀ (r : Int32) (M' : RM) (pc : Nat) (lv : List (Nat × Value)) (k n : Nat), k ≤ 0 → n ≤ 0 → post r M' → narrow .int (.int r) = .int r → decode cX10_resultSize pc = .ok (.ireturn, 1) → gG p l e rm_resultSize s m args below meth c Q D A 4 k n (rcells cI cZ ad M' Y) pc lv [.int r])  : ∀  (a1 : Int32) (M : RM), w_resultSize post   a1 M → gG p l e rm_resultSize s m args below meth c Q D A 4 0 0 (rcells cI cZ ad M Y) 0 [(0, .ref (ad 0)), (1, .int a1)] [] := by
  obtain ⟨hx, hb, hml, ho, hts, hK, hA⟩ := id C0
  have hin := in_resultSize
  intro a1 M hw H locs ls hW hl
  rw [w_resultSize] at hw
  refine lv_aload_n hx hb dX10_resultSize_0 rfl (lv_at hl 0 rfl) ?_
  refine r_get C0 hin hW 0 (by decide) (v := .ref (ad 1)) rfl (List.mem_of_getElem? (i := 1) rfl) rfl dX10_resultSize_1 ?_
  refine lv_iload_n hx hb dX10_resultSize_4 rfl (lv_at hl 1 rfl) ?_
  refine lv_sipush (v := 301) hx hb dX10_resultSize_5 (by decide) ?_
  refine g_calls (As := [.int a1, .int 301]) (rest := [.ref (ad 1)]) ⟨hx, hb, hml, ho, hts⟩ hl.1 (k_part (l := l) _ a1 301 hw) (va_cwS 2 hts gX10_resultSize_X10_part rfl rfl rfl (by decide +kernel) ⟨Nat.le_of_ble_eq_true rfl, Nat.le_of_ble_eq_true rfl⟩) (Nat.le_of_ble_eq_true rfl) dX10_resultSize_8 rfl ⟨Nat.le_of_ble_eq_true rfl, Nat.le_of_ble_eq_true rfl⟩ (fun r1 hw => ?_)
  try dsimp only at hw
  obtain ⟨h2, hw⟩ := hw
  refine r_iald C0 hW 1 rfl rfl h2 dX10_resultSize_11 ?_
  refine lv_aload_n hx hb dX10_resultSize_12 rfl (lv_at hl 0 rfl) ?_
  refine r_get C0 hin hW 0 (by decide) (v := .ref (ad 1)) rfl (List.mem_of_getElem? (i := 1) rfl) rfl dX10_resultSize_13 ?_
  refine lv_iload_n hx hb dX10_resultSize_16 rfl (lv_at hl 1 rfl) ?_
  refine lv_sipush (v := 602) hx hb dX10_resultSize_17 (by decide) ?_
  refine g_calls (As := [.int a1, .int 602]) (rest := [.ref (ad 1), .int (M 1 r1.toNatClampNeg)]) ⟨hx, hb, hml, ho, hts⟩ hl.1 (k_part (l := l) _ a1 602 hw) (va_cwS 2 hts gX10_resultSize_X10_part rfl rfl rfl (by decide +kernel) ⟨Nat.le_of_ble_eq_true rfl, Nat.le_of_ble_eq_true rfl⟩) (Nat.le_of_ble_eq_true rfl) dX10_resultSize_20 rfl ⟨Nat.le_of_ble_eq_true rfl, Nat.le_of_ble_eq_true rfl⟩ (fun r3 hw => ?_)
  try dsimp only at hw
  obtain ⟨h4, hw⟩ := hw
  refine r_iald C0 hW 1 rfl rfl h4 dX10_resultSize_23 ?_
  refine lv_iadd hx hb dX10_resultSize_24 ?_
  refine lv_topi (fun v5 ev5 => ?_)
  have hw := hw v5 ev5
  refine lv_istore_n (lv' := [(2, .int v5), (0, .ref (ad 0)), (1, .int a1)]) hx hb dX10_resultSize_25 rfl hl (by decide) rfl (fun ls hl => ?_)
  refine lv_aload_n hx hb dX10_resultSize_26 rfl (lv_at hl 1 rfl) ?_
  refine r_get C0 hin hW 0 (by decide) (v := .ref (ad 1)) rfl (List.mem_of_getElem? (i := 1) rfl) rfl dX10_resultSize_27 ?_
  refine lv_iload_n hx hb dX10_resultSize_30 rfl (lv_at hl 2 rfl) ?_
  refine lv_sipush (v := 903) hx hb dX10_resultSize_31 (by decide) ?_
  refine g_calls (As := [.int a1, .int 903]) (rest := [.ref (ad 1)]) ⟨hx, hb, hml, ho, hts⟩ hl.1 (k_part (l := l) _ a1 903 hw) (va_cwS 2 hts gX10_resultSize_X10_part rfl rfl rfl (by decide +kernel) ⟨Nat.le_of_ble_eq_true rfl, Nat.le_of_ble_eq_true rfl⟩) (Nat.le_of_ble_eq_true rfl) dX10_resultSize_34 rfl ⟨Nat.le_of_ble_eq_true rfl, Nat.le_of_ble_eq_true rfl⟩ (fun r6 hw => ?_)
  try dsimp only at hw
  obtain ⟨h7, hw⟩ := hw
  refine r_iald C0 hW 1 rfl rfl h7 dX10_resultSize_37 ?_
  refine lv_topi (fun v8 ev8 => ?_)
  have hw := hw v8 ev8
  refine lv_istore_n (lv' := [(3, .int v8), (2, .int v5), (0, .ref (ad 0)), (1, .int a1)]) hx hb dX10_resultSize_38 rfl hl (by decide) rfl (fun ls hl => ?_)
  refine lv_aload_n hx hb dX10_resultSize_39 rfl (lv_at hl 2 rfl) ?_
  refine r_get C0 hin hW 11 (by decide) (v := .ref (ad 10)) rfl (List.mem_of_getElem? (i := 2) rfl) rfl dX10_resultSize_40 ?_
  refine lv_iload_n hx hb dX10_resultSize_43 rfl (lv_at hl 3 rfl) ?_
  obtain ⟨h9, hw⟩ := hw
  refine r_zald C0 hW 10 rfl rfl h9 dX10_resultSize_44 ?_
  refine lv_if_eq (tgt := 65) hx hb dX10_resultSize_45 (by decide) (fun c10 => ?_) (fun c10 => ?_)
  · have hw := hw.1 c10
    try dsimp only at hw
    refine lv_iload_n hx hb dX10_resultSize_65 rfl (lv_at hl 0 rfl) ?_
    refine lv_if_lt (tgt := 73) hx hb dX10_resultSize_66 (by decide) (fun c11 => ?_) (fun c11 => ?_)
    · have hw := hw.1 c11
      try dsimp only at hw
      refine lv_iload_n hx hb dX10_resultSize_73 rfl (lv_at hl 1 rfl) ?_
      exact hret v5 M _ _ 0 0 (Nat.le_refl _) (Nat.le_refl _) hw rfl dX10_resultSize_74 _ _ _ hW hl
    · have hw := hw.2 c11
      try dsimp only at hw
      refine lv_iload_n hx hb dX10_resultSize_69 rfl (lv_at hl 0 rfl) ?_
      refine lv_goto (tgt := 74) hx hb dX10_resultSize_70 (by decide) ?_
      exact hret v8 M _ _ 0 0 (Nat.le_refl _) (Nat.le_refl _) hw rfl dX10_resultSize_74 _ _ _ hW hl
  · have hw := hw.2 c10
    try dsimp only at hw
    refine lv_iload_n hx hb dX10_resultSize_48 rfl (lv_at hl 1 rfl) ?_
    refine lv_aload_n hx hb dX10_resultSize_49 rfl (lv_at hl 2 rfl) ?_
    refine r_get C0 hin hW 0 (by decide) (v := .ref (ad 1)) rfl (List.mem_of_getElem? (i := 1) rfl) rfl dX10_resultSize_50 ?_
    refine lv_iload_n hx hb dX10_resultSize_53 rfl (lv_at hl 3 rfl) ?_
    refine lv_sipush (v := 1204) hx hb dX10_resultSize_54 (by decide) ?_
    refine g_calls (As := [.int a1, .int 1204]) (rest := [.ref (ad 1), .int v5]) ⟨hx, hb, hml, ho, hts⟩ hl.1 (k_part (l := l) _ a1 1204 hw) (va_cwS 2 hts gX10_resultSize_X10_part rfl rfl rfl (by decide +kernel) ⟨Nat.le_of_ble_eq_true rfl, Nat.le_of_ble_eq_true rfl⟩) (Nat.le_of_ble_eq_true rfl) dX10_resultSize_57 rfl ⟨Nat.le_of_ble_eq_true rfl, Nat.le_of_ble_eq_true rfl⟩ (fun r12 hw => ?_)
    try dsimp only at hw
    obtain ⟨h13, hw⟩ := hw
    refine r_iald C0 hW 1 rfl rfl h13 dX10_resultSize_60 ?_
    refine lv_iadd hx hb dX10_resultSize_61 ?_
    refine lv_goto (tgt := 74) hx hb dX10_resultSize_62 (by decide) ?_
    exact hret (v5 + (M 1 r12.toNatClampNeg)) M _ _ 0 0 (Nat.le_refl _) (Nat.le_refl _) hw rfl dX10_resultSize_74 _ _ _ hW hl
set_option maxHeartbeats 4000000 in
set_option maxRecDepth 100000 in
theorem k_resultSize {l : Launch} {D : va_G} {cI cZ : ClassId} {ty' : List (ClassId × FieldType)} {ad : Nat → Nat} {Y : va_W} {sz : Nat} (post : Int32 → RM → Prop) (a1 : Int32) (M : RM) (hw : w_resultSize post a1 M) : gMi l yX10_resultSize wsX10_resultSize rm_resultSize D ((cI, .int) :: (cZ, .boolean) :: ty') sz (fun M => rcells cI cZ ad M Y) M [.ref (ad 0), .int a1] post 0 0 := by
  refine gMi_of (cc := cX10_resultSize) (nL := 4) (ty := .int) (own := RX10) (by decide) rfl rfl (Nat.le_of_ble_eq_true rfl) ?_
  intro p e s m args below meth c A Q C0 hret
  exact t_resultSize_0 C0 post hret a1 M hw
abbrev rm_begin : Room := { frames := 1, cells := 0, slots := 0, locals := 21 }
theorem in_begin : ∀ w ∈ wsX100, w ∈ wsX10_begin := fun w hw => List.mem_cons_of_mem _ (List.mem_append_right _ hw)
set_option maxHeartbeats 4000000 in
set_option maxRecDepth 100000 in
theorem t_begin_0 (C0 : rX p s m args c cX10_begin 2 RX10 wsX10_begin D ((cI, .int) :: (cZ, .boolean) :: ty') A) (post : RM → Prop) (hret : ∀ (M' : RM) (pc : Nat) (lv : List (Nat × Value)) (k n : Nat), k ≤ 0 → n ≤ 0 → post M' → decode cX10_begin pc = .ok (.return_, 1) → gG p l e rm_begin s m args below meth c Q D A 2 k n (rcells cI cZ ad M' Y) pc lv [])  : ∀  (a1 : Int32) (M : RM), w_begin post   a1 M → gG p l e rm_begin s m args below meth c Q D A 2 0 0 (rcells cI cZ ad M Y) 0 [(0, .ref (ad 0)), (1, .int a1)] [] := by
  obtain ⟨hx, hb, hml, ho, hts, hK, hA⟩ := id C0
  have hin := in_begin
  intro a1 M hw H locs ls hW hl
  rw [w_begin] at hw
  refine lv_aload_n hx hb dX10_begin_0 rfl (lv_at hl 0 rfl) ?_
  refine r_get C0 hin hW 10 (by decide) (v := .ref (ad 9)) rfl (List.mem_of_getElem? (i := 1) rfl) rfl dX10_begin_1 ?_
  refine lv_iload_n hx hb dX10_begin_4 rfl (lv_at hl 1 rfl) ?_
  refine lv_iconst (v := 1) hx hb dX10_begin_5 (by decide) ?_
  obtain ⟨h1, hw⟩ := hw
  refine r_zast C0 hW 9 rfl rfl h1 rfl dX10_begin_6 (fun M2 H locs eM2 hW => ?_)
  have hw := hw M2 eM2
  refine lv_aload_n hx hb dX10_begin_7 rfl (lv_at hl 0 rfl) ?_
  refine r_get C0 hin hW 11 (by decide) (v := .ref (ad 10)) rfl (List.mem_of_getElem? (i := 2) rfl) rfl dX10_begin_8 ?_
  refine lv_iload_n hx hb dX10_begin_11 rfl (lv_at hl 1 rfl) ?_
  refine lv_iconst (v := 0) hx hb dX10_begin_12 (by decide) ?_
  obtain ⟨h3, hw⟩ := hw
  refine r_zast C0 hW 10 rfl rfl h3 rfl dX10_begin_13 (fun M4 H locs eM4 hW => ?_)
  have hw := hw M4 eM4
  refine lv_aload_n hx hb dX10_begin_14 rfl (lv_at hl 0 rfl) ?_
  refine r_get C0 hin hW 0 (by decide) (v := .ref (ad 1)) rfl (List.mem_of_getElem? (i := 3) rfl) rfl dX10_begin_15 ?_
  refine lv_iload_n hx hb dX10_begin_18 rfl (lv_at hl 1 rfl) ?_
  refine lv_sipush (v := 1204) hx hb dX10_begin_19 (by decide) ?_
  refine g_calls (As := [.int a1, .int 1204]) (rest := [.ref (ad 1)]) ⟨hx, hb, hml, ho, hts⟩ hl.1 (k_part (l := l) _ a1 1204 hw) (va_cwS 2 hts gX10_begin_X10_part rfl rfl rfl (by decide +kernel) ⟨Nat.le_of_ble_eq_true rfl, Nat.le_of_ble_eq_true rfl⟩) (Nat.le_of_ble_eq_true rfl) dX10_begin_22 rfl ⟨Nat.le_of_ble_eq_true rfl, Nat.le_of_ble_eq_true rfl⟩ (fun r5 hw => ?_)
  try dsimp only at hw
  refine lv_iconst (v := 0) hx hb dX10_begin_25 (by decide) ?_
  obtain ⟨h6, hw⟩ := hw
  refine r_iast C0 hW 1 rfl rfl h6 rfl dX10_begin_26 (fun M7 H locs eM7 hW => ?_)
  have hw := hw M7 eM7
  refine lv_aload_n hx hb dX10_begin_27 rfl (lv_at hl 0 rfl) ?_
  refine r_get C0 hin hW 0 (by decide) (v := .ref (ad 1)) rfl (List.mem_of_getElem? (i := 3) rfl) rfl dX10_begin_28 ?_
  refine lv_iload_n hx hb dX10_begin_31 rfl (lv_at hl 1 rfl) ?_
  refine lv_sipush (v := 903) hx hb dX10_begin_32 (by decide) ?_
  refine g_calls (As := [.int a1, .int 903]) (rest := [.ref (ad 1)]) ⟨hx, hb, hml, ho, hts⟩ hl.1 (k_part (l := l) _ a1 903 hw) (va_cwS 2 hts gX10_begin_X10_part rfl rfl rfl (by decide +kernel) ⟨Nat.le_of_ble_eq_true rfl, Nat.le_of_ble_eq_true rfl⟩) (Nat.le_of_ble_eq_true rfl) dX10_begin_35 rfl ⟨Nat.le_of_ble_eq_true rfl, Nat.le_of_ble_eq_true rfl⟩ (fun r8 hw => ?_)
  try dsimp only at hw
  refine lv_bipush (v := (-5)) hx hb dX10_begin_38 (by decide) ?_
  obtain ⟨h9, hw⟩ := hw
  refine r_iast C0 hW 1 rfl rfl h9 rfl dX10_begin_40 (fun M10 H locs eM10 hW => ?_)
  have hw := hw M10 eM10
  exact hret M10 _ _ 0 0 (Nat.le_refl _) (Nat.le_refl _) hw dX10_begin_41 _ _ _ hW hl
set_option maxHeartbeats 4000000 in
set_option maxRecDepth 100000 in
theorem k_begin {l : Launch} {D : va_G} {cI cZ : ClassId} {ty' : List (ClassId × FieldType)} {ad : Nat → Nat} {Y : va_W} {sz : Nat} (post : RM → Prop) (a1 : Int32) (M : RM) (hw : w_begin post a1 M) : gMv l yX10_begin wsX10_begin rm_begin D ((cI, .int) :: (cZ, .boolean) :: ty') sz (fun M => rcells cI cZ ad M Y) M [.ref (ad 0), .int a1] post 0 0 := by
  refine gMv_of (cc := cX10_begin) (nL := 2) (own := RX10) (by decide) rfl rfl (Nat.le_of_ble_eq_true rfl) ?_
  intro p e s m args below meth c A Q C0 hret
  exact t_begin_0 C0 post hret a1 M hw
abbrev rm_join : Room := { frames := 2, cells := 0, slots := 0, locals := 42 }
theorem in_join : ∀ w ∈ wsX100, w ∈ wsX10_join := fun w hw => List.mem_cons_of_mem _ (List.mem_append_right _ hw)
set_option maxHeartbeats 4000000 in
set_option maxRecDepth 100000 in
theorem t_join_0 (C0 : rX p s m args c cX10_join 3 RX10 wsX10_join D ((cI, .int) :: (cZ, .boolean) :: ty') A) (post : Int32 → RM → Prop) (hret : ∀ (r : Int32) (M' : RM) (pc : Nat) (lv : List (Nat × Value)) (k n : Nat), k ≤ 0 → n ≤ 0 → post r M' → narrow .int (.int r) = .int r → decode cX10_join pc = .ok (.ireturn, 1) → gG p l e rm_join s m args below meth c Q D A 3 k n (rcells cI cZ ad M' Y) pc lv [.int r])  : ∀  (a1 a2 : Int32) (M : RM), w_join post   a1 a2 M → gG p l e rm_join s m args below meth c Q D A 3 0 0 (rcells cI cZ ad M Y) 0 [(0, .ref (ad 0)), (1, .int a1), (2, .int a2)] [] := by
  obtain ⟨hx, hb, hml, ho, hts, hK, hA⟩ := id C0
  have hin := in_join
  intro a1 a2 M hw H locs ls hW hl
  rw [w_join] at hw
  refine lv_iload_n hx hb dX10_join_0 rfl (lv_at hl 1 rfl) ?_
  refine g_calls (As := [.int a1]) (rest := []) ⟨hx, hb, hml, ho, hts⟩ hl.1 (k_isJoiner (l := l) _ a1 hw) (va_cwS 1 hts gX10_join_X10_isJoiner rfl rfl rfl (by decide +kernel) ⟨Nat.le_of_ble_eq_true rfl, Nat.le_of_ble_eq_true rfl⟩) (Nat.le_of_ble_eq_true rfl) dX10_join_1 rfl ⟨Nat.le_of_ble_eq_true rfl, Nat.le_of_ble_eq_true rfl⟩ (fun r1 hw => ?_)
  try dsimp only at hw
  refine lv_if_eq (tgt := 14) hx hb dX10_join_4 (by decide) (fun c2 => ?_) (fun c2 => ?_)
  · have hw := hw.1 c2
    try dsimp only at hw
    refine lv_iconst (v := (-1)) hx hb dX10_join_14 (by decide) ?_
    exact hret (-1) M _ _ 0 0 (Nat.le_refl _) (Nat.le_refl _) hw rfl dX10_join_15 _ _ _ hW hl
  · have hw := hw.2 c2
    try dsimp only at hw
    refine lv_iload_n hx hb dX10_join_7 rfl (lv_at hl 2 rfl) ?_
    refine g_calls (As := [.int a2]) (rest := []) ⟨hx, hb, hml, ho, hts⟩ hl.1 (k_isSlot (l := l) _ a2 hw) (va_cwS 1 hts gX10_join_X10_isSlot rfl rfl rfl (by decide +kernel) ⟨Nat.le_of_ble_eq_true rfl, Nat.le_of_ble_eq_true rfl⟩) (Nat.le_of_ble_eq_true rfl) dX10_join_8 rfl ⟨Nat.le_of_ble_eq_true rfl, Nat.le_of_ble_eq_true rfl⟩ (fun r3 hw => ?_)
    try dsimp only at hw
    refine lv_if_ne (tgt := 16) hx hb dX10_join_11 (by decide) (fun c4 => ?_) (fun c4 => ?_)
    · have hw := hw.1 c4
      try dsimp only at hw
      refine lv_aload_n hx hb dX10_join_16 rfl (lv_at hl 0 rfl) ?_
      refine lv_iload_n hx hb dX10_join_17 rfl (lv_at hl 2 rfl) ?_
      refine g_calli (cw0 := fun M => rcells cI cZ ad M Y) (M := M) (As := [.int a2]) (rest := []) C0 hW hl.1 (k_hasNothing (l := l) _ a2 _ hw) (cwV 1 hts gX10_join_X10_hasNothing rfl rfl rfl (by decide +kernel) ⟨Nat.le_of_ble_eq_true rfl, Nat.le_of_ble_eq_true rfl⟩) (r_recv C0 hW) (Nat.le_of_ble_eq_true rfl) dX10_join_18 rfl ⟨Nat.le_of_ble_eq_true rfl, Nat.le_of_ble_eq_true rfl⟩ (fun r6 M5 H locs hw hW => ?_)
      try dsimp only at hw
      refine lv_if_eq (tgt := 29) hx hb dX10_join_21 (by decide) (fun c7 => ?_) (fun c7 => ?_)
      · have hw := hw.1 c7
        try dsimp only at hw
        refine lv_aload_n hx hb dX10_join_29 rfl (lv_at hl 0 rfl) ?_
        refine lv_iload_n hx hb dX10_join_30 rfl (lv_at hl 1 rfl) ?_
        refine g_callv (cw0 := fun M => rcells cI cZ ad M Y) (M := M5) (As := [.int a1]) (rest := []) C0 hW hl.1 (k_begin (l := l) _ a1 _ hw) (cwV 1 hts gX10_join_X10_begin rfl rfl rfl (by decide +kernel) ⟨Nat.le_of_ble_eq_true rfl, Nat.le_of_ble_eq_true rfl⟩) (r_recv C0 hW) (Nat.le_of_ble_eq_true rfl) dX10_join_31 rfl ⟨Nat.le_of_ble_eq_true rfl, Nat.le_of_ble_eq_true rfl⟩ (fun M8 H locs hw hW => ?_)
        try dsimp only at hw
        refine lv_aload_n hx hb dX10_join_34 rfl (lv_at hl 0 rfl) ?_
        refine lv_iload_n hx hb dX10_join_35 rfl (lv_at hl 2 rfl) ?_
        refine g_calls (As := [.int a2]) (rest := [.ref (ad 0)]) ⟨hx, hb, hml, ho, hts⟩ hl.1 (k_at (l := l) _ a2 hw) (va_cwS 1 hts gX10_join_X10_at rfl rfl rfl (by decide +kernel) ⟨Nat.le_of_ble_eq_true rfl, Nat.le_of_ble_eq_true rfl⟩) (Nat.le_of_ble_eq_true rfl) dX10_join_36 rfl ⟨Nat.le_of_ble_eq_true rfl, Nat.le_of_ble_eq_true rfl⟩ (fun r9 hw => ?_)
        try dsimp only at hw
        refine lv_iload_n hx hb dX10_join_39 rfl (lv_at hl 1 rfl) ?_
        refine lv_iconst (v := 0) hx hb dX10_join_40 (by decide) ?_
        refine g_calls (As := [.int a1, .int 0]) (rest := [.int r9, .ref (ad 0)]) ⟨hx, hb, hml, ho, hts⟩ hl.1 (k_part (l := l) _ a1 0 hw) (va_cwS 2 hts gX10_join_X10_part rfl rfl rfl (by decide +kernel) ⟨Nat.le_of_ble_eq_true rfl, Nat.le_of_ble_eq_true rfl⟩) (Nat.le_of_ble_eq_true rfl) dX10_join_41 rfl ⟨Nat.le_of_ble_eq_true rfl, Nat.le_of_ble_eq_true rfl⟩ (fun r10 hw => ?_)
        try dsimp only at hw
        refine g_callv (cw0 := fun M => rcells cI cZ ad M Y) (M := M8) (As := [.int r9, .int r10]) (rest := []) C0 hW hl.1 (k_copyText (l := l) _ r9 r10 _ hw) (cwV 2 hts gX10_join_X10_copyText rfl rfl rfl (by decide +kernel) ⟨Nat.le_of_ble_eq_true rfl, Nat.le_of_ble_eq_true rfl⟩) (r_recv C0 hW) (Nat.le_of_ble_eq_true rfl) dX10_join_44 rfl ⟨Nat.le_of_ble_eq_true rfl, Nat.le_of_ble_eq_true rfl⟩ (fun M11 H locs hw hW => ?_)
        try dsimp only at hw
        refine lv_aload_n hx hb dX10_join_47 rfl (lv_at hl 0 rfl) ?_
        refine r_get C0 hin hW 0 (by decide) (v := .ref (ad 1)) rfl (List.mem_of_getElem? (i := 1) rfl) rfl dX10_join_48 ?_
        refine lv_iload_n hx hb dX10_join_51 rfl (lv_at hl 1 rfl) ?_
        refine lv_sipush (v := 301) hx hb dX10_join_52 (by decide) ?_
        refine g_calls (As := [.int a1, .int 301]) (rest := [.ref (ad 1)]) ⟨hx, hb, hml, ho, hts⟩ hl.1 (k_part (l := l) _ a1 301 hw) (va_cwS 2 hts gX10_join_X10_part rfl rfl rfl (by decide +kernel) ⟨Nat.le_of_ble_eq_true rfl, Nat.le_of_ble_eq_true rfl⟩) (Nat.le_of_ble_eq_true rfl) dX10_join_55 rfl ⟨Nat.le_of_ble_eq_true rfl, Nat.le_of_ble_eq_true rfl⟩ (fun r12 hw => ?_)
        try dsimp only at hw
        refine lv_iconst (v := 0) hx hb dX10_join_58 (by decide) ?_
        obtain ⟨h13, hw⟩ := hw
        refine r_iast C0 hW 1 rfl rfl h13 rfl dX10_join_59 (fun M14 H locs eM14 hW => ?_)
        have hw := hw M14 eM14
        refine lv_aload_n hx hb dX10_join_60 rfl (lv_at hl 0 rfl) ?_
        refine r_get C0 hin hW 0 (by decide) (v := .ref (ad 1)) rfl (List.mem_of_getElem? (i := 1) rfl) rfl dX10_join_61 ?_
        refine lv_iload_n hx hb dX10_join_64 rfl (lv_at hl 1 rfl) ?_
        refine lv_sipush (v := 602) hx hb dX10_join_65 (by decide) ?_
        refine g_calls (As := [.int a1, .int 602]) (rest := [.ref (ad 1)]) ⟨hx, hb, hml, ho, hts⟩ hl.1 (k_part (l := l) _ a1 602 hw) (va_cwS 2 hts gX10_join_X10_part rfl rfl rfl (by decide +kernel) ⟨Nat.le_of_ble_eq_true rfl, Nat.le_of_ble_eq_true rfl⟩) (Nat.le_of_ble_eq_true rfl) dX10_join_68 rfl ⟨Nat.le_of_ble_eq_true rfl, Nat.le_of_ble_eq_true rfl⟩ (fun r15 hw => ?_)
        try dsimp only at hw
        refine lv_iconst (v := 0) hx hb dX10_join_71 (by decide) ?_
        obtain ⟨h16, hw⟩ := hw
        refine r_iast C0 hW 1 rfl rfl h16 rfl dX10_join_72 (fun M17 H locs eM17 hW => ?_)
        have hw := hw M17 eM17
        refine lv_iconst (v := 0) hx hb dX10_join_73 (by decide) ?_
        exact hret 0 M17 _ _ 0 0 (Nat.le_refl _) (Nat.le_refl _) hw rfl dX10_join_74 _ _ _ hW hl
      · have hw := hw.2 c7
        try dsimp only at hw
        refine lv_aload_n hx hb dX10_join_24 rfl (lv_at hl 0 rfl) ?_
        refine g_calli (cw0 := fun M => rcells cI cZ ad M Y) (M := M5) (As := []) (rest := []) C0 hW hl.1 (k_refusedNull (l := l) _  _ hw) (cwV 0 hts gX10_join_X10_refusedNull rfl rfl rfl (by decide +kernel) ⟨Nat.le_of_ble_eq_true rfl, Nat.le_of_ble_eq_true rfl⟩) (r_recv C0 hW) (Nat.le_of_ble_eq_true rfl) dX10_join_25 rfl ⟨Nat.le_of_ble_eq_true rfl, Nat.le_of_ble_eq_true rfl⟩ (fun r19 M18 H locs hw hW => ?_)
        try dsimp only at hw
        exact hret r19 M18 _ _ 0 0 (Nat.le_refl _) (Nat.le_refl _) hw rfl dX10_join_28 _ _ _ hW hl
    · have hw := hw.2 c4
      try dsimp only at hw
      refine lv_iconst (v := (-1)) hx hb dX10_join_14 (by decide) ?_
      exact hret (-1) M _ _ 0 0 (Nat.le_refl _) (Nat.le_refl _) hw rfl dX10_join_15 _ _ _ hW hl
set_option maxHeartbeats 4000000 in
set_option maxRecDepth 100000 in
theorem k_join {l : Launch} {D : va_G} {cI cZ : ClassId} {ty' : List (ClassId × FieldType)} {ad : Nat → Nat} {Y : va_W} {sz : Nat} (post : Int32 → RM → Prop) (a1 a2 : Int32) (M : RM) (hw : w_join post a1 a2 M) : gMi l yX10_join wsX10_join rm_join D ((cI, .int) :: (cZ, .boolean) :: ty') sz (fun M => rcells cI cZ ad M Y) M [.ref (ad 0), .int a1, .int a2] post 0 0 := by
  refine gMi_of (cc := cX10_join) (nL := 3) (ty := .int) (own := RX10) (by decide) rfl rfl (Nat.le_of_ble_eq_true rfl) ?_
  intro p e s m args below meth c A Q C0 hret
  exact t_join_0 C0 post hret a1 a2 M hw
abbrev rm_joinWithin : Room := { frames := 2, cells := 0, slots := 0, locals := 44 }
theorem in_joinWithin : ∀ w ∈ wsX100, w ∈ wsX10_joinWithin := fun w hw => List.mem_cons_of_mem _ (List.mem_append_right _ hw)
set_option maxHeartbeats 4000000 in
set_option maxRecDepth 100000 in
theorem t_joinWithin_56 (C0 : rX p s m args c cX10_joinWithin 5 RX10 wsX10_joinWithin D ((cI, .int) :: (cZ, .boolean) :: ty') A) (post : Int32 → RM → Prop) (hret : ∀ (r : Int32) (M' : RM) (pc : Nat) (lv : List (Nat × Value)) (k n : Nat), k ≤ 0 → n ≤ 0 → post r M' → narrow .int (.int r) = .int r → decode cX10_joinWithin pc = .ok (.ireturn, 1) → gG p l e rm_joinWithin s m args below meth c Q D A 5 k n (rcells cI cZ ad M' Y) pc lv [.int r])  : ∀  (M : RM), w_joinWithin_56 post    M → gG p l e rm_joinWithin s m args below meth c Q D A 5 0 0 (rcells cI cZ ad M Y) 56 [(0, .ref (ad 0))] [] := by
  obtain ⟨hx, hb, hml, ho, hts, hK, hA⟩ := id C0
  have hin := in_joinWithin
  intro  M hw H locs ls hW hl
  rw [w_joinWithin_56] at hw
  refine lv_aload_n hx hb dX10_joinWithin_56 rfl (lv_at hl 0 rfl) ?_
  refine g_calli (cw0 := fun M => rcells cI cZ ad M Y) (M := M) (As := []) (rest := []) C0 hW hl.1 (k_refusedNull (l := l) _  _ hw) (cwV 0 hts gX10_joinWithin_X10_refusedNull rfl rfl rfl (by decide +kernel) ⟨Nat.le_of_ble_eq_true rfl, Nat.le_of_ble_eq_true rfl⟩) (r_recv C0 hW) (Nat.le_of_ble_eq_true rfl) dX10_joinWithin_57 rfl ⟨Nat.le_of_ble_eq_true rfl, Nat.le_of_ble_eq_true rfl⟩ (fun r36 M35 H locs hw hW => ?_)
  try dsimp only at hw
  exact hret r36 M35 _ _ 0 0 (Nat.le_refl _) (Nat.le_refl _) hw rfl dX10_joinWithin_60 _ _ _ hW hl
set_option maxHeartbeats 4000000 in
set_option maxRecDepth 100000 in
theorem t_joinWithin_0 (C0 : rX p s m args c cX10_joinWithin 5 RX10 wsX10_joinWithin D ((cI, .int) :: (cZ, .boolean) :: ty') A) (post : Int32 → RM → Prop) (hret : ∀ (r : Int32) (M' : RM) (pc : Nat) (lv : List (Nat × Value)) (k n : Nat), k ≤ 0 → n ≤ 0 → post r M' → narrow .int (.int r) = .int r → decode cX10_joinWithin pc = .ok (.ireturn, 1) → gG p l e rm_joinWithin s m args below meth c Q D A 5 k n (rcells cI cZ ad M' Y) pc lv [.int r])  : ∀  (a1 a2 a3 a4 : Int32) (M : RM), w_joinWithin post   a1 a2 a3 a4 M → gG p l e rm_joinWithin s m args below meth c Q D A 5 0 0 (rcells cI cZ ad M Y) 0 [(0, .ref (ad 0)), (1, .int a1), (2, .int a2), (3, .int a3), (4, .int a4)] [] := by
  obtain ⟨hx, hb, hml, ho, hts, hK, hA⟩ := id C0
  have hin := in_joinWithin
  intro a1 a2 a3 a4 M hw H locs ls hW hl
  rw [w_joinWithin] at hw
  refine lv_iload_n hx hb dX10_joinWithin_0 rfl (lv_at hl 1 rfl) ?_
  refine g_calls (As := [.int a1]) (rest := []) ⟨hx, hb, hml, ho, hts⟩ hl.1 (k_isJoiner (l := l) _ a1 hw) (va_cwS 1 hts gX10_joinWithin_X10_isJoiner rfl rfl rfl (by decide +kernel) ⟨Nat.le_of_ble_eq_true rfl, Nat.le_of_ble_eq_true rfl⟩) (Nat.le_of_ble_eq_true rfl) dX10_joinWithin_1 rfl ⟨Nat.le_of_ble_eq_true rfl, Nat.le_of_ble_eq_true rfl⟩ (fun r1 hw => ?_)
  try dsimp only at hw
  refine lv_if_eq (tgt := 29) hx hb dX10_joinWithin_4 (by decide) (fun c2 => ?_) (fun c2 => ?_)
  · have hw := hw.1 c2
    try dsimp only at hw
    refine lv_iconst (v := (-1)) hx hb dX10_joinWithin_29 (by decide) ?_
    exact hret (-1) M _ _ 0 0 (Nat.le_refl _) (Nat.le_refl _) hw rfl dX10_joinWithin_30 _ _ _ hW hl
  · have hw := hw.2 c2
    try dsimp only at hw
    refine lv_iload_n hx hb dX10_joinWithin_7 rfl (lv_at hl 2 rfl) ?_
    refine g_calls (As := [.int a2]) (rest := []) ⟨hx, hb, hml, ho, hts⟩ hl.1 (k_isSlot (l := l) _ a2 hw) (va_cwS 1 hts gX10_joinWithin_X10_isSlot rfl rfl rfl (by decide +kernel) ⟨Nat.le_of_ble_eq_true rfl, Nat.le_of_ble_eq_true rfl⟩) (Nat.le_of_ble_eq_true rfl) dX10_joinWithin_8 rfl ⟨Nat.le_of_ble_eq_true rfl, Nat.le_of_ble_eq_true rfl⟩ (fun r3 hw => ?_)
    try dsimp only at hw
    refine lv_if_eq (tgt := 29) hx hb dX10_joinWithin_11 (by decide) (fun c4 => ?_) (fun c4 => ?_)
    · have hw := hw.1 c4
      try dsimp only at hw
      refine lv_iconst (v := (-1)) hx hb dX10_joinWithin_29 (by decide) ?_
      exact hret (-1) M _ _ 0 0 (Nat.le_refl _) (Nat.le_refl _) hw rfl dX10_joinWithin_30 _ _ _ hW hl
    · have hw := hw.2 c4
      try dsimp only at hw
      refine lv_iload_n hx hb dX10_joinWithin_14 rfl (lv_at hl 3 rfl) ?_
      refine g_calls (As := [.int a3]) (rest := []) ⟨hx, hb, hml, ho, hts⟩ hl.1 (k_isSlot (l := l) _ a3 hw) (va_cwS 1 hts gX10_joinWithin_X10_isSlot rfl rfl rfl (by decide +kernel) ⟨Nat.le_of_ble_eq_true rfl, Nat.le_of_ble_eq_true rfl⟩) (Nat.le_of_ble_eq_true rfl) dX10_joinWithin_15 rfl ⟨Nat.le_of_ble_eq_true rfl, Nat.le_of_ble_eq_true rfl⟩ (fun r5 hw => ?_)
      try dsimp only at hw
      refine lv_if_eq (tgt := 29) hx hb dX10_joinWithin_18 (by decide) (fun c6 => ?_) (fun c6 => ?_)
      · have hw := hw.1 c6
        try dsimp only at hw
        refine lv_iconst (v := (-1)) hx hb dX10_joinWithin_29 (by decide) ?_
        exact hret (-1) M _ _ 0 0 (Nat.le_refl _) (Nat.le_refl _) hw rfl dX10_joinWithin_30 _ _ _ hW hl
      · have hw := hw.2 c6
        try dsimp only at hw
        refine lv_iload hx hb dX10_joinWithin_21 (lv_at hl 4 rfl) ?_
        refine g_calls (As := [.int a4]) (rest := []) ⟨hx, hb, hml, ho, hts⟩ hl.1 (k_isSlot (l := l) _ a4 hw) (va_cwS 1 hts gX10_joinWithin_X10_isSlot rfl rfl rfl (by decide +kernel) ⟨Nat.le_of_ble_eq_true rfl, Nat.le_of_ble_eq_true rfl⟩) (Nat.le_of_ble_eq_true rfl) dX10_joinWithin_23 rfl ⟨Nat.le_of_ble_eq_true rfl, Nat.le_of_ble_eq_true rfl⟩ (fun r7 hw => ?_)
        try dsimp only at hw
        refine lv_if_ne (tgt := 31) hx hb dX10_joinWithin_26 (by decide) (fun c8 => ?_) (fun c8 => ?_)
        · have hw := hw.1 c8
          try dsimp only at hw
          refine lv_aload_n hx hb dX10_joinWithin_31 rfl (lv_at hl 0 rfl) ?_
          refine lv_iload_n hx hb dX10_joinWithin_32 rfl (lv_at hl 2 rfl) ?_
          refine g_calli (cw0 := fun M => rcells cI cZ ad M Y) (M := M) (As := [.int a2]) (rest := []) C0 hW hl.1 (k_hasNothing (l := l) _ a2 _ hw) (cwV 1 hts gX10_joinWithin_X10_hasNothing rfl rfl rfl (by decide +kernel) ⟨Nat.le_of_ble_eq_true rfl, Nat.le_of_ble_eq_true rfl⟩) (r_recv C0 hW) (Nat.le_of_ble_eq_true rfl) dX10_joinWithin_33 rfl ⟨Nat.le_of_ble_eq_true rfl, Nat.le_of_ble_eq_true rfl⟩ (fun r10 M9 H locs hw hW => ?_)
          try dsimp only at hw
          refine lv_if_ne (tgt := 56) hx hb dX10_joinWithin_36 (by decide) (fun c11 => ?_) (fun c11 => ?_)
          · have hw := hw.1 c11
            try dsimp only at hw
            exact t_joinWithin_56 C0 post hret   M9 hw _ _ _ hW (lv_sub hl [0] rfl)
          · have hw := hw.2 c11
            try dsimp only at hw
            refine lv_aload_n hx hb dX10_joinWithin_39 rfl (lv_at hl 0 rfl) ?_
            refine lv_iload_n hx hb dX10_joinWithin_40 rfl (lv_at hl 3 rfl) ?_
            refine g_calli (cw0 := fun M => rcells cI cZ ad M Y) (M := M9) (As := [.int a3]) (rest := []) C0 hW hl.1 (k_hasNothing (l := l) _ a3 _ hw) (cwV 1 hts gX10_joinWithin_X10_hasNothing rfl rfl rfl (by decide +kernel) ⟨Nat.le_of_ble_eq_true rfl, Nat.le_of_ble_eq_true rfl⟩) (r_recv C0 hW) (Nat.le_of_ble_eq_true rfl) dX10_joinWithin_41 rfl ⟨Nat.le_of_ble_eq_true rfl, Nat.le_of_ble_eq_true rfl⟩ (fun r13 M12 H locs hw hW => ?_)
            try dsimp only at hw
            refine lv_if_ne (tgt := 56) hx hb dX10_joinWithin_44 (by decide) (fun c14 => ?_) (fun c14 => ?_)
            · have hw := hw.1 c14
              try dsimp only at hw
              exact t_joinWithin_56 C0 post hret   M12 hw _ _ _ hW (lv_sub hl [0] rfl)
            · have hw := hw.2 c14
              try dsimp only at hw
              refine lv_aload_n hx hb dX10_joinWithin_47 rfl (lv_at hl 0 rfl) ?_
              refine lv_iload hx hb dX10_joinWithin_48 (lv_at hl 4 rfl) ?_
              refine g_calli (cw0 := fun M => rcells cI cZ ad M Y) (M := M12) (As := [.int a4]) (rest := []) C0 hW hl.1 (k_hasNothing (l := l) _ a4 _ hw) (cwV 1 hts gX10_joinWithin_X10_hasNothing rfl rfl rfl (by decide +kernel) ⟨Nat.le_of_ble_eq_true rfl, Nat.le_of_ble_eq_true rfl⟩) (r_recv C0 hW) (Nat.le_of_ble_eq_true rfl) dX10_joinWithin_50 rfl ⟨Nat.le_of_ble_eq_true rfl, Nat.le_of_ble_eq_true rfl⟩ (fun r16 M15 H locs hw hW => ?_)
              try dsimp only at hw
              refine lv_if_eq (tgt := 61) hx hb dX10_joinWithin_53 (by decide) (fun c17 => ?_) (fun c17 => ?_)
              · have hw := hw.1 c17
                try dsimp only at hw
                refine lv_aload_n hx hb dX10_joinWithin_61 rfl (lv_at hl 0 rfl) ?_
                refine r_get C0 hin hW 0 (by decide) (v := .ref (ad 1)) rfl (List.mem_of_getElem? (i := 1) rfl) rfl dX10_joinWithin_62 ?_
                refine lv_iload_n hx hb dX10_joinWithin_65 rfl (lv_at hl 3 rfl) ?_
                refine g_calls (As := [.int a3]) (rest := [.ref (ad 1)]) ⟨hx, hb, hml, ho, hts⟩ hl.1 (k_at (l := l) _ a3 hw) (va_cwS 1 hts gX10_joinWithin_X10_at rfl rfl rfl (by decide +kernel) ⟨Nat.le_of_ble_eq_true rfl, Nat.le_of_ble_eq_true rfl⟩) (Nat.le_of_ble_eq_true rfl) dX10_joinWithin_66 rfl ⟨Nat.le_of_ble_eq_true rfl, Nat.le_of_ble_eq_true rfl⟩ (fun r18 hw => ?_)
                try dsimp only at hw
                obtain ⟨h19, hw⟩ := hw
                refine r_iald C0 hW 1 rfl rfl h19 dX10_joinWithin_69 ?_
                refine lv_aload_n hx hb dX10_joinWithin_70 rfl (lv_at hl 0 rfl) ?_
                refine r_get C0 hin hW 0 (by decide) (v := .ref (ad 1)) rfl (List.mem_of_getElem? (i := 1) rfl) rfl dX10_joinWithin_71 ?_
                refine lv_iload hx hb dX10_joinWithin_74 (lv_at hl 4 rfl) ?_
                refine g_calls (As := [.int a4]) (rest := [.ref (ad 1), .int (M15 1 r18.toNatClampNeg)]) ⟨hx, hb, hml, ho, hts⟩ hl.1 (k_at (l := l) _ a4 hw) (va_cwS 1 hts gX10_joinWithin_X10_at rfl rfl rfl (by decide +kernel) ⟨Nat.le_of_ble_eq_true rfl, Nat.le_of_ble_eq_true rfl⟩) (Nat.le_of_ble_eq_true rfl) dX10_joinWithin_76 rfl ⟨Nat.le_of_ble_eq_true rfl, Nat.le_of_ble_eq_true rfl⟩ (fun r20 hw => ?_)
                try dsimp only at hw
                obtain ⟨h21, hw⟩ := hw
                refine r_iald C0 hW 1 rfl rfl h21 dX10_joinWithin_79 ?_
                refine lv_iadd hx hb dX10_joinWithin_80 ?_
                refine lv_sipush (v := 300) hx hb dX10_joinWithin_81 (by decide) ?_
                refine lv_icmp_le (tgt := 90) hx hb dX10_joinWithin_84 (by decide) (fun c22 => ?_) (fun c22 => ?_)
                · have hw := hw.1 c22
                  try dsimp only at hw
                  refine lv_aload_n hx hb dX10_joinWithin_90 rfl (lv_at hl 0 rfl) ?_
                  refine lv_iload_n hx hb dX10_joinWithin_91 rfl (lv_at hl 1 rfl) ?_
                  refine g_callv (cw0 := fun M => rcells cI cZ ad M Y) (M := M15) (As := [.int a1]) (rest := []) C0 hW hl.1 (k_begin (l := l) _ a1 _ hw) (cwV 1 hts gX10_joinWithin_X10_begin rfl rfl rfl (by decide +kernel) ⟨Nat.le_of_ble_eq_true rfl, Nat.le_of_ble_eq_true rfl⟩) (r_recv C0 hW) (Nat.le_of_ble_eq_true rfl) dX10_joinWithin_92 rfl ⟨Nat.le_of_ble_eq_true rfl, Nat.le_of_ble_eq_true rfl⟩ (fun M23 H locs hw hW => ?_)
                  try dsimp only at hw
                  refine lv_aload_n hx hb dX10_joinWithin_95 rfl (lv_at hl 0 rfl) ?_
                  refine lv_iload_n hx hb dX10_joinWithin_96 rfl (lv_at hl 2 rfl) ?_
                  refine g_calls (As := [.int a2]) (rest := [.ref (ad 0)]) ⟨hx, hb, hml, ho, hts⟩ hl.1 (k_at (l := l) _ a2 hw) (va_cwS 1 hts gX10_joinWithin_X10_at rfl rfl rfl (by decide +kernel) ⟨Nat.le_of_ble_eq_true rfl, Nat.le_of_ble_eq_true rfl⟩) (Nat.le_of_ble_eq_true rfl) dX10_joinWithin_97 rfl ⟨Nat.le_of_ble_eq_true rfl, Nat.le_of_ble_eq_true rfl⟩ (fun r24 hw => ?_)
                  try dsimp only at hw
                  refine lv_iload_n hx hb dX10_joinWithin_100 rfl (lv_at hl 1 rfl) ?_
                  refine lv_iconst (v := 0) hx hb dX10_joinWithin_101 (by decide) ?_
                  refine g_calls (As := [.int a1, .int 0]) (rest := [.int r24, .ref (ad 0)]) ⟨hx, hb, hml, ho, hts⟩ hl.1 (k_part (l := l) _ a1 0 hw) (va_cwS 2 hts gX10_joinWithin_X10_part rfl rfl rfl (by decide +kernel) ⟨Nat.le_of_ble_eq_true rfl, Nat.le_of_ble_eq_true rfl⟩) (Nat.le_of_ble_eq_true rfl) dX10_joinWithin_102 rfl ⟨Nat.le_of_ble_eq_true rfl, Nat.le_of_ble_eq_true rfl⟩ (fun r25 hw => ?_)
                  try dsimp only at hw
                  refine g_callv (cw0 := fun M => rcells cI cZ ad M Y) (M := M23) (As := [.int r24, .int r25]) (rest := []) C0 hW hl.1 (k_copyText (l := l) _ r24 r25 _ hw) (cwV 2 hts gX10_joinWithin_X10_copyText rfl rfl rfl (by decide +kernel) ⟨Nat.le_of_ble_eq_true rfl, Nat.le_of_ble_eq_true rfl⟩) (r_recv C0 hW) (Nat.le_of_ble_eq_true rfl) dX10_joinWithin_105 rfl ⟨Nat.le_of_ble_eq_true rfl, Nat.le_of_ble_eq_true rfl⟩ (fun M26 H locs hw hW => ?_)
                  try dsimp only at hw
                  refine lv_aload_n hx hb dX10_joinWithin_108 rfl (lv_at hl 0 rfl) ?_
                  refine lv_iload_n hx hb dX10_joinWithin_109 rfl (lv_at hl 3 rfl) ?_
                  refine g_calls (As := [.int a3]) (rest := [.ref (ad 0)]) ⟨hx, hb, hml, ho, hts⟩ hl.1 (k_at (l := l) _ a3 hw) (va_cwS 1 hts gX10_joinWithin_X10_at rfl rfl rfl (by decide +kernel) ⟨Nat.le_of_ble_eq_true rfl, Nat.le_of_ble_eq_true rfl⟩) (Nat.le_of_ble_eq_true rfl) dX10_joinWithin_110 rfl ⟨Nat.le_of_ble_eq_true rfl, Nat.le_of_ble_eq_true rfl⟩ (fun r27 hw => ?_)
                  try dsimp only at hw
                  refine lv_iload_n hx hb dX10_joinWithin_113 rfl (lv_at hl 1 rfl) ?_
                  refine lv_sipush (v := 301) hx hb dX10_joinWithin_114 (by decide) ?_
                  refine g_calls (As := [.int a1, .int 301]) (rest := [.int r27, .ref (ad 0)]) ⟨hx, hb, hml, ho, hts⟩ hl.1 (k_part (l := l) _ a1 301 hw) (va_cwS 2 hts gX10_joinWithin_X10_part rfl rfl rfl (by decide +kernel) ⟨Nat.le_of_ble_eq_true rfl, Nat.le_of_ble_eq_true rfl⟩) (Nat.le_of_ble_eq_true rfl) dX10_joinWithin_117 rfl ⟨Nat.le_of_ble_eq_true rfl, Nat.le_of_ble_eq_true rfl⟩ (fun r28 hw => ?_)
                  try dsimp only at hw
                  refine g_callv (cw0 := fun M => rcells cI cZ ad M Y) (M := M26) (As := [.int r27, .int r28]) (rest := []) C0 hW hl.1 (k_copyText (l := l) _ r27 r28 _ hw) (cwV 2 hts gX10_joinWithin_X10_copyText rfl rfl rfl (by decide +kernel) ⟨Nat.le_of_ble_eq_true rfl, Nat.le_of_ble_eq_true rfl⟩) (r_recv C0 hW) (Nat.le_of_ble_eq_true rfl) dX10_joinWithin_120 rfl ⟨Nat.le_of_ble_eq_true rfl, Nat.le_of_ble_eq_true rfl⟩ (fun M29 H locs hw hW => ?_)
                  try dsimp only at hw
                  refine lv_aload_n hx hb dX10_joinWithin_123 rfl (lv_at hl 0 rfl) ?_
                  refine lv_iload hx hb dX10_joinWithin_124 (lv_at hl 4 rfl) ?_
                  refine g_calls (As := [.int a4]) (rest := [.ref (ad 0)]) ⟨hx, hb, hml, ho, hts⟩ hl.1 (k_at (l := l) _ a4 hw) (va_cwS 1 hts gX10_joinWithin_X10_at rfl rfl rfl (by decide +kernel) ⟨Nat.le_of_ble_eq_true rfl, Nat.le_of_ble_eq_true rfl⟩) (Nat.le_of_ble_eq_true rfl) dX10_joinWithin_126 rfl ⟨Nat.le_of_ble_eq_true rfl, Nat.le_of_ble_eq_true rfl⟩ (fun r30 hw => ?_)
                  try dsimp only at hw
                  refine lv_iload_n hx hb dX10_joinWithin_129 rfl (lv_at hl 1 rfl) ?_
                  refine lv_sipush (v := 602) hx hb dX10_joinWithin_130 (by decide) ?_
                  refine g_calls (As := [.int a1, .int 602]) (rest := [.int r30, .ref (ad 0)]) ⟨hx, hb, hml, ho, hts⟩ hl.1 (k_part (l := l) _ a1 602 hw) (va_cwS 2 hts gX10_joinWithin_X10_part rfl rfl rfl (by decide +kernel) ⟨Nat.le_of_ble_eq_true rfl, Nat.le_of_ble_eq_true rfl⟩) (Nat.le_of_ble_eq_true rfl) dX10_joinWithin_133 rfl ⟨Nat.le_of_ble_eq_true rfl, Nat.le_of_ble_eq_true rfl⟩ (fun r31 hw => ?_)
                  try dsimp only at hw
                  refine g_callv (cw0 := fun M => rcells cI cZ ad M Y) (M := M29) (As := [.int r30, .int r31]) (rest := []) C0 hW hl.1 (k_copyText (l := l) _ r30 r31 _ hw) (cwV 2 hts gX10_joinWithin_X10_copyText rfl rfl rfl (by decide +kernel) ⟨Nat.le_of_ble_eq_true rfl, Nat.le_of_ble_eq_true rfl⟩) (r_recv C0 hW) (Nat.le_of_ble_eq_true rfl) dX10_joinWithin_136 rfl ⟨Nat.le_of_ble_eq_true rfl, Nat.le_of_ble_eq_true rfl⟩ (fun M32 H locs hw hW => ?_)
                  try dsimp only at hw
                  refine lv_aload_n hx hb dX10_joinWithin_139 rfl (lv_at hl 0 rfl) ?_
                  refine lv_iload_n hx hb dX10_joinWithin_140 rfl (lv_at hl 1 rfl) ?_
                  refine g_calli (cw0 := fun M => rcells cI cZ ad M Y) (M := M32) (As := [.int a1]) (rest := []) C0 hW hl.1 (k_resultSize (l := l) _ a1 _ hw) (cwV 1 hts gX10_joinWithin_X10_resultSize rfl rfl rfl (by decide +kernel) ⟨Nat.le_of_ble_eq_true rfl, Nat.le_of_ble_eq_true rfl⟩) (r_recv C0 hW) (Nat.le_of_ble_eq_true rfl) dX10_joinWithin_141 rfl ⟨Nat.le_of_ble_eq_true rfl, Nat.le_of_ble_eq_true rfl⟩ (fun r34 M33 H locs hw hW => ?_)
                  try dsimp only at hw
                  exact hret r34 M33 _ _ 0 0 (Nat.le_refl _) (Nat.le_refl _) hw rfl dX10_joinWithin_144 _ _ _ hW hl
                · have hw := hw.2 c22
                  try dsimp only at hw
                  refine lv_bipush (v := (-3)) hx hb dX10_joinWithin_87 (by decide) ?_
                  exact hret (-3) M15 _ _ 0 0 (Nat.le_refl _) (Nat.le_refl _) hw rfl dX10_joinWithin_89 _ _ _ hW hl
              · have hw := hw.2 c17
                try dsimp only at hw
                exact t_joinWithin_56 C0 post hret   M15 hw _ _ _ hW (lv_sub hl [0] rfl)
        · have hw := hw.2 c8
          try dsimp only at hw
          refine lv_iconst (v := (-1)) hx hb dX10_joinWithin_29 (by decide) ?_
          exact hret (-1) M _ _ 0 0 (Nat.le_refl _) (Nat.le_refl _) hw rfl dX10_joinWithin_30 _ _ _ hW hl
set_option maxHeartbeats 4000000 in
set_option maxRecDepth 100000 in
theorem k_joinWithin {l : Launch} {D : va_G} {cI cZ : ClassId} {ty' : List (ClassId × FieldType)} {ad : Nat → Nat} {Y : va_W} {sz : Nat} (post : Int32 → RM → Prop) (a1 a2 a3 a4 : Int32) (M : RM) (hw : w_joinWithin post a1 a2 a3 a4 M) : gMi l yX10_joinWithin wsX10_joinWithin rm_joinWithin D ((cI, .int) :: (cZ, .boolean) :: ty') sz (fun M => rcells cI cZ ad M Y) M [.ref (ad 0), .int a1, .int a2, .int a3, .int a4] post 0 0 := by
  refine gMi_of (cc := cX10_joinWithin) (nL := 5) (ty := .int) (own := RX10) (by decide) rfl rfl (Nat.le_of_ble_eq_true rfl) ?_
  intro p e s m args below meth c A Q C0 hret
  exact t_joinWithin_0 C0 post hret a1 a2 a3 a4 M hw
abbrev rm_addElement : Room := { frames := 2, cells := 0, slots := 0, locals := 44 }
theorem in_addElement : ∀ w ∈ wsX100, w ∈ wsX10_addElement := fun w hw => List.mem_cons_of_mem _ (List.mem_append_right _ hw)
set_option maxHeartbeats 4000000 in
set_option maxRecDepth 100000 in
theorem t_addElement_105 (C0 : rX p s m args c cX10_addElement 4 RX10 wsX10_addElement D ((cI, .int) :: (cZ, .boolean) :: ty') A) (post : Int32 → RM → Prop) (hret : ∀ (r : Int32) (M' : RM) (pc : Nat) (lv : List (Nat × Value)) (k n : Nat), k ≤ 0 → n ≤ 0 → post r M' → narrow .int (.int r) = .int r → decode cX10_addElement pc = .ok (.ireturn, 1) → gG p l e rm_addElement s m args below meth c Q D A 4 k n (rcells cI cZ ad M' Y) pc lv [.int r])  : ∀  (x1 x2 : Int32) (M : RM), w_addElement_105 post   x1 x2 M → gG p l e rm_addElement s m args below meth c Q D A 4 0 0 (rcells cI cZ ad M Y) 105 [(0, .ref (ad 0)), (1, .int x1), (2, .int x2)] [] := by
  obtain ⟨hx, hb, hml, ho, hts, hK, hA⟩ := id C0
  have hin := in_addElement
  intro x1 x2 M hw H locs ls hW hl
  rw [w_addElement_105] at hw
  refine lv_aload_n hx hb dX10_addElement_105 rfl (lv_at hl 0 rfl) ?_
  refine lv_iload_n hx hb dX10_addElement_106 rfl (lv_at hl 2 rfl) ?_
  refine lv_iload_n hx hb dX10_addElement_107 rfl (lv_at hl 1 rfl) ?_
  refine lv_sipush (v := 1204) hx hb dX10_addElement_108 (by decide) ?_
  refine g_calls (As := [.int x1, .int 1204]) (rest := [.int x2, .ref (ad 0)]) ⟨hx, hb, hml, ho, hts⟩ hl.1 (k_part (l := l) _ x1 1204 hw) (va_cwS 2 hts gX10_addElement_X10_part rfl rfl rfl (by decide +kernel) ⟨Nat.le_of_ble_eq_true rfl, Nat.le_of_ble_eq_true rfl⟩) (Nat.le_of_ble_eq_true rfl) dX10_addElement_111 rfl ⟨Nat.le_of_ble_eq_true rfl, Nat.le_of_ble_eq_true rfl⟩ (fun r19 hw => ?_)
  try dsimp only at hw
  refine g_callv (cw0 := fun M => rcells cI cZ ad M Y) (M := M) (As := [.int x2, .int r19]) (rest := []) C0 hW hl.1 (k_addText (l := l) _ x2 r19 _ hw) (cwV 2 hts gX10_addElement_X10_addText rfl rfl rfl (by decide +kernel) ⟨Nat.le_of_ble_eq_true rfl, Nat.le_of_ble_eq_true rfl⟩) (r_recv C0 hW) (Nat.le_of_ble_eq_true rfl) dX10_addElement_114 rfl ⟨Nat.le_of_ble_eq_true rfl, Nat.le_of_ble_eq_true rfl⟩ (fun M20 H locs hw hW => ?_)
  try dsimp only at hw
  refine lv_aload_n hx hb dX10_addElement_117 rfl (lv_at hl 0 rfl) ?_
  refine r_get C0 hin hW 11 (by decide) (v := .ref (ad 10)) rfl (List.mem_of_getElem? (i := 1) rfl) rfl dX10_addElement_118 ?_
  refine lv_iload_n hx hb dX10_addElement_121 rfl (lv_at hl 1 rfl) ?_
  refine lv_iconst (v := 1) hx hb dX10_addElement_122 (by decide) ?_
  obtain ⟨h21, hw⟩ := hw
  refine r_zast C0 hW 10 rfl rfl h21 rfl dX10_addElement_123 (fun M22 H locs eM22 hW => ?_)
  have hw := hw M22 eM22
  refine lv_aload_n hx hb dX10_addElement_124 rfl (lv_at hl 0 rfl) ?_
  refine lv_iload_n hx hb dX10_addElement_125 rfl (lv_at hl 1 rfl) ?_
  refine g_calli (cw0 := fun M => rcells cI cZ ad M Y) (M := M22) (As := [.int x1]) (rest := []) C0 hW hl.1 (k_resultSize (l := l) _ x1 _ hw) (cwV 1 hts gX10_addElement_X10_resultSize rfl rfl rfl (by decide +kernel) ⟨Nat.le_of_ble_eq_true rfl, Nat.le_of_ble_eq_true rfl⟩) (r_recv C0 hW) (Nat.le_of_ble_eq_true rfl) dX10_addElement_126 rfl ⟨Nat.le_of_ble_eq_true rfl, Nat.le_of_ble_eq_true rfl⟩ (fun r24 M23 H locs hw hW => ?_)
  try dsimp only at hw
  exact hret r24 M23 _ _ 0 0 (Nat.le_refl _) (Nat.le_refl _) hw rfl dX10_addElement_129 _ _ _ hW hl
set_option maxHeartbeats 4000000 in
set_option maxRecDepth 100000 in
theorem t_addElement_36 (C0 : rX p s m args c cX10_addElement 4 RX10 wsX10_addElement D ((cI, .int) :: (cZ, .boolean) :: ty') A) (post : Int32 → RM → Prop) (hret : ∀ (r : Int32) (M' : RM) (pc : Nat) (lv : List (Nat × Value)) (k n : Nat), k ≤ 0 → n ≤ 0 → post r M' → narrow .int (.int r) = .int r → decode cX10_addElement pc = .ok (.ireturn, 1) → gG p l e rm_addElement s m args below meth c Q D A 4 k n (rcells cI cZ ad M' Y) pc lv [.int r])  : ∀  (x1 x2 s0 : Int32) (M : RM), w_addElement_36 post   x1 x2 s0 M → gG p l e rm_addElement s m args below meth c Q D A 4 0 0 (rcells cI cZ ad M Y) 36 [(0, .ref (ad 0)), (1, .int x1), (2, .int x2)] [.int s0] := by
  obtain ⟨hx, hb, hml, ho, hts, hK, hA⟩ := id C0
  have hin := in_addElement
  intro x1 x2 s0 M hw H locs ls hW hl
  rw [w_addElement_36] at hw
  refine lv_aload_n hx hb dX10_addElement_36 rfl (lv_at hl 0 rfl) ?_
  refine r_get C0 hin hW 0 (by decide) (v := .ref (ad 1)) rfl (List.mem_of_getElem? (i := 2) rfl) rfl dX10_addElement_37 ?_
  refine lv_iload_n hx hb dX10_addElement_40 rfl (lv_at hl 2 rfl) ?_
  obtain ⟨h7, hw⟩ := hw
  refine r_iald C0 hW 1 rfl rfl h7 dX10_addElement_41 ?_
  refine lv_iadd hx hb dX10_addElement_42 ?_
  refine lv_topi (fun v8 ev8 => ?_)
  have hw := hw v8 ev8
  refine lv_istore_n (lv' := [(3, .int v8), (0, .ref (ad 0)), (1, .int x1), (2, .int x2)]) hx hb dX10_addElement_43 rfl hl (by decide) rfl (fun ls hl => ?_)
  refine lv_aload_n hx hb dX10_addElement_44 rfl (lv_at hl 1 rfl) ?_
  refine r_get C0 hin hW 0 (by decide) (v := .ref (ad 1)) rfl (List.mem_of_getElem? (i := 2) rfl) rfl dX10_addElement_45 ?_
  refine lv_iload_n hx hb dX10_addElement_48 rfl (lv_at hl 2 rfl) ?_
  refine lv_sipush (v := 301) hx hb dX10_addElement_49 (by decide) ?_
  refine g_calls (As := [.int x1, .int 301]) (rest := [.ref (ad 1)]) ⟨hx, hb, hml, ho, hts⟩ hl.1 (k_part (l := l) _ x1 301 hw) (va_cwS 2 hts gX10_addElement_X10_part rfl rfl rfl (by decide +kernel) ⟨Nat.le_of_ble_eq_true rfl, Nat.le_of_ble_eq_true rfl⟩) (Nat.le_of_ble_eq_true rfl) dX10_addElement_52 rfl ⟨Nat.le_of_ble_eq_true rfl, Nat.le_of_ble_eq_true rfl⟩ (fun r9 hw => ?_)
  try dsimp only at hw
  obtain ⟨h10, hw⟩ := hw
  refine r_iald C0 hW 1 rfl rfl h10 dX10_addElement_55 ?_
  refine lv_iload_n hx hb dX10_addElement_56 rfl (lv_at hl 0 rfl) ?_
  refine lv_iadd hx hb dX10_addElement_57 ?_
  refine lv_aload_n hx hb dX10_addElement_58 rfl (lv_at hl 1 rfl) ?_
  refine r_get C0 hin hW 0 (by decide) (v := .ref (ad 1)) rfl (List.mem_of_getElem? (i := 2) rfl) rfl dX10_addElement_59 ?_
  refine lv_iload_n hx hb dX10_addElement_62 rfl (lv_at hl 2 rfl) ?_
  refine lv_sipush (v := 602) hx hb dX10_addElement_63 (by decide) ?_
  refine g_calls (As := [.int x1, .int 602]) (rest := [.ref (ad 1), .int ((M 1 r9.toNatClampNeg) + v8)]) ⟨hx, hb, hml, ho, hts⟩ hl.1 (k_part (l := l) _ x1 602 hw) (va_cwS 2 hts gX10_addElement_X10_part rfl rfl rfl (by decide +kernel) ⟨Nat.le_of_ble_eq_true rfl, Nat.le_of_ble_eq_true rfl⟩) (Nat.le_of_ble_eq_true rfl) dX10_addElement_66 rfl ⟨Nat.le_of_ble_eq_true rfl, Nat.le_of_ble_eq_true rfl⟩ (fun r11 hw => ?_)
  try dsimp only at hw
  obtain ⟨h12, hw⟩ := hw
  refine r_iald C0 hW 1 rfl rfl h12 dX10_addElement_69 ?_
  refine lv_iadd hx hb dX10_addElement_70 ?_
  refine lv_sipush (v := 300) hx hb dX10_addElement_71 (by decide) ?_
  refine lv_icmp_le (tgt := 80) hx hb dX10_addElement_74 (by decide) (fun c13 => ?_) (fun c13 => ?_)
  · have hw := hw.1 c13
    try dsimp only at hw
    refine lv_aload_n hx hb dX10_addElement_80 rfl (lv_at hl 1 rfl) ?_
    refine r_get C0 hin hW 11 (by decide) (v := .ref (ad 10)) rfl (List.mem_of_getElem? (i := 1) rfl) rfl dX10_addElement_81 ?_
    refine lv_iload_n hx hb dX10_addElement_84 rfl (lv_at hl 2 rfl) ?_
    obtain ⟨h14, hw⟩ := hw
    refine r_zald C0 hW 10 rfl rfl h14 dX10_addElement_85 ?_
    refine lv_if_eq (tgt := 105) hx hb dX10_addElement_86 (by decide) (fun c15 => ?_) (fun c15 => ?_)
    · have hw := hw.1 c15
      try dsimp only at hw
      exact t_addElement_105 C0 post hret  x1 x2 M hw _ _ _ hW (lv_sub hl [1, 2, 3] rfl)
    · have hw := hw.2 c15
      try dsimp only at hw
      refine lv_aload_n hx hb dX10_addElement_89 rfl (lv_at hl 1 rfl) ?_
      refine lv_iload_n hx hb dX10_addElement_90 rfl (lv_at hl 2 rfl) ?_
      refine lv_iconst (v := 0) hx hb dX10_addElement_91 (by decide) ?_
      refine g_calls (As := [.int x1, .int 0]) (rest := [.ref (ad 0)]) ⟨hx, hb, hml, ho, hts⟩ hl.1 (k_part (l := l) _ x1 0 hw) (va_cwS 2 hts gX10_addElement_X10_part rfl rfl rfl (by decide +kernel) ⟨Nat.le_of_ble_eq_true rfl, Nat.le_of_ble_eq_true rfl⟩) (Nat.le_of_ble_eq_true rfl) dX10_addElement_92 rfl ⟨Nat.le_of_ble_eq_true rfl, Nat.le_of_ble_eq_true rfl⟩ (fun r16 hw => ?_)
      try dsimp only at hw
      refine lv_iload_n hx hb dX10_addElement_95 rfl (lv_at hl 2 rfl) ?_
      refine lv_sipush (v := 1204) hx hb dX10_addElement_96 (by decide) ?_
      refine g_calls (As := [.int x1, .int 1204]) (rest := [.int r16, .ref (ad 0)]) ⟨hx, hb, hml, ho, hts⟩ hl.1 (k_part (l := l) _ x1 1204 hw) (va_cwS 2 hts gX10_addElement_X10_part rfl rfl rfl (by decide +kernel) ⟨Nat.le_of_ble_eq_true rfl, Nat.le_of_ble_eq_true rfl⟩) (Nat.le_of_ble_eq_true rfl) dX10_addElement_99 rfl ⟨Nat.le_of_ble_eq_true rfl, Nat.le_of_ble_eq_true rfl⟩ (fun r17 hw => ?_)
      try dsimp only at hw
      refine g_callv (cw0 := fun M => rcells cI cZ ad M Y) (M := M) (As := [.int r16, .int r17]) (rest := []) C0 hW hl.1 (k_addText (l := l) _ r16 r17 _ hw) (cwV 2 hts gX10_addElement_X10_addText rfl rfl rfl (by decide +kernel) ⟨Nat.le_of_ble_eq_true rfl, Nat.le_of_ble_eq_true rfl⟩) (r_recv C0 hW) (Nat.le_of_ble_eq_true rfl) dX10_addElement_102 rfl ⟨Nat.le_of_ble_eq_true rfl, Nat.le_of_ble_eq_true rfl⟩ (fun M18 H locs hw hW => ?_)
      try dsimp only at hw
      exact t_addElement_105 C0 post hret  x1 x2 M18 hw _ _ _ hW (lv_sub hl [1, 2, 3] rfl)
  · have hw := hw.2 c13
    try dsimp only at hw
    refine lv_bipush (v := (-3)) hx hb dX10_addElement_77 (by decide) ?_
    exact hret (-3) M _ _ 0 0 (Nat.le_refl _) (Nat.le_refl _) hw rfl dX10_addElement_79 _ _ _ hW hl
set_option maxHeartbeats 4000000 in
set_option maxRecDepth 100000 in
theorem t_addElement_0 (C0 : rX p s m args c cX10_addElement 4 RX10 wsX10_addElement D ((cI, .int) :: (cZ, .boolean) :: ty') A) (post : Int32 → RM → Prop) (hret : ∀ (r : Int32) (M' : RM) (pc : Nat) (lv : List (Nat × Value)) (k n : Nat), k ≤ 0 → n ≤ 0 → post r M' → narrow .int (.int r) = .int r → decode cX10_addElement pc = .ok (.ireturn, 1) → gG p l e rm_addElement s m args below meth c Q D A 4 k n (rcells cI cZ ad M' Y) pc lv [.int r])  : ∀  (a1 a2 : Int32) (M : RM), w_addElement post   a1 a2 M → gG p l e rm_addElement s m args below meth c Q D A 4 0 0 (rcells cI cZ ad M Y) 0 [(0, .ref (ad 0)), (1, .int a1), (2, .int a2)] [] := by
  obtain ⟨hx, hb, hml, ho, hts, hK, hA⟩ := id C0
  have hin := in_addElement
  intro a1 a2 M hw H locs ls hW hl
  rw [w_addElement] at hw
  refine lv_aload_n hx hb dX10_addElement_0 rfl (lv_at hl 0 rfl) ?_
  refine r_get C0 hin hW 11 (by decide) (v := .ref (ad 10)) rfl (List.mem_of_getElem? (i := 1) rfl) rfl dX10_addElement_1 ?_
  refine lv_iload_n hx hb dX10_addElement_4 rfl (lv_at hl 1 rfl) ?_
  obtain ⟨h1, hw⟩ := hw
  refine r_zald C0 hW 10 rfl rfl h1 dX10_addElement_5 ?_
  refine lv_if_eq (tgt := 35) hx hb dX10_addElement_6 (by decide) (fun c2 => ?_) (fun c2 => ?_)
  · have hw := hw.1 c2
    try dsimp only at hw
    refine lv_iconst (v := 0) hx hb dX10_addElement_35 (by decide) ?_
    exact t_addElement_36 C0 post hret  a1 a2 0 M hw _ _ _ hW (lv_sub hl [0, 1, 2] rfl)
  · have hw := hw.2 c2
    try dsimp only at hw
    refine lv_aload_n hx hb dX10_addElement_9 rfl (lv_at hl 0 rfl) ?_
    refine r_get C0 hin hW 0 (by decide) (v := .ref (ad 1)) rfl (List.mem_of_getElem? (i := 2) rfl) rfl dX10_addElement_10 ?_
    refine lv_iload_n hx hb dX10_addElement_13 rfl (lv_at hl 1 rfl) ?_
    refine lv_sipush (v := 1204) hx hb dX10_addElement_14 (by decide) ?_
    refine g_calls (As := [.int a1, .int 1204]) (rest := [.ref (ad 1)]) ⟨hx, hb, hml, ho, hts⟩ hl.1 (k_part (l := l) _ a1 1204 hw) (va_cwS 2 hts gX10_addElement_X10_part rfl rfl rfl (by decide +kernel) ⟨Nat.le_of_ble_eq_true rfl, Nat.le_of_ble_eq_true rfl⟩) (Nat.le_of_ble_eq_true rfl) dX10_addElement_17 rfl ⟨Nat.le_of_ble_eq_true rfl, Nat.le_of_ble_eq_true rfl⟩ (fun r3 hw => ?_)
    try dsimp only at hw
    obtain ⟨h4, hw⟩ := hw
    refine r_iald C0 hW 1 rfl rfl h4 dX10_addElement_20 ?_
    refine lv_aload_n hx hb dX10_addElement_21 rfl (lv_at hl 0 rfl) ?_
    refine r_get C0 hin hW 0 (by decide) (v := .ref (ad 1)) rfl (List.mem_of_getElem? (i := 2) rfl) rfl dX10_addElement_22 ?_
    refine lv_iload_n hx hb dX10_addElement_25 rfl (lv_at hl 1 rfl) ?_
    refine lv_iconst (v := 0) hx hb dX10_addElement_26 (by decide) ?_
    refine g_calls (As := [.int a1, .int 0]) (rest := [.ref (ad 1), .int (M 1 r3.toNatClampNeg)]) ⟨hx, hb, hml, ho, hts⟩ hl.1 (k_part (l := l) _ a1 0 hw) (va_cwS 2 hts gX10_addElement_X10_part rfl rfl rfl (by decide +kernel) ⟨Nat.le_of_ble_eq_true rfl, Nat.le_of_ble_eq_true rfl⟩) (Nat.le_of_ble_eq_true rfl) dX10_addElement_27 rfl ⟨Nat.le_of_ble_eq_true rfl, Nat.le_of_ble_eq_true rfl⟩ (fun r5 hw => ?_)
    try dsimp only at hw
    obtain ⟨h6, hw⟩ := hw
    refine r_iald C0 hW 1 rfl rfl h6 dX10_addElement_30 ?_
    refine lv_iadd hx hb dX10_addElement_31 ?_
    refine lv_goto (tgt := 36) hx hb dX10_addElement_32 (by decide) ?_
    exact t_addElement_36 C0 post hret  a1 a2 ((M 1 r3.toNatClampNeg) + (M 1 r5.toNatClampNeg)) M hw _ _ _ hW (lv_sub hl [0, 1, 2] rfl)
set_option maxHeartbeats 4000000 in
set_option maxRecDepth 100000 in
theorem k_addElement {l : Launch} {D : va_G} {cI cZ : ClassId} {ty' : List (ClassId × FieldType)} {ad : Nat → Nat} {Y : va_W} {sz : Nat} (post : Int32 → RM → Prop) (a1 a2 : Int32) (M : RM) (hw : w_addElement post a1 a2 M) : gMi l yX10_addElement wsX10_addElement rm_addElement D ((cI, .int) :: (cZ, .boolean) :: ty') sz (fun M => rcells cI cZ ad M Y) M [.ref (ad 0), .int a1, .int a2] post 0 0 := by
  refine gMi_of (cc := cX10_addElement) (nL := 4) (ty := .int) (own := RX10) (by decide) rfl rfl (Nat.le_of_ble_eq_true rfl) ?_
  intro p e s m args below meth c A Q C0 hret
  exact t_addElement_0 C0 post hret a1 a2 M hw
abbrev rm_add : Room := { frames := 3, cells := 0, slots := 0, locals := 67 }
theorem in_add : ∀ w ∈ wsX100, w ∈ wsX10_add := fun w hw => List.mem_cons_of_mem _ (List.mem_append_right _ hw)
set_option maxHeartbeats 4000000 in
set_option maxRecDepth 100000 in
theorem t_add_93 (C0 : rX p s m args c cX10_add 3 RX10 wsX10_add D ((cI, .int) :: (cZ, .boolean) :: ty') A) (post : Int32 → RM → Prop) (hret : ∀ (r : Int32) (M' : RM) (pc : Nat) (lv : List (Nat × Value)) (k n : Nat), k ≤ 0 → n ≤ 0 → post r M' → narrow .int (.int r) = .int r → decode cX10_add pc = .ok (.ireturn, 1) → gG p l e rm_add s m args below meth c Q D A 3 k n (rcells cI cZ ad M' Y) pc lv [.int r])  : ∀  (s0 s1 : Int32) (M : RM), w_add_93 post   s0 s1 M → gG p l e rm_add s m args below meth c Q D A 3 0 0 (rcells cI cZ ad M Y) 93 [(0, .ref (ad 0))] [.int s0, .int s1, .ref (ad 0)] := by
  obtain ⟨hx, hb, hml, ho, hts, hK, hA⟩ := id C0
  have hin := in_add
  intro s0 s1 M hw H locs ls hW hl
  rw [w_add_93] at hw
  refine g_calli (cw0 := fun M => rcells cI cZ ad M Y) (M := M) (As := [.int s1, .int s0]) (rest := []) C0 hW hl.1 (k_addElement (l := l) _ s1 s0 _ hw) (cwV 2 hts gX10_add_X10_addElement rfl rfl rfl (by decide +kernel) ⟨Nat.le_of_ble_eq_true rfl, Nat.le_of_ble_eq_true rfl⟩) (r_recv C0 hW) (Nat.le_of_ble_eq_true rfl) dX10_add_93 rfl ⟨Nat.le_of_ble_eq_true rfl, Nat.le_of_ble_eq_true rfl⟩ (fun r18 M17 H locs hw hW => ?_)
  try dsimp only at hw
  exact hret r18 M17 _ _ 0 0 (Nat.le_refl _) (Nat.le_refl _) hw rfl dX10_add_96 _ _ _ hW hl
set_option maxHeartbeats 4000000 in
set_option maxRecDepth 100000 in
theorem t_add_0 (C0 : rX p s m args c cX10_add 3 RX10 wsX10_add D ((cI, .int) :: (cZ, .boolean) :: ty') A) (post : Int32 → RM → Prop) (hret : ∀ (r : Int32) (M' : RM) (pc : Nat) (lv : List (Nat × Value)) (k n : Nat), k ≤ 0 → n ≤ 0 → post r M' → narrow .int (.int r) = .int r → decode cX10_add pc = .ok (.ireturn, 1) → gG p l e rm_add s m args below meth c Q D A 3 k n (rcells cI cZ ad M' Y) pc lv [.int r])  : ∀  (a1 a2 : Int32) (M : RM), w_add post   a1 a2 M → gG p l e rm_add s m args below meth c Q D A 3 0 0 (rcells cI cZ ad M Y) 0 [(0, .ref (ad 0)), (1, .int a1), (2, .int a2)] [] := by
  obtain ⟨hx, hb, hml, ho, hts, hK, hA⟩ := id C0
  have hin := in_add
  intro a1 a2 M hw H locs ls hW hl
  rw [w_add] at hw
  refine lv_iload_n hx hb dX10_add_0 rfl (lv_at hl 1 rfl) ?_
  refine g_calls (As := [.int a1]) (rest := []) ⟨hx, hb, hml, ho, hts⟩ hl.1 (k_isJoiner (l := l) _ a1 hw) (va_cwS 1 hts gX10_add_X10_isJoiner rfl rfl rfl (by decide +kernel) ⟨Nat.le_of_ble_eq_true rfl, Nat.le_of_ble_eq_true rfl⟩) (Nat.le_of_ble_eq_true rfl) dX10_add_1 rfl ⟨Nat.le_of_ble_eq_true rfl, Nat.le_of_ble_eq_true rfl⟩ (fun r1 hw => ?_)
  try dsimp only at hw
  refine lv_if_eq (tgt := 14) hx hb dX10_add_4 (by decide) (fun c2 => ?_) (fun c2 => ?_)
  · have hw := hw.1 c2
    try dsimp only at hw
    refine lv_iconst (v := (-1)) hx hb dX10_add_14 (by decide) ?_
    exact hret (-1) M _ _ 0 0 (Nat.le_refl _) (Nat.le_refl _) hw rfl dX10_add_15 _ _ _ hW hl
  · have hw := hw.2 c2
    try dsimp only at hw
    refine lv_iload_n hx hb dX10_add_7 rfl (lv_at hl 2 rfl) ?_
    refine g_calls (As := [.int a2]) (rest := []) ⟨hx, hb, hml, ho, hts⟩ hl.1 (k_isSlot (l := l) _ a2 hw) (va_cwS 1 hts gX10_add_X10_isSlot rfl rfl rfl (by decide +kernel) ⟨Nat.le_of_ble_eq_true rfl, Nat.le_of_ble_eq_true rfl⟩) (Nat.le_of_ble_eq_true rfl) dX10_add_8 rfl ⟨Nat.le_of_ble_eq_true rfl, Nat.le_of_ble_eq_true rfl⟩ (fun r3 hw => ?_)
    try dsimp only at hw
    refine lv_if_ne (tgt := 16) hx hb dX10_add_11 (by decide) (fun c4 => ?_) (fun c4 => ?_)
    · have hw := hw.1 c4
      try dsimp only at hw
      refine lv_aload_n hx hb dX10_add_16 rfl (lv_at hl 0 rfl) ?_
      refine r_get C0 hin hW 10 (by decide) (v := .ref (ad 9)) rfl (List.mem_of_getElem? (i := 1) rfl) rfl dX10_add_17 ?_
      refine lv_iload_n hx hb dX10_add_20 rfl (lv_at hl 1 rfl) ?_
      obtain ⟨h5, hw⟩ := hw
      refine r_zald C0 hW 9 rfl rfl h5 dX10_add_21 ?_
      refine lv_if_ne (tgt := 28) hx hb dX10_add_22 (by decide) (fun c6 => ?_) (fun c6 => ?_)
      · have hw := hw.1 c6
        try dsimp only at hw
        refine lv_aload_n hx hb dX10_add_28 rfl (lv_at hl 0 rfl) ?_
        refine r_get C0 hin hW 0 (by decide) (v := .ref (ad 1)) rfl (List.mem_of_getElem? (i := 2) rfl) rfl dX10_add_29 ?_
        refine lv_sipush (v := 1806) hx hb dX10_add_32 (by decide) ?_
        refine lv_iconst (v := 0) hx hb dX10_add_35 (by decide) ?_
        obtain ⟨h7, hw⟩ := hw
        refine r_iast C0 hW 1 rfl rfl h7 rfl dX10_add_36 (fun M8 H locs eM8 hW => ?_)
        have hw := hw M8 eM8
        refine lv_aload_n hx hb dX10_add_37 rfl (lv_at hl 0 rfl) ?_
        refine lv_sipush (v := 1806) hx hb dX10_add_38 (by decide) ?_
        refine lv_bipush (v := 110) hx hb dX10_add_41 (by decide) ?_
        refine g_callv (cw0 := fun M => rcells cI cZ ad M Y) (M := M8) (As := [.int 1806, .int 110]) (rest := []) C0 hW hl.1 (k_addSign (l := l) _ 1806 110 _ hw) (cwV 2 hts gX10_add_X10_addSign rfl rfl rfl (by decide +kernel) ⟨Nat.le_of_ble_eq_true rfl, Nat.le_of_ble_eq_true rfl⟩) (r_recv C0 hW) (Nat.le_of_ble_eq_true rfl) dX10_add_43 rfl ⟨Nat.le_of_ble_eq_true rfl, Nat.le_of_ble_eq_true rfl⟩ (fun M9 H locs hw hW => ?_)
        try dsimp only at hw
        refine lv_aload_n hx hb dX10_add_46 rfl (lv_at hl 0 rfl) ?_
        refine lv_sipush (v := 1806) hx hb dX10_add_47 (by decide) ?_
        refine lv_bipush (v := 117) hx hb dX10_add_50 (by decide) ?_
        refine g_callv (cw0 := fun M => rcells cI cZ ad M Y) (M := M9) (As := [.int 1806, .int 117]) (rest := []) C0 hW hl.1 (k_addSign (l := l) _ 1806 117 _ hw) (cwV 2 hts gX10_add_X10_addSign rfl rfl rfl (by decide +kernel) ⟨Nat.le_of_ble_eq_true rfl, Nat.le_of_ble_eq_true rfl⟩) (r_recv C0 hW) (Nat.le_of_ble_eq_true rfl) dX10_add_52 rfl ⟨Nat.le_of_ble_eq_true rfl, Nat.le_of_ble_eq_true rfl⟩ (fun M10 H locs hw hW => ?_)
        try dsimp only at hw
        refine lv_aload_n hx hb dX10_add_55 rfl (lv_at hl 0 rfl) ?_
        refine lv_sipush (v := 1806) hx hb dX10_add_56 (by decide) ?_
        refine lv_bipush (v := 108) hx hb dX10_add_59 (by decide) ?_
        refine g_callv (cw0 := fun M => rcells cI cZ ad M Y) (M := M10) (As := [.int 1806, .int 108]) (rest := []) C0 hW hl.1 (k_addSign (l := l) _ 1806 108 _ hw) (cwV 2 hts gX10_add_X10_addSign rfl rfl rfl (by decide +kernel) ⟨Nat.le_of_ble_eq_true rfl, Nat.le_of_ble_eq_true rfl⟩) (r_recv C0 hW) (Nat.le_of_ble_eq_true rfl) dX10_add_61 rfl ⟨Nat.le_of_ble_eq_true rfl, Nat.le_of_ble_eq_true rfl⟩ (fun M11 H locs hw hW => ?_)
        try dsimp only at hw
        refine lv_aload_n hx hb dX10_add_64 rfl (lv_at hl 0 rfl) ?_
        refine lv_sipush (v := 1806) hx hb dX10_add_65 (by decide) ?_
        refine lv_bipush (v := 108) hx hb dX10_add_68 (by decide) ?_
        refine g_callv (cw0 := fun M => rcells cI cZ ad M Y) (M := M11) (As := [.int 1806, .int 108]) (rest := []) C0 hW hl.1 (k_addSign (l := l) _ 1806 108 _ hw) (cwV 2 hts gX10_add_X10_addSign rfl rfl rfl (by decide +kernel) ⟨Nat.le_of_ble_eq_true rfl, Nat.le_of_ble_eq_true rfl⟩) (r_recv C0 hW) (Nat.le_of_ble_eq_true rfl) dX10_add_70 rfl ⟨Nat.le_of_ble_eq_true rfl, Nat.le_of_ble_eq_true rfl⟩ (fun M12 H locs hw hW => ?_)
        try dsimp only at hw
        refine lv_aload_n hx hb dX10_add_73 rfl (lv_at hl 0 rfl) ?_
        refine lv_iload_n hx hb dX10_add_74 rfl (lv_at hl 1 rfl) ?_
        refine lv_aload_n hx hb dX10_add_75 rfl (lv_at hl 0 rfl) ?_
        refine lv_iload_n hx hb dX10_add_76 rfl (lv_at hl 2 rfl) ?_
        refine g_calli (cw0 := fun M => rcells cI cZ ad M Y) (M := M12) (As := [.int a2]) (rest := [.int a1, .ref (ad 0)]) C0 hW hl.1 (k_hasNothing (l := l) _ a2 _ hw) (cwV 1 hts gX10_add_X10_hasNothing rfl rfl rfl (by decide +kernel) ⟨Nat.le_of_ble_eq_true rfl, Nat.le_of_ble_eq_true rfl⟩) (r_recv C0 hW) (Nat.le_of_ble_eq_true rfl) dX10_add_77 rfl ⟨Nat.le_of_ble_eq_true rfl, Nat.le_of_ble_eq_true rfl⟩ (fun r14 M13 H locs hw hW => ?_)
        try dsimp only at hw
        refine lv_if_eq (tgt := 89) hx hb dX10_add_80 (by decide) (fun c15 => ?_) (fun c15 => ?_)
        · have hw := hw.1 c15
          try dsimp only at hw
          refine lv_iload_n hx hb dX10_add_89 rfl (lv_at hl 2 rfl) ?_
          refine g_calls (As := [.int a2]) (rest := [.int a1, .ref (ad 0)]) ⟨hx, hb, hml, ho, hts⟩ hl.1 (k_at (l := l) _ a2 hw) (va_cwS 1 hts gX10_add_X10_at rfl rfl rfl (by decide +kernel) ⟨Nat.le_of_ble_eq_true rfl, Nat.le_of_ble_eq_true rfl⟩) (Nat.le_of_ble_eq_true rfl) dX10_add_90 rfl ⟨Nat.le_of_ble_eq_true rfl, Nat.le_of_ble_eq_true rfl⟩ (fun r16 hw => ?_)
          try dsimp only at hw
          exact t_add_93 C0 post hret  r16 a1 M13 hw _ _ _ hW (lv_sub hl [0] rfl)
        · have hw := hw.2 c15
          try dsimp only at hw
          refine lv_sipush (v := 1806) hx hb dX10_add_83 (by decide) ?_
          refine lv_goto (tgt := 93) hx hb dX10_add_86 (by decide) ?_
          exact t_add_93 C0 post hret  1806 a1 M13 hw _ _ _ hW (lv_sub hl [0] rfl)
      · have hw := hw.2 c6
        try dsimp only at hw
        refine lv_bipush (v := (-4)) hx hb dX10_add_25 (by decide) ?_
        exact hret (-4) M _ _ 0 0 (Nat.le_refl _) (Nat.le_refl _) hw rfl dX10_add_27 _ _ _ hW hl
    · have hw := hw.2 c4
      try dsimp only at hw
      refine lv_iconst (v := (-1)) hx hb dX10_add_14 (by decide) ?_
      exact hret (-1) M _ _ 0 0 (Nat.le_refl _) (Nat.le_refl _) hw rfl dX10_add_15 _ _ _ hW hl
set_option maxHeartbeats 4000000 in
set_option maxRecDepth 100000 in
theorem k_add {l : Launch} {D : va_G} {cI cZ : ClassId} {ty' : List (ClassId × FieldType)} {ad : Nat → Nat} {Y : va_W} {sz : Nat} (post : Int32 → RM → Prop) (a1 a2 : Int32) (M : RM) (hw : w_add post a1 a2 M) : gMi l yX10_add wsX10_add rm_add D ((cI, .int) :: (cZ, .boolean) :: ty') sz (fun M => rcells cI cZ ad M Y) M [.ref (ad 0), .int a1, .int a2] post 0 0 := by
  refine gMi_of (cc := cX10_add) (nL := 3) (ty := .int) (own := RX10) (by decide) rfl rfl (Nat.le_of_ble_eq_true rfl) ?_
  intro p e s m args below meth c A Q C0 hret
  exact t_add_0 C0 post hret a1 a2 M hw
abbrev rm_ifEmpty : Room := { frames := 2, cells := 0, slots := 0, locals := 44 }
theorem in_ifEmpty : ∀ w ∈ wsX100, w ∈ wsX10_ifEmpty := fun w hw => List.mem_cons_of_mem _ (List.mem_append_right _ hw)
set_option maxHeartbeats 4000000 in
set_option maxRecDepth 100000 in
theorem t_ifEmpty_0 (C0 : rX p s m args c cX10_ifEmpty 3 RX10 wsX10_ifEmpty D ((cI, .int) :: (cZ, .boolean) :: ty') A) (post : Int32 → RM → Prop) (hret : ∀ (r : Int32) (M' : RM) (pc : Nat) (lv : List (Nat × Value)) (k n : Nat), k ≤ 0 → n ≤ 0 → post r M' → narrow .int (.int r) = .int r → decode cX10_ifEmpty pc = .ok (.ireturn, 1) → gG p l e rm_ifEmpty s m args below meth c Q D A 3 k n (rcells cI cZ ad M' Y) pc lv [.int r])  : ∀  (a1 a2 : Int32) (M : RM), w_ifEmpty post   a1 a2 M → gG p l e rm_ifEmpty s m args below meth c Q D A 3 0 0 (rcells cI cZ ad M Y) 0 [(0, .ref (ad 0)), (1, .int a1), (2, .int a2)] [] := by
  obtain ⟨hx, hb, hml, ho, hts, hK, hA⟩ := id C0
  have hin := in_ifEmpty
  intro a1 a2 M hw H locs ls hW hl
  rw [w_ifEmpty] at hw
  refine lv_iload_n hx hb dX10_ifEmpty_0 rfl (lv_at hl 1 rfl) ?_
  refine g_calls (As := [.int a1]) (rest := []) ⟨hx, hb, hml, ho, hts⟩ hl.1 (k_isJoiner (l := l) _ a1 hw) (va_cwS 1 hts gX10_ifEmpty_X10_isJoiner rfl rfl rfl (by decide +kernel) ⟨Nat.le_of_ble_eq_true rfl, Nat.le_of_ble_eq_true rfl⟩) (Nat.le_of_ble_eq_true rfl) dX10_ifEmpty_1 rfl ⟨Nat.le_of_ble_eq_true rfl, Nat.le_of_ble_eq_true rfl⟩ (fun r1 hw => ?_)
  try dsimp only at hw
  refine lv_if_eq (tgt := 14) hx hb dX10_ifEmpty_4 (by decide) (fun c2 => ?_) (fun c2 => ?_)
  · have hw := hw.1 c2
    try dsimp only at hw
    refine lv_iconst (v := (-1)) hx hb dX10_ifEmpty_14 (by decide) ?_
    exact hret (-1) M _ _ 0 0 (Nat.le_refl _) (Nat.le_refl _) hw rfl dX10_ifEmpty_15 _ _ _ hW hl
  · have hw := hw.2 c2
    try dsimp only at hw
    refine lv_iload_n hx hb dX10_ifEmpty_7 rfl (lv_at hl 2 rfl) ?_
    refine g_calls (As := [.int a2]) (rest := []) ⟨hx, hb, hml, ho, hts⟩ hl.1 (k_isSlot (l := l) _ a2 hw) (va_cwS 1 hts gX10_ifEmpty_X10_isSlot rfl rfl rfl (by decide +kernel) ⟨Nat.le_of_ble_eq_true rfl, Nat.le_of_ble_eq_true rfl⟩) (Nat.le_of_ble_eq_true rfl) dX10_ifEmpty_8 rfl ⟨Nat.le_of_ble_eq_true rfl, Nat.le_of_ble_eq_true rfl⟩ (fun r3 hw => ?_)
    try dsimp only at hw
    refine lv_if_ne (tgt := 16) hx hb dX10_ifEmpty_11 (by decide) (fun c4 => ?_) (fun c4 => ?_)
    · have hw := hw.1 c4
      try dsimp only at hw
      refine lv_aload_n hx hb dX10_ifEmpty_16 rfl (lv_at hl 0 rfl) ?_
      refine r_get C0 hin hW 10 (by decide) (v := .ref (ad 9)) rfl (List.mem_of_getElem? (i := 1) rfl) rfl dX10_ifEmpty_17 ?_
      refine lv_iload_n hx hb dX10_ifEmpty_20 rfl (lv_at hl 1 rfl) ?_
      obtain ⟨h5, hw⟩ := hw
      refine r_zald C0 hW 9 rfl rfl h5 dX10_ifEmpty_21 ?_
      refine lv_if_ne (tgt := 28) hx hb dX10_ifEmpty_22 (by decide) (fun c6 => ?_) (fun c6 => ?_)
      · have hw := hw.1 c6
        try dsimp only at hw
        refine lv_aload_n hx hb dX10_ifEmpty_28 rfl (lv_at hl 0 rfl) ?_
        refine lv_iload_n hx hb dX10_ifEmpty_29 rfl (lv_at hl 2 rfl) ?_
        refine g_calli (cw0 := fun M => rcells cI cZ ad M Y) (M := M) (As := [.int a2]) (rest := []) C0 hW hl.1 (k_hasNothing (l := l) _ a2 _ hw) (cwV 1 hts gX10_ifEmpty_X10_hasNothing rfl rfl rfl (by decide +kernel) ⟨Nat.le_of_ble_eq_true rfl, Nat.le_of_ble_eq_true rfl⟩) (r_recv C0 hW) (Nat.le_of_ble_eq_true rfl) dX10_ifEmpty_30 rfl ⟨Nat.le_of_ble_eq_true rfl, Nat.le_of_ble_eq_true rfl⟩ (fun r8 M7 H locs hw hW => ?_)
        try dsimp only at hw
        refine lv_if_eq (tgt := 41) hx hb dX10_ifEmpty_33 (by decide) (fun c9 => ?_) (fun c9 => ?_)
        · have hw := hw.1 c9
          try dsimp only at hw
          refine lv_aload_n hx hb dX10_ifEmpty_41 rfl (lv_at hl 0 rfl) ?_
          refine lv_iload_n hx hb dX10_ifEmpty_42 rfl (lv_at hl 2 rfl) ?_
          refine g_calls (As := [.int a2]) (rest := [.ref (ad 0)]) ⟨hx, hb, hml, ho, hts⟩ hl.1 (k_at (l := l) _ a2 hw) (va_cwS 1 hts gX10_ifEmpty_X10_at rfl rfl rfl (by decide +kernel) ⟨Nat.le_of_ble_eq_true rfl, Nat.le_of_ble_eq_true rfl⟩) (Nat.le_of_ble_eq_true rfl) dX10_ifEmpty_43 rfl ⟨Nat.le_of_ble_eq_true rfl, Nat.le_of_ble_eq_true rfl⟩ (fun r10 hw => ?_)
          try dsimp only at hw
          refine lv_iload_n hx hb dX10_ifEmpty_46 rfl (lv_at hl 1 rfl) ?_
          refine lv_sipush (v := 903) hx hb dX10_ifEmpty_47 (by decide) ?_
          refine g_calls (As := [.int a1, .int 903]) (rest := [.int r10, .ref (ad 0)]) ⟨hx, hb, hml, ho, hts⟩ hl.1 (k_part (l := l) _ a1 903 hw) (va_cwS 2 hts gX10_ifEmpty_X10_part rfl rfl rfl (by decide +kernel) ⟨Nat.le_of_ble_eq_true rfl, Nat.le_of_ble_eq_true rfl⟩) (Nat.le_of_ble_eq_true rfl) dX10_ifEmpty_50 rfl ⟨Nat.le_of_ble_eq_true rfl, Nat.le_of_ble_eq_true rfl⟩ (fun r11 hw => ?_)
          try dsimp only at hw
          refine g_callv (cw0 := fun M => rcells cI cZ ad M Y) (M := M7) (As := [.int r10, .int r11]) (rest := []) C0 hW hl.1 (k_copyText (l := l) _ r10 r11 _ hw) (cwV 2 hts gX10_ifEmpty_X10_copyText rfl rfl rfl (by decide +kernel) ⟨Nat.le_of_ble_eq_true rfl, Nat.le_of_ble_eq_true rfl⟩) (r_recv C0 hW) (Nat.le_of_ble_eq_true rfl) dX10_ifEmpty_53 rfl ⟨Nat.le_of_ble_eq_true rfl, Nat.le_of_ble_eq_true rfl⟩ (fun M12 H locs hw hW => ?_)
          try dsimp only at hw
          refine lv_aload_n hx hb dX10_ifEmpty_56 rfl (lv_at hl 0 rfl) ?_
          refine lv_iload_n hx hb dX10_ifEmpty_57 rfl (lv_at hl 1 rfl) ?_
          refine g_calli (cw0 := fun M => rcells cI cZ ad M Y) (M := M12) (As := [.int a1]) (rest := []) C0 hW hl.1 (k_resultSize (l := l) _ a1 _ hw) (cwV 1 hts gX10_ifEmpty_X10_resultSize rfl rfl rfl (by decide +kernel) ⟨Nat.le_of_ble_eq_true rfl, Nat.le_of_ble_eq_true rfl⟩) (r_recv C0 hW) (Nat.le_of_ble_eq_true rfl) dX10_ifEmpty_58 rfl ⟨Nat.le_of_ble_eq_true rfl, Nat.le_of_ble_eq_true rfl⟩ (fun r14 M13 H locs hw hW => ?_)
          try dsimp only at hw
          exact hret r14 M13 _ _ 0 0 (Nat.le_refl _) (Nat.le_refl _) hw rfl dX10_ifEmpty_61 _ _ _ hW hl
        · have hw := hw.2 c9
          try dsimp only at hw
          refine lv_aload_n hx hb dX10_ifEmpty_36 rfl (lv_at hl 0 rfl) ?_
          refine g_calli (cw0 := fun M => rcells cI cZ ad M Y) (M := M7) (As := []) (rest := []) C0 hW hl.1 (k_refusedNull (l := l) _  _ hw) (cwV 0 hts gX10_ifEmpty_X10_refusedNull rfl rfl rfl (by decide +kernel) ⟨Nat.le_of_ble_eq_true rfl, Nat.le_of_ble_eq_true rfl⟩) (r_recv C0 hW) (Nat.le_of_ble_eq_true rfl) dX10_ifEmpty_37 rfl ⟨Nat.le_of_ble_eq_true rfl, Nat.le_of_ble_eq_true rfl⟩ (fun r16 M15 H locs hw hW => ?_)
          try dsimp only at hw
          exact hret r16 M15 _ _ 0 0 (Nat.le_refl _) (Nat.le_refl _) hw rfl dX10_ifEmpty_40 _ _ _ hW hl
      · have hw := hw.2 c6
        try dsimp only at hw
        refine lv_bipush (v := (-4)) hx hb dX10_ifEmpty_25 (by decide) ?_
        exact hret (-4) M _ _ 0 0 (Nat.le_refl _) (Nat.le_refl _) hw rfl dX10_ifEmpty_27 _ _ _ hW hl
    · have hw := hw.2 c4
      try dsimp only at hw
      refine lv_iconst (v := (-1)) hx hb dX10_ifEmpty_14 (by decide) ?_
      exact hret (-1) M _ _ 0 0 (Nat.le_refl _) (Nat.le_refl _) hw rfl dX10_ifEmpty_15 _ _ _ hW hl
set_option maxHeartbeats 4000000 in
set_option maxRecDepth 100000 in
theorem k_ifEmpty {l : Launch} {D : va_G} {cI cZ : ClassId} {ty' : List (ClassId × FieldType)} {ad : Nat → Nat} {Y : va_W} {sz : Nat} (post : Int32 → RM → Prop) (a1 a2 : Int32) (M : RM) (hw : w_ifEmpty post a1 a2 M) : gMi l yX10_ifEmpty wsX10_ifEmpty rm_ifEmpty D ((cI, .int) :: (cZ, .boolean) :: ty') sz (fun M => rcells cI cZ ad M Y) M [.ref (ad 0), .int a1, .int a2] post 0 0 := by
  refine gMi_of (cc := cX10_ifEmpty) (nL := 3) (ty := .int) (own := RX10) (by decide) rfl rfl (Nat.le_of_ble_eq_true rfl) ?_
  intro p e s m args below meth c A Q C0 hret
  exact t_ifEmpty_0 C0 post hret a1 a2 M hw
abbrev rm_merge : Room := { frames := 3, cells := 0, slots := 0, locals := 67 }
theorem in_merge : ∀ w ∈ wsX100, w ∈ wsX10_merge := fun w hw => List.mem_cons_of_mem _ (List.mem_append_right _ hw)
set_option maxHeartbeats 4000000 in
set_option maxRecDepth 100000 in
theorem t_merge_0 (C0 : rX p s m args c cX10_merge 3 RX10 wsX10_merge D ((cI, .int) :: (cZ, .boolean) :: ty') A) (post : Int32 → RM → Prop) (hret : ∀ (r : Int32) (M' : RM) (pc : Nat) (lv : List (Nat × Value)) (k n : Nat), k ≤ 0 → n ≤ 0 → post r M' → narrow .int (.int r) = .int r → decode cX10_merge pc = .ok (.ireturn, 1) → gG p l e rm_merge s m args below meth c Q D A 3 k n (rcells cI cZ ad M' Y) pc lv [.int r])  : ∀  (a1 a2 : Int32) (M : RM), w_merge post   a1 a2 M → gG p l e rm_merge s m args below meth c Q D A 3 0 0 (rcells cI cZ ad M Y) 0 [(0, .ref (ad 0)), (1, .int a1), (2, .int a2)] [] := by
  obtain ⟨hx, hb, hml, ho, hts, hK, hA⟩ := id C0
  have hin := in_merge
  intro a1 a2 M hw H locs ls hW hl
  rw [w_merge] at hw
  refine lv_iload_n hx hb dX10_merge_0 rfl (lv_at hl 1 rfl) ?_
  refine g_calls (As := [.int a1]) (rest := []) ⟨hx, hb, hml, ho, hts⟩ hl.1 (k_isJoiner (l := l) _ a1 hw) (va_cwS 1 hts gX10_merge_X10_isJoiner rfl rfl rfl (by decide +kernel) ⟨Nat.le_of_ble_eq_true rfl, Nat.le_of_ble_eq_true rfl⟩) (Nat.le_of_ble_eq_true rfl) dX10_merge_1 rfl ⟨Nat.le_of_ble_eq_true rfl, Nat.le_of_ble_eq_true rfl⟩ (fun r1 hw => ?_)
  try dsimp only at hw
  refine lv_if_eq (tgt := 19) hx hb dX10_merge_4 (by decide) (fun c2 => ?_) (fun c2 => ?_)
  · have hw := hw.1 c2
    try dsimp only at hw
    refine lv_iconst (v := (-1)) hx hb dX10_merge_19 (by decide) ?_
    exact hret (-1) M _ _ 0 0 (Nat.le_refl _) (Nat.le_refl _) hw rfl dX10_merge_20 _ _ _ hW hl
  · have hw := hw.2 c2
    try dsimp only at hw
    refine lv_iload_n hx hb dX10_merge_7 rfl (lv_at hl 2 rfl) ?_
    refine g_calls (As := [.int a2]) (rest := []) ⟨hx, hb, hml, ho, hts⟩ hl.1 (k_isJoiner (l := l) _ a2 hw) (va_cwS 1 hts gX10_merge_X10_isJoiner rfl rfl rfl (by decide +kernel) ⟨Nat.le_of_ble_eq_true rfl, Nat.le_of_ble_eq_true rfl⟩) (Nat.le_of_ble_eq_true rfl) dX10_merge_8 rfl ⟨Nat.le_of_ble_eq_true rfl, Nat.le_of_ble_eq_true rfl⟩ (fun r3 hw => ?_)
    try dsimp only at hw
    refine lv_if_eq (tgt := 19) hx hb dX10_merge_11 (by decide) (fun c4 => ?_) (fun c4 => ?_)
    · have hw := hw.1 c4
      try dsimp only at hw
      refine lv_iconst (v := (-1)) hx hb dX10_merge_19 (by decide) ?_
      exact hret (-1) M _ _ 0 0 (Nat.le_refl _) (Nat.le_refl _) hw rfl dX10_merge_20 _ _ _ hW hl
    · have hw := hw.2 c4
      try dsimp only at hw
      refine lv_iload_n hx hb dX10_merge_14 rfl (lv_at hl 1 rfl) ?_
      refine lv_iload_n hx hb dX10_merge_15 rfl (lv_at hl 2 rfl) ?_
      refine lv_icmp_ne (tgt := 21) hx hb dX10_merge_16 (by decide) (fun c5 => ?_) (fun c5 => ?_)
      · have hw := hw.1 c5
        try dsimp only at hw
        refine lv_aload_n hx hb dX10_merge_21 rfl (lv_at hl 0 rfl) ?_
        refine r_get C0 hin hW 10 (by decide) (v := .ref (ad 9)) rfl (List.mem_of_getElem? (i := 1) rfl) rfl dX10_merge_22 ?_
        refine lv_iload_n hx hb dX10_merge_25 rfl (lv_at hl 1 rfl) ?_
        obtain ⟨h6, hw⟩ := hw
        refine r_zald C0 hW 9 rfl rfl h6 dX10_merge_26 ?_
        refine lv_if_eq (tgt := 39) hx hb dX10_merge_27 (by decide) (fun c7 => ?_) (fun c7 => ?_)
        · have hw := hw.1 c7
          try dsimp only at hw
          refine lv_bipush (v := (-4)) hx hb dX10_merge_39 (by decide) ?_
          exact hret (-4) M _ _ 0 0 (Nat.le_refl _) (Nat.le_refl _) hw rfl dX10_merge_41 _ _ _ hW hl
        · have hw := hw.2 c7
          try dsimp only at hw
          refine lv_aload_n hx hb dX10_merge_30 rfl (lv_at hl 0 rfl) ?_
          refine r_get C0 hin hW 10 (by decide) (v := .ref (ad 9)) rfl (List.mem_of_getElem? (i := 1) rfl) rfl dX10_merge_31 ?_
          refine lv_iload_n hx hb dX10_merge_34 rfl (lv_at hl 2 rfl) ?_
          obtain ⟨h8, hw⟩ := hw
          refine r_zald C0 hW 9 rfl rfl h8 dX10_merge_35 ?_
          refine lv_if_ne (tgt := 42) hx hb dX10_merge_36 (by decide) (fun c9 => ?_) (fun c9 => ?_)
          · have hw := hw.1 c9
            try dsimp only at hw
            refine lv_aload_n hx hb dX10_merge_42 rfl (lv_at hl 0 rfl) ?_
            refine r_get C0 hin hW 11 (by decide) (v := .ref (ad 10)) rfl (List.mem_of_getElem? (i := 2) rfl) rfl dX10_merge_43 ?_
            refine lv_iload_n hx hb dX10_merge_46 rfl (lv_at hl 2 rfl) ?_
            obtain ⟨h10, hw⟩ := hw
            refine r_zald C0 hW 10 rfl rfl h10 dX10_merge_47 ?_
            refine lv_if_eq (tgt := 66) hx hb dX10_merge_48 (by decide) (fun c11 => ?_) (fun c11 => ?_)
            · have hw := hw.1 c11
              try dsimp only at hw
              refine lv_aload_n hx hb dX10_merge_66 rfl (lv_at hl 0 rfl) ?_
              refine lv_iload_n hx hb dX10_merge_67 rfl (lv_at hl 1 rfl) ?_
              refine g_calli (cw0 := fun M => rcells cI cZ ad M Y) (M := M) (As := [.int a1]) (rest := []) C0 hW hl.1 (k_resultSize (l := l) _ a1 _ hw) (cwV 1 hts gX10_merge_X10_resultSize rfl rfl rfl (by decide +kernel) ⟨Nat.le_of_ble_eq_true rfl, Nat.le_of_ble_eq_true rfl⟩) (r_recv C0 hW) (Nat.le_of_ble_eq_true rfl) dX10_merge_68 rfl ⟨Nat.le_of_ble_eq_true rfl, Nat.le_of_ble_eq_true rfl⟩ (fun r13 M12 H locs hw hW => ?_)
              try dsimp only at hw
              exact hret r13 M12 _ _ 0 0 (Nat.le_refl _) (Nat.le_refl _) hw rfl dX10_merge_71 _ _ _ hW hl
            · have hw := hw.2 c11
              try dsimp only at hw
              refine lv_aload_n hx hb dX10_merge_51 rfl (lv_at hl 0 rfl) ?_
              refine lv_iload_n hx hb dX10_merge_52 rfl (lv_at hl 1 rfl) ?_
              refine lv_iload_n hx hb dX10_merge_53 rfl (lv_at hl 2 rfl) ?_
              refine lv_sipush (v := 1204) hx hb dX10_merge_54 (by decide) ?_
              refine g_calls (As := [.int a2, .int 1204]) (rest := [.int a1, .ref (ad 0)]) ⟨hx, hb, hml, ho, hts⟩ hl.1 (k_part (l := l) _ a2 1204 hw) (va_cwS 2 hts gX10_merge_X10_part rfl rfl rfl (by decide +kernel) ⟨Nat.le_of_ble_eq_true rfl, Nat.le_of_ble_eq_true rfl⟩) (Nat.le_of_ble_eq_true rfl) dX10_merge_57 rfl ⟨Nat.le_of_ble_eq_true rfl, Nat.le_of_ble_eq_true rfl⟩ (fun r14 hw => ?_)
              try dsimp only at hw
              refine g_calli (cw0 := fun M => rcells cI cZ ad M Y) (M := M) (As := [.int a1, .int r14]) (rest := []) C0 hW hl.1 (k_addElement (l := l) _ a1 r14 _ hw) (cwV 2 hts gX10_merge_X10_addElement rfl rfl rfl (by decide +kernel) ⟨Nat.le_of_ble_eq_true rfl, Nat.le_of_ble_eq_true rfl⟩) (r_recv C0 hW) (Nat.le_of_ble_eq_true rfl) dX10_merge_60 rfl ⟨Nat.le_of_ble_eq_true rfl, Nat.le_of_ble_eq_true rfl⟩ (fun r16 M15 H locs hw hW => ?_)
              try dsimp only at hw
              refine lv_goto (tgt := 71) hx hb dX10_merge_63 (by decide) ?_
              exact hret r16 M15 _ _ 0 0 (Nat.le_refl _) (Nat.le_refl _) hw rfl dX10_merge_71 _ _ _ hW hl
          · have hw := hw.2 c9
            try dsimp only at hw
            refine lv_bipush (v := (-4)) hx hb dX10_merge_39 (by decide) ?_
            exact hret (-4) M _ _ 0 0 (Nat.le_refl _) (Nat.le_refl _) hw rfl dX10_merge_41 _ _ _ hW hl
      · have hw := hw.2 c5
        try dsimp only at hw
        refine lv_iconst (v := (-1)) hx hb dX10_merge_19 (by decide) ?_
        exact hret (-1) M _ _ 0 0 (Nat.le_refl _) (Nat.le_refl _) hw rfl dX10_merge_20 _ _ _ hW hl
set_option maxHeartbeats 4000000 in
set_option maxRecDepth 100000 in
theorem k_merge {l : Launch} {D : va_G} {cI cZ : ClassId} {ty' : List (ClassId × FieldType)} {ad : Nat → Nat} {Y : va_W} {sz : Nat} (post : Int32 → RM → Prop) (a1 a2 : Int32) (M : RM) (hw : w_merge post a1 a2 M) : gMi l yX10_merge wsX10_merge rm_merge D ((cI, .int) :: (cZ, .boolean) :: ty') sz (fun M => rcells cI cZ ad M Y) M [.ref (ad 0), .int a1, .int a2] post 0 0 := by
  refine gMi_of (cc := cX10_merge) (nL := 3) (ty := .int) (own := RX10) (by decide) rfl rfl (Nat.le_of_ble_eq_true rfl) ?_
  intro p e s m args below meth c A Q C0 hret
  exact t_merge_0 C0 post hret a1 a2 M hw
abbrev rm_layResult : Room := { frames := 1, cells := 0, slots := 0, locals := 24 }
theorem in_layResult : ∀ w ∈ wsX100, w ∈ wsX10_layResult := fun w hw => List.mem_cons_of_mem _ (List.mem_append_right _ hw)
set_option maxHeartbeats 4000000 in
set_option maxRecDepth 100000 in
theorem t_layResult_39 (C0 : rX p s m args c cX10_layResult 3 RX10 wsX10_layResult D ((cI, .int) :: (cZ, .boolean) :: ty') A) (post : RM → Prop) (hret : ∀ (M' : RM) (pc : Nat) (lv : List (Nat × Value)) (k n : Nat), k ≤ 0 → n ≤ 0 → post M' → decode cX10_layResult pc = .ok (.return_, 1) → gG p l e rm_layResult s m args below meth c Q D A 3 k n (rcells cI cZ ad M' Y) pc lv [])  : ∀  (x1 x2 : Int32) (M : RM), w_layResult_39 post   x1 x2 M → gG p l e rm_layResult s m args below meth c Q D A 3 0 0 (rcells cI cZ ad M Y) 39 [(0, .ref (ad 0)), (1, .int x1), (2, .int x2)] [] := by
  obtain ⟨hx, hb, hml, ho, hts, hK, hA⟩ := id C0
  have hin := in_layResult
  intro x1 x2 M hw H locs ls hW hl
  rw [w_layResult_39] at hw
  refine lv_aload_n hx hb dX10_layResult_39 rfl (lv_at hl 0 rfl) ?_
  refine lv_iload_n hx hb dX10_layResult_40 rfl (lv_at hl 1 rfl) ?_
  refine lv_sipush (v := 301) hx hb dX10_layResult_41 (by decide) ?_
  refine g_calls (As := [.int x1, .int 301]) (rest := [.ref (ad 0)]) ⟨hx, hb, hml, ho, hts⟩ hl.1 (k_part (l := l) _ x1 301 hw) (va_cwS 2 hts gX10_layResult_X10_part rfl rfl rfl (by decide +kernel) ⟨Nat.le_of_ble_eq_true rfl, Nat.le_of_ble_eq_true rfl⟩) (Nat.le_of_ble_eq_true rfl) dX10_layResult_44 rfl ⟨Nat.le_of_ble_eq_true rfl, Nat.le_of_ble_eq_true rfl⟩ (fun r8 hw => ?_)
  try dsimp only at hw
  refine lv_iload_n hx hb dX10_layResult_47 rfl (lv_at hl 2 rfl) ?_
  refine g_callv (cw0 := fun M => rcells cI cZ ad M Y) (M := M) (As := [.int r8, .int x2]) (rest := []) C0 hW hl.1 (k_copyText (l := l) _ r8 x2 _ hw) (cwV 2 hts gX10_layResult_X10_copyText rfl rfl rfl (by decide +kernel) ⟨Nat.le_of_ble_eq_true rfl, Nat.le_of_ble_eq_true rfl⟩) (r_recv C0 hW) (Nat.le_of_ble_eq_true rfl) dX10_layResult_48 rfl ⟨Nat.le_of_ble_eq_true rfl, Nat.le_of_ble_eq_true rfl⟩ (fun M9 H locs hw hW => ?_)
  try dsimp only at hw
  refine lv_aload_n hx hb dX10_layResult_51 rfl (lv_at hl 0 rfl) ?_
  refine lv_iload_n hx hb dX10_layResult_52 rfl (lv_at hl 1 rfl) ?_
  refine lv_sipush (v := 1204) hx hb dX10_layResult_53 (by decide) ?_
  refine g_calls (As := [.int x1, .int 1204]) (rest := [.ref (ad 0)]) ⟨hx, hb, hml, ho, hts⟩ hl.1 (k_part (l := l) _ x1 1204 hw) (va_cwS 2 hts gX10_layResult_X10_part rfl rfl rfl (by decide +kernel) ⟨Nat.le_of_ble_eq_true rfl, Nat.le_of_ble_eq_true rfl⟩) (Nat.le_of_ble_eq_true rfl) dX10_layResult_56 rfl ⟨Nat.le_of_ble_eq_true rfl, Nat.le_of_ble_eq_true rfl⟩ (fun r10 hw => ?_)
  try dsimp only at hw
  refine lv_iload_n hx hb dX10_layResult_59 rfl (lv_at hl 2 rfl) ?_
  refine g_callv (cw0 := fun M => rcells cI cZ ad M Y) (M := M9) (As := [.int r10, .int x2]) (rest := []) C0 hW hl.1 (k_addText (l := l) _ r10 x2 _ hw) (cwV 2 hts gX10_layResult_X10_addText rfl rfl rfl (by decide +kernel) ⟨Nat.le_of_ble_eq_true rfl, Nat.le_of_ble_eq_true rfl⟩) (r_recv C0 hW) (Nat.le_of_ble_eq_true rfl) dX10_layResult_60 rfl ⟨Nat.le_of_ble_eq_true rfl, Nat.le_of_ble_eq_true rfl⟩ (fun M11 H locs hw hW => ?_)
  try dsimp only at hw
  refine lv_aload_n hx hb dX10_layResult_63 rfl (lv_at hl 0 rfl) ?_
  refine lv_iload_n hx hb dX10_layResult_64 rfl (lv_at hl 1 rfl) ?_
  refine lv_sipush (v := 602) hx hb dX10_layResult_65 (by decide) ?_
  refine g_calls (As := [.int x1, .int 602]) (rest := [.ref (ad 0)]) ⟨hx, hb, hml, ho, hts⟩ hl.1 (k_part (l := l) _ x1 602 hw) (va_cwS 2 hts gX10_layResult_X10_part rfl rfl rfl (by decide +kernel) ⟨Nat.le_of_ble_eq_true rfl, Nat.le_of_ble_eq_true rfl⟩) (Nat.le_of_ble_eq_true rfl) dX10_layResult_68 rfl ⟨Nat.le_of_ble_eq_true rfl, Nat.le_of_ble_eq_true rfl⟩ (fun r12 hw => ?_)
  try dsimp only at hw
  refine lv_iload_n hx hb dX10_layResult_71 rfl (lv_at hl 2 rfl) ?_
  refine g_callv (cw0 := fun M => rcells cI cZ ad M Y) (M := M11) (As := [.int r12, .int x2]) (rest := []) C0 hW hl.1 (k_addText (l := l) _ r12 x2 _ hw) (cwV 2 hts gX10_layResult_X10_addText rfl rfl rfl (by decide +kernel) ⟨Nat.le_of_ble_eq_true rfl, Nat.le_of_ble_eq_true rfl⟩) (r_recv C0 hW) (Nat.le_of_ble_eq_true rfl) dX10_layResult_72 rfl ⟨Nat.le_of_ble_eq_true rfl, Nat.le_of_ble_eq_true rfl⟩ (fun M13 H locs hw hW => ?_)
  try dsimp only at hw
  exact hret M13 _ _ 0 0 (Nat.le_refl _) (Nat.le_refl _) hw dX10_layResult_75 _ _ _ hW hl
set_option maxHeartbeats 4000000 in
set_option maxRecDepth 100000 in
theorem t_layResult_0 (C0 : rX p s m args c cX10_layResult 3 RX10 wsX10_layResult D ((cI, .int) :: (cZ, .boolean) :: ty') A) (post : RM → Prop) (hret : ∀ (M' : RM) (pc : Nat) (lv : List (Nat × Value)) (k n : Nat), k ≤ 0 → n ≤ 0 → post M' → decode cX10_layResult pc = .ok (.return_, 1) → gG p l e rm_layResult s m args below meth c Q D A 3 k n (rcells cI cZ ad M' Y) pc lv [])  : ∀  (a1 a2 : Int32) (M : RM), w_layResult post   a1 a2 M → gG p l e rm_layResult s m args below meth c Q D A 3 0 0 (rcells cI cZ ad M Y) 0 [(0, .ref (ad 0)), (1, .int a1), (2, .int a2)] [] := by
  obtain ⟨hx, hb, hml, ho, hts, hK, hA⟩ := id C0
  have hin := in_layResult
  intro a1 a2 M hw H locs ls hW hl
  rw [w_layResult] at hw
  refine lv_aload_n hx hb dX10_layResult_0 rfl (lv_at hl 0 rfl) ?_
  refine r_get C0 hin hW 11 (by decide) (v := .ref (ad 10)) rfl (List.mem_of_getElem? (i := 1) rfl) rfl dX10_layResult_1 ?_
  refine lv_iload_n hx hb dX10_layResult_4 rfl (lv_at hl 1 rfl) ?_
  obtain ⟨h1, hw⟩ := hw
  refine r_zald C0 hW 10 rfl rfl h1 dX10_layResult_5 ?_
  refine lv_if_ne (tgt := 39) hx hb dX10_layResult_6 (by decide) (fun c2 => ?_) (fun c2 => ?_)
  · have hw := hw.1 c2
    try dsimp only at hw
    exact t_layResult_39 C0 post hret  a1 a2 M hw _ _ _ hW (lv_sub hl [0, 1, 2] rfl)
  · have hw := hw.2 c2
    try dsimp only at hw
    refine lv_aload_n hx hb dX10_layResult_9 rfl (lv_at hl 0 rfl) ?_
    refine r_get C0 hin hW 0 (by decide) (v := .ref (ad 1)) rfl (List.mem_of_getElem? (i := 2) rfl) rfl dX10_layResult_10 ?_
    refine lv_iload_n hx hb dX10_layResult_13 rfl (lv_at hl 1 rfl) ?_
    refine lv_sipush (v := 903) hx hb dX10_layResult_14 (by decide) ?_
    refine g_calls (As := [.int a1, .int 903]) (rest := [.ref (ad 1)]) ⟨hx, hb, hml, ho, hts⟩ hl.1 (k_part (l := l) _ a1 903 hw) (va_cwS 2 hts gX10_layResult_X10_part rfl rfl rfl (by decide +kernel) ⟨Nat.le_of_ble_eq_true rfl, Nat.le_of_ble_eq_true rfl⟩) (Nat.le_of_ble_eq_true rfl) dX10_layResult_17 rfl ⟨Nat.le_of_ble_eq_true rfl, Nat.le_of_ble_eq_true rfl⟩ (fun r3 hw => ?_)
    try dsimp only at hw
    obtain ⟨h4, hw⟩ := hw
    refine r_iald C0 hW 1 rfl rfl h4 dX10_layResult_20 ?_
    refine lv_if_lt (tgt := 39) hx hb dX10_layResult_21 (by decide) (fun c5 => ?_) (fun c5 => ?_)
    · have hw := hw.1 c5
      try dsimp only at hw
      exact t_layResult_39 C0 post hret  a1 a2 M hw _ _ _ hW (lv_sub hl [0, 1, 2] rfl)
    · have hw := hw.2 c5
      try dsimp only at hw
      refine lv_aload_n hx hb dX10_layResult_24 rfl (lv_at hl 0 rfl) ?_
      refine lv_iload_n hx hb dX10_layResult_25 rfl (lv_at hl 1 rfl) ?_
      refine lv_sipush (v := 903) hx hb dX10_layResult_26 (by decide) ?_
      refine g_calls (As := [.int a1, .int 903]) (rest := [.ref (ad 0)]) ⟨hx, hb, hml, ho, hts⟩ hl.1 (k_part (l := l) _ a1 903 hw) (va_cwS 2 hts gX10_layResult_X10_part rfl rfl rfl (by decide +kernel) ⟨Nat.le_of_ble_eq_true rfl, Nat.le_of_ble_eq_true rfl⟩) (Nat.le_of_ble_eq_true rfl) dX10_layResult_29 rfl ⟨Nat.le_of_ble_eq_true rfl, Nat.le_of_ble_eq_true rfl⟩ (fun r6 hw => ?_)
      try dsimp only at hw
      refine lv_iload_n hx hb dX10_layResult_32 rfl (lv_at hl 2 rfl) ?_
      refine g_callv (cw0 := fun M => rcells cI cZ ad M Y) (M := M) (As := [.int r6, .int a2]) (rest := []) C0 hW hl.1 (k_copyText (l := l) _ r6 a2 _ hw) (cwV 2 hts gX10_layResult_X10_copyText rfl rfl rfl (by decide +kernel) ⟨Nat.le_of_ble_eq_true rfl, Nat.le_of_ble_eq_true rfl⟩) (r_recv C0 hW) (Nat.le_of_ble_eq_true rfl) dX10_layResult_33 rfl ⟨Nat.le_of_ble_eq_true rfl, Nat.le_of_ble_eq_true rfl⟩ (fun M7 H locs hw hW => ?_)
      try dsimp only at hw
      refine lv_goto (tgt := 75) hx hb dX10_layResult_36 (by decide) ?_
      exact hret M7 _ _ 0 0 (Nat.le_refl _) (Nat.le_refl _) hw dX10_layResult_75 _ _ _ hW hl
set_option maxHeartbeats 4000000 in
set_option maxRecDepth 100000 in
theorem k_layResult {l : Launch} {D : va_G} {cI cZ : ClassId} {ty' : List (ClassId × FieldType)} {ad : Nat → Nat} {Y : va_W} {sz : Nat} (post : RM → Prop) (a1 a2 : Int32) (M : RM) (hw : w_layResult post a1 a2 M) : gMv l yX10_layResult wsX10_layResult rm_layResult D ((cI, .int) :: (cZ, .boolean) :: ty') sz (fun M => rcells cI cZ ad M Y) M [.ref (ad 0), .int a1, .int a2] post 0 0 := by
  refine gMv_of (cc := cX10_layResult) (nL := 3) (own := RX10) (by decide) rfl rfl (Nat.le_of_ble_eq_true rfl) ?_
  intro p e s m args below meth c A Q C0 hret
  exact t_layResult_0 C0 post hret a1 a2 M hw
abbrev rm_joined : Room := { frames := 2, cells := 0, slots := 0, locals := 46 }
theorem in_joined : ∀ w ∈ wsX100, w ∈ wsX10_joined := fun w hw => List.mem_cons_of_mem _ (List.mem_append_right _ hw)
set_option maxHeartbeats 4000000 in
set_option maxRecDepth 100000 in
theorem t_joined_0 (C0 : rX p s m args c cX10_joined 3 RX10 wsX10_joined D ((cI, .int) :: (cZ, .boolean) :: ty') A) (post : Int32 → RM → Prop) (hret : ∀ (r : Int32) (M' : RM) (pc : Nat) (lv : List (Nat × Value)) (k n : Nat), k ≤ 0 → n ≤ 0 → post r M' → narrow .int (.int r) = .int r → decode cX10_joined pc = .ok (.ireturn, 1) → gG p l e rm_joined s m args below meth c Q D A 3 k n (rcells cI cZ ad M' Y) pc lv [.int r])  : ∀  (a1 a2 : Int32) (M : RM), w_joined post   a1 a2 M → gG p l e rm_joined s m args below meth c Q D A 3 0 0 (rcells cI cZ ad M Y) 0 [(0, .ref (ad 0)), (1, .int a1), (2, .int a2)] [] := by
  obtain ⟨hx, hb, hml, ho, hts, hK, hA⟩ := id C0
  have hin := in_joined
  intro a1 a2 M hw H locs ls hW hl
  rw [w_joined] at hw
  refine lv_iload_n hx hb dX10_joined_0 rfl (lv_at hl 1 rfl) ?_
  refine g_calls (As := [.int a1]) (rest := []) ⟨hx, hb, hml, ho, hts⟩ hl.1 (k_isJoiner (l := l) _ a1 hw) (va_cwS 1 hts gX10_joined_X10_isJoiner rfl rfl rfl (by decide +kernel) ⟨Nat.le_of_ble_eq_true rfl, Nat.le_of_ble_eq_true rfl⟩) (Nat.le_of_ble_eq_true rfl) dX10_joined_1 rfl ⟨Nat.le_of_ble_eq_true rfl, Nat.le_of_ble_eq_true rfl⟩ (fun r1 hw => ?_)
  try dsimp only at hw
  refine lv_if_eq (tgt := 14) hx hb dX10_joined_4 (by decide) (fun c2 => ?_) (fun c2 => ?_)
  · have hw := hw.1 c2
    try dsimp only at hw
    refine lv_iconst (v := (-1)) hx hb dX10_joined_14 (by decide) ?_
    exact hret (-1) M _ _ 0 0 (Nat.le_refl _) (Nat.le_refl _) hw rfl dX10_joined_15 _ _ _ hW hl
  · have hw := hw.2 c2
    try dsimp only at hw
    refine lv_iload_n hx hb dX10_joined_7 rfl (lv_at hl 2 rfl) ?_
    refine g_calls (As := [.int a2]) (rest := []) ⟨hx, hb, hml, ho, hts⟩ hl.1 (k_isSlot (l := l) _ a2 hw) (va_cwS 1 hts gX10_joined_X10_isSlot rfl rfl rfl (by decide +kernel) ⟨Nat.le_of_ble_eq_true rfl, Nat.le_of_ble_eq_true rfl⟩) (Nat.le_of_ble_eq_true rfl) dX10_joined_8 rfl ⟨Nat.le_of_ble_eq_true rfl, Nat.le_of_ble_eq_true rfl⟩ (fun r3 hw => ?_)
    try dsimp only at hw
    refine lv_if_ne (tgt := 16) hx hb dX10_joined_11 (by decide) (fun c4 => ?_) (fun c4 => ?_)
    · have hw := hw.1 c4
      try dsimp only at hw
      refine lv_aload_n hx hb dX10_joined_16 rfl (lv_at hl 0 rfl) ?_
      refine r_get C0 hin hW 10 (by decide) (v := .ref (ad 9)) rfl (List.mem_of_getElem? (i := 1) rfl) rfl dX10_joined_17 ?_
      refine lv_iload_n hx hb dX10_joined_20 rfl (lv_at hl 1 rfl) ?_
      obtain ⟨h5, hw⟩ := hw
      refine r_zald C0 hW 9 rfl rfl h5 dX10_joined_21 ?_
      refine lv_if_ne (tgt := 28) hx hb dX10_joined_22 (by decide) (fun c6 => ?_) (fun c6 => ?_)
      · have hw := hw.1 c6
        try dsimp only at hw
        refine lv_aload_n hx hb dX10_joined_28 rfl (lv_at hl 0 rfl) ?_
        refine lv_iload_n hx hb dX10_joined_29 rfl (lv_at hl 1 rfl) ?_
        refine lv_iload_n hx hb dX10_joined_30 rfl (lv_at hl 2 rfl) ?_
        refine g_calls (As := [.int a2]) (rest := [.int a1, .ref (ad 0)]) ⟨hx, hb, hml, ho, hts⟩ hl.1 (k_at (l := l) _ a2 hw) (va_cwS 1 hts gX10_joined_X10_at rfl rfl rfl (by decide +kernel) ⟨Nat.le_of_ble_eq_true rfl, Nat.le_of_ble_eq_true rfl⟩) (Nat.le_of_ble_eq_true rfl) dX10_joined_31 rfl ⟨Nat.le_of_ble_eq_true rfl, Nat.le_of_ble_eq_true rfl⟩ (fun r7 hw => ?_)
        try dsimp only at hw
        refine g_callv (cw0 := fun M => rcells cI cZ ad M Y) (M := M) (As := [.int a1, .int r7]) (rest := []) C0 hW hl.1 (k_layResult (l := l) _ a1 r7 _ hw) (cwV 2 hts gX10_joined_X10_layResult rfl rfl rfl (by decide +kernel) ⟨Nat.le_of_ble_eq_true rfl, Nat.le_of_ble_eq_true rfl⟩) (r_recv C0 hW) (Nat.le_of_ble_eq_true rfl) dX10_joined_34 rfl ⟨Nat.le_of_ble_eq_true rfl, Nat.le_of_ble_eq_true rfl⟩ (fun M8 H locs hw hW => ?_)
        try dsimp only at hw
        refine lv_aload_n hx hb dX10_joined_37 rfl (lv_at hl 0 rfl) ?_
        refine r_get C0 hin hW 0 (by decide) (v := .ref (ad 1)) rfl (List.mem_of_getElem? (i := 2) rfl) rfl dX10_joined_38 ?_
        refine lv_iload_n hx hb dX10_joined_41 rfl (lv_at hl 2 rfl) ?_
        refine g_calls (As := [.int a2]) (rest := [.ref (ad 1)]) ⟨hx, hb, hml, ho, hts⟩ hl.1 (k_at (l := l) _ a2 hw) (va_cwS 1 hts gX10_joined_X10_at rfl rfl rfl (by decide +kernel) ⟨Nat.le_of_ble_eq_true rfl, Nat.le_of_ble_eq_true rfl⟩) (Nat.le_of_ble_eq_true rfl) dX10_joined_42 rfl ⟨Nat.le_of_ble_eq_true rfl, Nat.le_of_ble_eq_true rfl⟩ (fun r9 hw => ?_)
        try dsimp only at hw
        obtain ⟨h10, hw⟩ := hw
        refine r_iald C0 hW 1 rfl rfl h10 dX10_joined_45 ?_
        exact hret (M8 1 r9.toNatClampNeg) M8 _ _ 0 0 (Nat.le_refl _) (Nat.le_refl _) hw rfl dX10_joined_46 _ _ _ hW hl
      · have hw := hw.2 c6
        try dsimp only at hw
        refine lv_bipush (v := (-4)) hx hb dX10_joined_25 (by decide) ?_
        exact hret (-4) M _ _ 0 0 (Nat.le_refl _) (Nat.le_refl _) hw rfl dX10_joined_27 _ _ _ hW hl
    · have hw := hw.2 c4
      try dsimp only at hw
      refine lv_iconst (v := (-1)) hx hb dX10_joined_14 (by decide) ?_
      exact hret (-1) M _ _ 0 0 (Nat.le_refl _) (Nat.le_refl _) hw rfl dX10_joined_15 _ _ _ hW hl
set_option maxHeartbeats 4000000 in
set_option maxRecDepth 100000 in
theorem k_joined {l : Launch} {D : va_G} {cI cZ : ClassId} {ty' : List (ClassId × FieldType)} {ad : Nat → Nat} {Y : va_W} {sz : Nat} (post : Int32 → RM → Prop) (a1 a2 : Int32) (M : RM) (hw : w_joined post a1 a2 M) : gMi l yX10_joined wsX10_joined rm_joined D ((cI, .int) :: (cZ, .boolean) :: ty') sz (fun M => rcells cI cZ ad M Y) M [.ref (ad 0), .int a1, .int a2] post 0 0 := by
  refine gMi_of (cc := cX10_joined) (nL := 3) (ty := .int) (own := RX10) (by decide) rfl rfl (Nat.le_of_ble_eq_true rfl) ?_
  intro p e s m args below meth c A Q C0 hret
  exact t_joined_0 C0 post hret a1 a2 M hw
abbrev rm_joinedLength : Room := { frames := 2, cells := 0, slots := 0, locals := 44 }
theorem in_joinedLength : ∀ w ∈ wsX100, w ∈ wsX10_joinedLength := fun w hw => List.mem_cons_of_mem _ (List.mem_append_right _ hw)
set_option maxHeartbeats 4000000 in
set_option maxRecDepth 100000 in
theorem t_joinedLength_0 (C0 : rX p s m args c cX10_joinedLength 2 RX10 wsX10_joinedLength D ((cI, .int) :: (cZ, .boolean) :: ty') A) (post : Int32 → RM → Prop) (hret : ∀ (r : Int32) (M' : RM) (pc : Nat) (lv : List (Nat × Value)) (k n : Nat), k ≤ 0 → n ≤ 0 → post r M' → narrow .int (.int r) = .int r → decode cX10_joinedLength pc = .ok (.ireturn, 1) → gG p l e rm_joinedLength s m args below meth c Q D A 2 k n (rcells cI cZ ad M' Y) pc lv [.int r])  : ∀  (a1 : Int32) (M : RM), w_joinedLength post   a1 M → gG p l e rm_joinedLength s m args below meth c Q D A 2 0 0 (rcells cI cZ ad M Y) 0 [(0, .ref (ad 0)), (1, .int a1)] [] := by
  obtain ⟨hx, hb, hml, ho, hts, hK, hA⟩ := id C0
  have hin := in_joinedLength
  intro a1 M hw H locs ls hW hl
  rw [w_joinedLength] at hw
  refine lv_iload_n hx hb dX10_joinedLength_0 rfl (lv_at hl 1 rfl) ?_
  refine g_calls (As := [.int a1]) (rest := []) ⟨hx, hb, hml, ho, hts⟩ hl.1 (k_isJoiner (l := l) _ a1 hw) (va_cwS 1 hts gX10_joinedLength_X10_isJoiner rfl rfl rfl (by decide +kernel) ⟨Nat.le_of_ble_eq_true rfl, Nat.le_of_ble_eq_true rfl⟩) (Nat.le_of_ble_eq_true rfl) dX10_joinedLength_1 rfl ⟨Nat.le_of_ble_eq_true rfl, Nat.le_of_ble_eq_true rfl⟩ (fun r1 hw => ?_)
  try dsimp only at hw
  refine lv_if_ne (tgt := 11) hx hb dX10_joinedLength_4 (by decide) (fun c2 => ?_) (fun c2 => ?_)
  · have hw := hw.1 c2
    try dsimp only at hw
    refine lv_aload_n hx hb dX10_joinedLength_11 rfl (lv_at hl 0 rfl) ?_
    refine r_get C0 hin hW 10 (by decide) (v := .ref (ad 9)) rfl (List.mem_of_getElem? (i := 1) rfl) rfl dX10_joinedLength_12 ?_
    refine lv_iload_n hx hb dX10_joinedLength_15 rfl (lv_at hl 1 rfl) ?_
    obtain ⟨h3, hw⟩ := hw
    refine r_zald C0 hW 9 rfl rfl h3 dX10_joinedLength_16 ?_
    refine lv_if_eq (tgt := 28) hx hb dX10_joinedLength_17 (by decide) (fun c4 => ?_) (fun c4 => ?_)
    · have hw := hw.1 c4
      try dsimp only at hw
      refine lv_bipush (v := (-4)) hx hb dX10_joinedLength_28 (by decide) ?_
      exact hret (-4) M _ _ 0 0 (Nat.le_refl _) (Nat.le_refl _) hw rfl dX10_joinedLength_30 _ _ _ hW hl
    · have hw := hw.2 c4
      try dsimp only at hw
      refine lv_aload_n hx hb dX10_joinedLength_20 rfl (lv_at hl 0 rfl) ?_
      refine lv_iload_n hx hb dX10_joinedLength_21 rfl (lv_at hl 1 rfl) ?_
      refine g_calli (cw0 := fun M => rcells cI cZ ad M Y) (M := M) (As := [.int a1]) (rest := []) C0 hW hl.1 (k_resultSize (l := l) _ a1 _ hw) (cwV 1 hts gX10_joinedLength_X10_resultSize rfl rfl rfl (by decide +kernel) ⟨Nat.le_of_ble_eq_true rfl, Nat.le_of_ble_eq_true rfl⟩) (r_recv C0 hW) (Nat.le_of_ble_eq_true rfl) dX10_joinedLength_22 rfl ⟨Nat.le_of_ble_eq_true rfl, Nat.le_of_ble_eq_true rfl⟩ (fun r6 M5 H locs hw hW => ?_)
      try dsimp only at hw
      refine lv_goto (tgt := 30) hx hb dX10_joinedLength_25 (by decide) ?_
      exact hret r6 M5 _ _ 0 0 (Nat.le_refl _) (Nat.le_refl _) hw rfl dX10_joinedLength_30 _ _ _ hW hl
  · have hw := hw.2 c2
    try dsimp only at hw
    refine lv_iconst (v := (-1)) hx hb dX10_joinedLength_7 (by decide) ?_
    refine lv_goto (tgt := 30) hx hb dX10_joinedLength_8 (by decide) ?_
    exact hret (-1) M _ _ 0 0 (Nat.le_refl _) (Nat.le_refl _) hw rfl dX10_joinedLength_30 _ _ _ hW hl
set_option maxHeartbeats 4000000 in
set_option maxRecDepth 100000 in
theorem k_joinedLength {l : Launch} {D : va_G} {cI cZ : ClassId} {ty' : List (ClassId × FieldType)} {ad : Nat → Nat} {Y : va_W} {sz : Nat} (post : Int32 → RM → Prop) (a1 : Int32) (M : RM) (hw : w_joinedLength post a1 M) : gMi l yX10_joinedLength wsX10_joinedLength rm_joinedLength D ((cI, .int) :: (cZ, .boolean) :: ty') sz (fun M => rcells cI cZ ad M Y) M [.ref (ad 0), .int a1] post 0 0 := by
  refine gMi_of (cc := cX10_joinedLength) (nL := 2) (ty := .int) (own := RX10) (by decide) rfl rfl (Nat.le_of_ble_eq_true rfl) ?_
  intro p e s m args below meth c A Q C0 hret
  exact t_joinedLength_0 C0 post hret a1 M hw
abbrev rm_setJoined : Room := { frames := 4, cells := 0, slots := 0, locals := 96 }
theorem in_setJoined : ∀ w ∈ wsX100, w ∈ wsX10_setJoined := fun w hw => List.mem_cons_of_mem _ (List.mem_append_right _ hw)
set_option maxHeartbeats 4000000 in
set_option maxRecDepth 100000 in
theorem t_setJoined_0 (C0 : rX p s m args c cX10_setJoined 4 RX10 wsX10_setJoined D ((cI, .int) :: (cZ, .boolean) :: ty') A) (post : Int32 → RM → Prop) (hret : ∀ (r : Int32) (M' : RM) (pc : Nat) (lv : List (Nat × Value)) (k n : Nat), k ≤ 0 → n ≤ 0 → post r M' → narrow .int (.int r) = .int r → decode cX10_setJoined pc = .ok (.ireturn, 1) → gG p l e rm_setJoined s m args below meth c Q D A 4 k n (rcells cI cZ ad M' Y) pc lv [.int r])  : ∀  (a1 a2 a3 : Int32) (M : RM), w_setJoined post   a1 a2 a3 M → gG p l e rm_setJoined s m args below meth c Q D A 4 0 0 (rcells cI cZ ad M Y) 0 [(0, .ref (ad 0)), (1, .int a1), (2, .int a2), (3, .int a3)] [] := by
  obtain ⟨hx, hb, hml, ho, hts, hK, hA⟩ := id C0
  have hin := in_setJoined
  intro a1 a2 a3 M hw H locs ls hW hl
  rw [w_setJoined] at hw
  refine lv_iload_n hx hb dX10_setJoined_0 rfl (lv_at hl 1 rfl) ?_
  refine g_calls (As := [.int a1]) (rest := []) ⟨hx, hb, hml, ho, hts⟩ hl.1 (k_isLayer (l := l) _ a1 hw) (va_cwS 1 hts gX10_setJoined_X10_isLayer rfl rfl rfl (by decide +kernel) ⟨Nat.le_of_ble_eq_true rfl, Nat.le_of_ble_eq_true rfl⟩) (Nat.le_of_ble_eq_true rfl) dX10_setJoined_1 rfl ⟨Nat.le_of_ble_eq_true rfl, Nat.le_of_ble_eq_true rfl⟩ (fun r1 hw => ?_)
  try dsimp only at hw
  refine lv_if_eq (tgt := 21) hx hb dX10_setJoined_4 (by decide) (fun c2 => ?_) (fun c2 => ?_)
  · have hw := hw.1 c2
    try dsimp only at hw
    refine lv_iconst (v := (-1)) hx hb dX10_setJoined_21 (by decide) ?_
    exact hret (-1) M _ _ 0 0 (Nat.le_refl _) (Nat.le_refl _) hw rfl dX10_setJoined_22 _ _ _ hW hl
  · have hw := hw.2 c2
    try dsimp only at hw
    refine lv_iload_n hx hb dX10_setJoined_7 rfl (lv_at hl 2 rfl) ?_
    refine g_calls (As := [.int a2]) (rest := []) ⟨hx, hb, hml, ho, hts⟩ hl.1 (k_isSlot (l := l) _ a2 hw) (va_cwS 1 hts gX10_setJoined_X10_isSlot rfl rfl rfl (by decide +kernel) ⟨Nat.le_of_ble_eq_true rfl, Nat.le_of_ble_eq_true rfl⟩) (Nat.le_of_ble_eq_true rfl) dX10_setJoined_8 rfl ⟨Nat.le_of_ble_eq_true rfl, Nat.le_of_ble_eq_true rfl⟩ (fun r3 hw => ?_)
    try dsimp only at hw
    refine lv_if_eq (tgt := 21) hx hb dX10_setJoined_11 (by decide) (fun c4 => ?_) (fun c4 => ?_)
    · have hw := hw.1 c4
      try dsimp only at hw
      refine lv_iconst (v := (-1)) hx hb dX10_setJoined_21 (by decide) ?_
      exact hret (-1) M _ _ 0 0 (Nat.le_refl _) (Nat.le_refl _) hw rfl dX10_setJoined_22 _ _ _ hW hl
    · have hw := hw.2 c4
      try dsimp only at hw
      refine lv_iload_n hx hb dX10_setJoined_14 rfl (lv_at hl 3 rfl) ?_
      refine g_calls (As := [.int a3]) (rest := []) ⟨hx, hb, hml, ho, hts⟩ hl.1 (k_isJoiner (l := l) _ a3 hw) (va_cwS 1 hts gX10_setJoined_X10_isJoiner rfl rfl rfl (by decide +kernel) ⟨Nat.le_of_ble_eq_true rfl, Nat.le_of_ble_eq_true rfl⟩) (Nat.le_of_ble_eq_true rfl) dX10_setJoined_15 rfl ⟨Nat.le_of_ble_eq_true rfl, Nat.le_of_ble_eq_true rfl⟩ (fun r5 hw => ?_)
      try dsimp only at hw
      refine lv_if_ne (tgt := 23) hx hb dX10_setJoined_18 (by decide) (fun c6 => ?_) (fun c6 => ?_)
      · have hw := hw.1 c6
        try dsimp only at hw
        refine lv_aload_n hx hb dX10_setJoined_23 rfl (lv_at hl 0 rfl) ?_
        refine r_get C0 hin hW 10 (by decide) (v := .ref (ad 9)) rfl (List.mem_of_getElem? (i := 1) rfl) rfl dX10_setJoined_24 ?_
        refine lv_iload_n hx hb dX10_setJoined_27 rfl (lv_at hl 3 rfl) ?_
        obtain ⟨h7, hw⟩ := hw
        refine r_zald C0 hW 9 rfl rfl h7 dX10_setJoined_28 ?_
        refine lv_if_ne (tgt := 35) hx hb dX10_setJoined_29 (by decide) (fun c8 => ?_) (fun c8 => ?_)
        · have hw := hw.1 c8
          try dsimp only at hw
          refine lv_aload_n hx hb dX10_setJoined_35 rfl (lv_at hl 0 rfl) ?_
          refine lv_iload_n hx hb dX10_setJoined_36 rfl (lv_at hl 2 rfl) ?_
          refine g_calli (cw0 := fun M => rcells cI cZ ad M Y) (M := M) (As := [.int a2]) (rest := []) C0 hW hl.1 (k_hasNothing (l := l) _ a2 _ hw) (cwV 1 hts gX10_setJoined_X10_hasNothing rfl rfl rfl (by decide +kernel) ⟨Nat.le_of_ble_eq_true rfl, Nat.le_of_ble_eq_true rfl⟩) (r_recv C0 hW) (Nat.le_of_ble_eq_true rfl) dX10_setJoined_37 rfl ⟨Nat.le_of_ble_eq_true rfl, Nat.le_of_ble_eq_true rfl⟩ (fun r10 M9 H locs hw hW => ?_)
          try dsimp only at hw
          refine lv_if_eq (tgt := 48) hx hb dX10_setJoined_40 (by decide) (fun c11 => ?_) (fun c11 => ?_)
          · have hw := hw.1 c11
            try dsimp only at hw
            refine lv_aload_n hx hb dX10_setJoined_48 rfl (lv_at hl 0 rfl) ?_
            refine lv_iload_n hx hb dX10_setJoined_49 rfl (lv_at hl 3 rfl) ?_
            refine lv_sipush (v := 2107) hx hb dX10_setJoined_50 (by decide) ?_
            refine g_callv (cw0 := fun M => rcells cI cZ ad M Y) (M := M9) (As := [.int a3, .int 2107]) (rest := []) C0 hW hl.1 (k_layResult (l := l) _ a3 2107 _ hw) (cwV 2 hts gX10_setJoined_X10_layResult rfl rfl rfl (by decide +kernel) ⟨Nat.le_of_ble_eq_true rfl, Nat.le_of_ble_eq_true rfl⟩) (r_recv C0 hW) (Nat.le_of_ble_eq_true rfl) dX10_setJoined_53 rfl ⟨Nat.le_of_ble_eq_true rfl, Nat.le_of_ble_eq_true rfl⟩ (fun M12 H locs hw hW => ?_)
            try dsimp only at hw
            refine lv_aload_n hx hb dX10_setJoined_56 rfl (lv_at hl 0 rfl) ?_
            refine lv_iload_n hx hb dX10_setJoined_57 rfl (lv_at hl 1 rfl) ?_
            refine lv_iload_n hx hb dX10_setJoined_58 rfl (lv_at hl 2 rfl) ?_
            refine g_calls (As := [.int a2]) (rest := [.int a1, .ref (ad 0)]) ⟨hx, hb, hml, ho, hts⟩ hl.1 (k_at (l := l) _ a2 hw) (va_cwS 1 hts gX10_setJoined_X10_at rfl rfl rfl (by decide +kernel) ⟨Nat.le_of_ble_eq_true rfl, Nat.le_of_ble_eq_true rfl⟩) (Nat.le_of_ble_eq_true rfl) dX10_setJoined_59 rfl ⟨Nat.le_of_ble_eq_true rfl, Nat.le_of_ble_eq_true rfl⟩ (fun r13 hw => ?_)
            try dsimp only at hw
            refine lv_sipush (v := 2107) hx hb dX10_setJoined_62 (by decide) ?_
            refine g_calli (cw0 := fun M => rcells cI cZ ad M Y) (M := M12) (As := [.int a1, .int r13, .int 2107]) (rest := []) C0 hW hl.1 (k_put (l := l) _ a1 r13 2107 _ hw) (cwV 3 hts gX10_setJoined_X10_put rfl rfl rfl (by decide +kernel) ⟨Nat.le_of_ble_eq_true rfl, Nat.le_of_ble_eq_true rfl⟩) (r_recv C0 hW) (Nat.le_of_ble_eq_true rfl) dX10_setJoined_65 rfl ⟨Nat.le_of_ble_eq_true rfl, Nat.le_of_ble_eq_true rfl⟩ (fun r15 M14 H locs hw hW => ?_)
            try dsimp only at hw
            refine lv_if_eq (tgt := 80) hx hb dX10_setJoined_68 (by decide) (fun c16 => ?_) (fun c16 => ?_)
            · have hw := hw.1 c16
              try dsimp only at hw
              refine lv_bipush (v := (-3)) hx hb dX10_setJoined_80 (by decide) ?_
              exact hret (-3) M14 _ _ 0 0 (Nat.le_refl _) (Nat.le_refl _) hw rfl dX10_setJoined_82 _ _ _ hW hl
            · have hw := hw.2 c16
              try dsimp only at hw
              refine lv_aload_n hx hb dX10_setJoined_71 rfl (lv_at hl 0 rfl) ?_
              refine r_get C0 hin hW 1 (by decide) (v := .ref (ad 2)) rfl (List.mem_of_getElem? (i := 2) rfl) rfl dX10_setJoined_72 ?_
              refine lv_iload_n hx hb dX10_setJoined_75 rfl (lv_at hl 1 rfl) ?_
              obtain ⟨h17, hw⟩ := hw
              refine r_iald C0 hW 2 rfl rfl h17 dX10_setJoined_76 ?_
              refine lv_goto (tgt := 82) hx hb dX10_setJoined_77 (by decide) ?_
              exact hret (M14 2 a1.toNatClampNeg) M14 _ _ 0 0 (Nat.le_refl _) (Nat.le_refl _) hw rfl dX10_setJoined_82 _ _ _ hW hl
          · have hw := hw.2 c11
            try dsimp only at hw
            refine lv_aload_n hx hb dX10_setJoined_43 rfl (lv_at hl 0 rfl) ?_
            refine g_calli (cw0 := fun M => rcells cI cZ ad M Y) (M := M9) (As := []) (rest := []) C0 hW hl.1 (k_refusedNull (l := l) _  _ hw) (cwV 0 hts gX10_setJoined_X10_refusedNull rfl rfl rfl (by decide +kernel) ⟨Nat.le_of_ble_eq_true rfl, Nat.le_of_ble_eq_true rfl⟩) (r_recv C0 hW) (Nat.le_of_ble_eq_true rfl) dX10_setJoined_44 rfl ⟨Nat.le_of_ble_eq_true rfl, Nat.le_of_ble_eq_true rfl⟩ (fun r19 M18 H locs hw hW => ?_)
            try dsimp only at hw
            exact hret r19 M18 _ _ 0 0 (Nat.le_refl _) (Nat.le_refl _) hw rfl dX10_setJoined_47 _ _ _ hW hl
        · have hw := hw.2 c8
          try dsimp only at hw
          refine lv_bipush (v := (-4)) hx hb dX10_setJoined_32 (by decide) ?_
          exact hret (-4) M _ _ 0 0 (Nat.le_refl _) (Nat.le_refl _) hw rfl dX10_setJoined_34 _ _ _ hW hl
      · have hw := hw.2 c6
        try dsimp only at hw
        refine lv_iconst (v := (-1)) hx hb dX10_setJoined_21 (by decide) ?_
        exact hret (-1) M _ _ 0 0 (Nat.le_refl _) (Nat.le_refl _) hw rfl dX10_setJoined_22 _ _ _ hW hl
set_option maxHeartbeats 4000000 in
set_option maxRecDepth 100000 in
theorem k_setJoined {l : Launch} {D : va_G} {cI cZ : ClassId} {ty' : List (ClassId × FieldType)} {ad : Nat → Nat} {Y : va_W} {sz : Nat} (post : Int32 → RM → Prop) (a1 a2 a3 : Int32) (M : RM) (hw : w_setJoined post a1 a2 a3 M) : gMi l yX10_setJoined wsX10_setJoined rm_setJoined D ((cI, .int) :: (cZ, .boolean) :: ty') sz (fun M => rcells cI cZ ad M Y) M [.ref (ad 0), .int a1, .int a2, .int a3] post 0 0 := by
  refine gMi_of (cc := cX10_setJoined) (nL := 4) (ty := .int) (own := RX10) (by decide) rfl rfl (Nat.le_of_ble_eq_true rfl) ?_
  intro p e s m args below meth c A Q C0 hret
  exact t_setJoined_0 C0 post hret a1 a2 a3 M hw
abbrev rm_all : Room := { frames := 0, cells := 0, slots := 0, locals := 0 }
theorem in_all : ∀ w ∈ wsX100, w ∈ wsX10_all := fun w hw => List.mem_cons_of_mem _ (List.mem_append_right _ hw)
set_option maxHeartbeats 4000000 in
set_option maxRecDepth 100000 in
theorem t_all_0 (C0 : rX p s m args c cX10_all 1 RX10 wsX10_all D ((cI, .int) :: (cZ, .boolean) :: ty') A) (post : Int32 → RM → Prop) (hret : ∀ (r : Int32) (M' : RM) (pc : Nat) (lv : List (Nat × Value)) (k n : Nat), k ≤ 0 → n ≤ 0 → post r M' → narrow .int (.int r) = .int r → decode cX10_all pc = .ok (.ireturn, 1) → gG p l e rm_all s m args below meth c Q D A 1 k n (rcells cI cZ ad M' Y) pc lv [.int r])  : ∀  (M : RM), w_all post    M → gG p l e rm_all s m args below meth c Q D A 1 0 0 (rcells cI cZ ad M Y) 0 [(0, .ref (ad 0))] [] := by
  obtain ⟨hx, hb, hml, ho, hts, hK, hA⟩ := id C0
  have hin := in_all
  intro  M hw H locs ls hW hl
  rw [w_all] at hw
  refine lv_aload_n hx hb dX10_all_0 rfl (lv_at hl 0 rfl) ?_
  refine r_get C0 hin hW 1 (by decide) (v := .ref (ad 2)) rfl (List.mem_of_getElem? (i := 1) rfl) rfl dX10_all_1 ?_
  refine lv_iconst (v := 0) hx hb dX10_all_4 (by decide) ?_
  obtain ⟨h1, hw⟩ := hw
  refine r_iald C0 hW 2 rfl rfl h1 dX10_all_5 ?_
  refine lv_aload_n hx hb dX10_all_6 rfl (lv_at hl 0 rfl) ?_
  refine r_get C0 hin hW 1 (by decide) (v := .ref (ad 2)) rfl (List.mem_of_getElem? (i := 1) rfl) rfl dX10_all_7 ?_
  refine lv_iconst (v := 1) hx hb dX10_all_10 (by decide) ?_
  obtain ⟨h2, hw⟩ := hw
  refine r_iald C0 hW 2 rfl rfl h2 dX10_all_11 ?_
  refine lv_iadd hx hb dX10_all_12 ?_
  refine lv_aload_n hx hb dX10_all_13 rfl (lv_at hl 0 rfl) ?_
  refine r_get C0 hin hW 1 (by decide) (v := .ref (ad 2)) rfl (List.mem_of_getElem? (i := 1) rfl) rfl dX10_all_14 ?_
  refine lv_iconst (v := 2) hx hb dX10_all_17 (by decide) ?_
  obtain ⟨h3, hw⟩ := hw
  refine r_iald C0 hW 2 rfl rfl h3 dX10_all_18 ?_
  refine lv_iadd hx hb dX10_all_19 ?_
  refine lv_aload_n hx hb dX10_all_20 rfl (lv_at hl 0 rfl) ?_
  refine r_get C0 hin hW 1 (by decide) (v := .ref (ad 2)) rfl (List.mem_of_getElem? (i := 1) rfl) rfl dX10_all_21 ?_
  refine lv_iconst (v := 3) hx hb dX10_all_24 (by decide) ?_
  obtain ⟨h4, hw⟩ := hw
  refine r_iald C0 hW 2 rfl rfl h4 dX10_all_25 ?_
  refine lv_iadd hx hb dX10_all_26 ?_
  exact hret ((((M 2 (0 : Int32).toNatClampNeg) + (M 2 (1 : Int32).toNatClampNeg)) + (M 2 (2 : Int32).toNatClampNeg)) + (M 2 (3 : Int32).toNatClampNeg)) M _ _ 0 0 (Nat.le_refl _) (Nat.le_refl _) hw rfl dX10_all_27 _ _ _ hW hl
set_option maxHeartbeats 4000000 in
set_option maxRecDepth 100000 in
theorem k_all {l : Launch} {D : va_G} {cI cZ : ClassId} {ty' : List (ClassId × FieldType)} {ad : Nat → Nat} {Y : va_W} {sz : Nat} (post : Int32 → RM → Prop) (M : RM) (hw : w_all post  M) : gMi l yX10_all wsX10_all rm_all D ((cI, .int) :: (cZ, .boolean) :: ty') sz (fun M => rcells cI cZ ad M Y) M [.ref (ad 0)] post 0 0 := by
  refine gMi_of (cc := cX10_all) (nL := 1) (ty := .int) (own := RX10) (by decide) rfl rfl (Nat.le_of_ble_eq_true rfl) ?_
  intro p e s m args below meth c A Q C0 hret
  exact t_all_0 C0 post hret  M hw
abbrev rm_keep : Room := { frames := 3, cells := 0, slots := 0, locals := 65 }
theorem in_keep : ∀ w ∈ wsX100, w ∈ wsX10_keep := fun w hw => List.mem_cons_of_mem _ (List.mem_append_right _ hw)
set_option maxHeartbeats 4000000 in
set_option maxRecDepth 100000 in
theorem t_keep_13 (C0 : rX p s m args c cX10_keep 3 RX10 wsX10_keep D ((cI, .int) :: (cZ, .boolean) :: ty') A) (post : Int32 → RM → Prop) (hret : ∀ (r : Int32) (M' : RM) (pc : Nat) (lv : List (Nat × Value)) (k n : Nat), k ≤ 0 → n ≤ 0 → post r M' → narrow .int (.int r) = .int r → decode cX10_keep pc = .ok (.ireturn, 1) → gG p l e rm_keep s m args below meth c Q D A 3 k n (rcells cI cZ ad M' Y) pc lv [.int r])  : ∀ (nf : Nat) (x1 x2 : Int32) (M : RM), w_keep_13 post  nf x1 x2 M → gG p l e rm_keep s m args below meth c Q D A 3 0 0 (rcells cI cZ ad M Y) 13 [(0, .ref (ad 0)), (1, .int x1), (2, .int x2)] [] := by
  obtain ⟨hx, hb, hml, ho, hts, hK, hA⟩ := id C0
  have hin := in_keep
  intro nf
  induction nf with
  | zero => intro x1 x2 M hw; exact hw.elim
  | succ nf ih =>
    intro x1 x2 M hw H locs ls hW hl
    rw [w_keep_13] at hw
    refine lv_iload_n hx hb dX10_keep_13 rfl (lv_at hl 2 rfl) ?_
    refine lv_iconst (v := 4) hx hb dX10_keep_14 (by decide) ?_
    refine lv_icmp_ge (tgt := 36) hx hb dX10_keep_15 (by decide) (fun c4 => ?_) (fun c4 => ?_)
    · have hw := hw.1 c4
      try dsimp only at hw
      refine lv_aload_n hx hb dX10_keep_36 rfl (lv_at hl 0 rfl) ?_
      refine r_get C0 hin hW 2 (by decide) (v := .ref (ad 3)) rfl (List.mem_of_getElem? (i := 1) rfl) rfl dX10_keep_37 ?_
      refine lv_iload_n hx hb dX10_keep_40 rfl (lv_at hl 1 rfl) ?_
      refine lv_iconst (v := 1) hx hb dX10_keep_41 (by decide) ?_
      obtain ⟨h5, hw⟩ := hw
      refine r_zast C0 hW 3 rfl rfl h5 rfl dX10_keep_42 (fun M6 H locs eM6 hW => ?_)
      have hw := hw M6 eM6
      refine lv_aload_n hx hb dX10_keep_43 rfl (lv_at hl 0 rfl) ?_
      refine g_calli (cw0 := fun M => rcells cI cZ ad M Y) (M := M6) (As := []) (rest := []) C0 hW hl.1 (k_all (l := l) _  _ hw) (cwV 0 hts gX10_keep_X10_all rfl rfl rfl (by decide +kernel) ⟨Nat.le_of_ble_eq_true rfl, Nat.le_of_ble_eq_true rfl⟩) (r_recv C0 hW) (Nat.le_of_ble_eq_true rfl) dX10_keep_44 rfl ⟨Nat.le_of_ble_eq_true rfl, Nat.le_of_ble_eq_true rfl⟩ (fun r8 M7 H locs hw hW => ?_)
      try dsimp only at hw
      exact hret r8 M7 _ _ 0 0 (Nat.le_refl _) (Nat.le_refl _) hw rfl dX10_keep_47 _ _ _ hW hl
    · have hw := hw.2 c4
      try dsimp only at hw
      refine lv_aload_n hx hb dX10_keep_18 rfl (lv_at hl 0 rfl) ?_
      refine lv_iload_n hx hb dX10_keep_19 rfl (lv_at hl 2 rfl) ?_
      refine lv_iconst (v := 4) hx hb dX10_keep_20 (by decide) ?_
      refine lv_iload_n hx hb dX10_keep_21 rfl (lv_at hl 1 rfl) ?_
      refine lv_iconst (v := 1) hx hb dX10_keep_22 (by decide) ?_
      refine lv_iadd hx hb dX10_keep_23 ?_
      refine lv_imul hx hb dX10_keep_24 ?_
      refine lv_iload_n hx hb dX10_keep_25 rfl (lv_at hl 2 rfl) ?_
      refine lv_iadd hx hb dX10_keep_26 ?_
      refine g_callv (cw0 := fun M => rcells cI cZ ad M Y) (M := M) (As := [.int x2, .int ((4 * (x1 + 1)) + x2)]) (rest := []) C0 hW hl.1 (k_copyLayer (l := l) _ x2 ((4 * (x1 + 1)) + x2) _ hw) (cwV 2 hts gX10_keep_X10_copyLayer rfl rfl rfl (by decide +kernel) ⟨Nat.le_of_ble_eq_true rfl, Nat.le_of_ble_eq_true rfl⟩) (r_recv C0 hW) (Nat.le_of_ble_eq_true rfl) dX10_keep_27 rfl ⟨Nat.le_of_ble_eq_true rfl, Nat.le_of_ble_eq_true rfl⟩ (fun M9 H locs hw hW => ?_)
      try dsimp only at hw
      obtain ⟨v10, ev10⟩ : ∃ y : Int32, y = x2 + 1 := ⟨_, rfl⟩
      have hw := hw v10 ev10
      refine lv_iinc (v := v10) (lv' := [(2, .int v10), (0, .ref (ad 0)), (1, .int x1)]) hx hb dX10_keep_30 hl (k := 2) rfl (by rw [ev10]; rfl) (by decide) rfl (fun ls hl => ?_)
      refine lv_goto (tgt := 13) hx hb dX10_keep_33 (by decide) ?_
      exact ih x1 v10 M9 hw _ _ _ hW (lv_sub hl [1, 2, 0] rfl)
set_option maxHeartbeats 4000000 in
set_option maxRecDepth 100000 in
theorem t_keep_0 (C0 : rX p s m args c cX10_keep 3 RX10 wsX10_keep D ((cI, .int) :: (cZ, .boolean) :: ty') A) (post : Int32 → RM → Prop) (hret : ∀ (r : Int32) (M' : RM) (pc : Nat) (lv : List (Nat × Value)) (k n : Nat), k ≤ 0 → n ≤ 0 → post r M' → narrow .int (.int r) = .int r → decode cX10_keep pc = .ok (.ireturn, 1) → gG p l e rm_keep s m args below meth c Q D A 3 k n (rcells cI cZ ad M' Y) pc lv [.int r])  : ∀  (a1 : Int32) (M : RM), w_keep post   a1 M → gG p l e rm_keep s m args below meth c Q D A 3 0 0 (rcells cI cZ ad M Y) 0 [(0, .ref (ad 0)), (1, .int a1)] [] := by
  obtain ⟨hx, hb, hml, ho, hts, hK, hA⟩ := id C0
  have hin := in_keep
  intro a1 M hw H locs ls hW hl
  rw [w_keep] at hw
  refine lv_iload_n hx hb dX10_keep_0 rfl (lv_at hl 1 rfl) ?_
  refine lv_if_lt (tgt := 9) hx hb dX10_keep_1 (by decide) (fun c1 => ?_) (fun c1 => ?_)
  · have hw := hw.1 c1
    try dsimp only at hw
    refine lv_iconst (v := (-1)) hx hb dX10_keep_9 (by decide) ?_
    exact hret (-1) M _ _ 0 0 (Nat.le_refl _) (Nat.le_refl _) hw rfl dX10_keep_10 _ _ _ hW hl
  · have hw := hw.2 c1
    try dsimp only at hw
    refine lv_iload_n hx hb dX10_keep_4 rfl (lv_at hl 1 rfl) ?_
    refine lv_iconst (v := 1) hx hb dX10_keep_5 (by decide) ?_
    refine lv_icmp_le (tgt := 11) hx hb dX10_keep_6 (by decide) (fun c2 => ?_) (fun c2 => ?_)
    · have hw := hw.1 c2
      try dsimp only at hw
      refine lv_iconst (v := 0) hx hb dX10_keep_11 (by decide) ?_
      refine lv_istore_n (lv' := [(2, .int 0), (0, .ref (ad 0)), (1, .int a1)]) hx hb dX10_keep_12 rfl hl (by decide) rfl (fun ls hl => ?_)
      obtain ⟨n3, hw⟩ := hw
      exact t_keep_13 C0 post hret  n3 a1 0 M hw _ _ _ hW (lv_sub hl [1, 2, 0] rfl)
    · have hw := hw.2 c2
      try dsimp only at hw
      refine lv_iconst (v := (-1)) hx hb dX10_keep_9 (by decide) ?_
      exact hret (-1) M _ _ 0 0 (Nat.le_refl _) (Nat.le_refl _) hw rfl dX10_keep_10 _ _ _ hW hl
set_option maxHeartbeats 4000000 in
set_option maxRecDepth 100000 in
theorem k_keep {l : Launch} {D : va_G} {cI cZ : ClassId} {ty' : List (ClassId × FieldType)} {ad : Nat → Nat} {Y : va_W} {sz : Nat} (post : Int32 → RM → Prop) (a1 : Int32) (M : RM) (hw : w_keep post a1 M) : gMi l yX10_keep wsX10_keep rm_keep D ((cI, .int) :: (cZ, .boolean) :: ty') sz (fun M => rcells cI cZ ad M Y) M [.ref (ad 0), .int a1] post 0 0 := by
  refine gMi_of (cc := cX10_keep) (nL := 3) (ty := .int) (own := RX10) (by decide) rfl rfl (Nat.le_of_ble_eq_true rfl) ?_
  intro p e s m args below meth c A Q C0 hret
  exact t_keep_0 C0 post hret a1 M hw
abbrev rm_restore : Room := { frames := 3, cells := 0, slots := 0, locals := 65 }
theorem in_restore : ∀ w ∈ wsX100, w ∈ wsX10_restore := fun w hw => List.mem_cons_of_mem _ (List.mem_append_right _ hw)
set_option maxHeartbeats 4000000 in
set_option maxRecDepth 100000 in
theorem t_restore_25 (C0 : rX p s m args c cX10_restore 3 RX10 wsX10_restore D ((cI, .int) :: (cZ, .boolean) :: ty') A) (post : Int32 → RM → Prop) (hret : ∀ (r : Int32) (M' : RM) (pc : Nat) (lv : List (Nat × Value)) (k n : Nat), k ≤ 0 → n ≤ 0 → post r M' → narrow .int (.int r) = .int r → decode cX10_restore pc = .ok (.ireturn, 1) → gG p l e rm_restore s m args below meth c Q D A 3 k n (rcells cI cZ ad M' Y) pc lv [.int r])  : ∀ (nf : Nat) (x1 x2 : Int32) (M : RM), w_restore_25 post  nf x1 x2 M → gG p l e rm_restore s m args below meth c Q D A 3 0 0 (rcells cI cZ ad M Y) 25 [(0, .ref (ad 0)), (1, .int x1), (2, .int x2)] [] := by
  obtain ⟨hx, hb, hml, ho, hts, hK, hA⟩ := id C0
  have hin := in_restore
  intro nf
  induction nf with
  | zero => intro x1 x2 M hw; exact hw.elim
  | succ nf ih =>
    intro x1 x2 M hw H locs ls hW hl
    rw [w_restore_25] at hw
    refine lv_iload_n hx hb dX10_restore_25 rfl (lv_at hl 2 rfl) ?_
    refine lv_iconst (v := 4) hx hb dX10_restore_26 (by decide) ?_
    refine lv_icmp_ge (tgt := 48) hx hb dX10_restore_27 (by decide) (fun c6 => ?_) (fun c6 => ?_)
    · have hw := hw.1 c6
      try dsimp only at hw
      refine lv_aload_n hx hb dX10_restore_48 rfl (lv_at hl 0 rfl) ?_
      refine g_calli (cw0 := fun M => rcells cI cZ ad M Y) (M := M) (As := []) (rest := []) C0 hW hl.1 (k_all (l := l) _  _ hw) (cwV 0 hts gX10_restore_X10_all rfl rfl rfl (by decide +kernel) ⟨Nat.le_of_ble_eq_true rfl, Nat.le_of_ble_eq_true rfl⟩) (r_recv C0 hW) (Nat.le_of_ble_eq_true rfl) dX10_restore_49 rfl ⟨Nat.le_of_ble_eq_true rfl, Nat.le_of_ble_eq_true rfl⟩ (fun r8 M7 H locs hw hW => ?_)
      try dsimp only at hw
      exact hret r8 M7 _ _ 0 0 (Nat.le_refl _) (Nat.le_refl _) hw rfl dX10_restore_52 _ _ _ hW hl
    · have hw := hw.2 c6
      try dsimp only at hw
      refine lv_aload_n hx hb dX10_restore_30 rfl (lv_at hl 0 rfl) ?_
      refine lv_iconst (v := 4) hx hb dX10_restore_31 (by decide) ?_
      refine lv_iload_n hx hb dX10_restore_32 rfl (lv_at hl 1 rfl) ?_
      refine lv_iconst (v := 1) hx hb dX10_restore_33 (by decide) ?_
      refine lv_iadd hx hb dX10_restore_34 ?_
      refine lv_imul hx hb dX10_restore_35 ?_
      refine lv_iload_n hx hb dX10_restore_36 rfl (lv_at hl 2 rfl) ?_
      refine lv_iadd hx hb dX10_restore_37 ?_
      refine lv_iload_n hx hb dX10_restore_38 rfl (lv_at hl 2 rfl) ?_
      refine g_callv (cw0 := fun M => rcells cI cZ ad M Y) (M := M) (As := [.int ((4 * (x1 + 1)) + x2), .int x2]) (rest := []) C0 hW hl.1 (k_copyLayer (l := l) _ ((4 * (x1 + 1)) + x2) x2 _ hw) (cwV 2 hts gX10_restore_X10_copyLayer rfl rfl rfl (by decide +kernel) ⟨Nat.le_of_ble_eq_true rfl, Nat.le_of_ble_eq_true rfl⟩) (r_recv C0 hW) (Nat.le_of_ble_eq_true rfl) dX10_restore_39 rfl ⟨Nat.le_of_ble_eq_true rfl, Nat.le_of_ble_eq_true rfl⟩ (fun M9 H locs hw hW => ?_)
      try dsimp only at hw
      obtain ⟨v10, ev10⟩ : ∃ y : Int32, y = x2 + 1 := ⟨_, rfl⟩
      have hw := hw v10 ev10
      refine lv_iinc (v := v10) (lv' := [(2, .int v10), (0, .ref (ad 0)), (1, .int x1)]) hx hb dX10_restore_42 hl (k := 2) rfl (by rw [ev10]; rfl) (by decide) rfl (fun ls hl => ?_)
      refine lv_goto (tgt := 25) hx hb dX10_restore_45 (by decide) ?_
      exact ih x1 v10 M9 hw _ _ _ hW (lv_sub hl [1, 2, 0] rfl)
set_option maxHeartbeats 4000000 in
set_option maxRecDepth 100000 in
theorem t_restore_0 (C0 : rX p s m args c cX10_restore 3 RX10 wsX10_restore D ((cI, .int) :: (cZ, .boolean) :: ty') A) (post : Int32 → RM → Prop) (hret : ∀ (r : Int32) (M' : RM) (pc : Nat) (lv : List (Nat × Value)) (k n : Nat), k ≤ 0 → n ≤ 0 → post r M' → narrow .int (.int r) = .int r → decode cX10_restore pc = .ok (.ireturn, 1) → gG p l e rm_restore s m args below meth c Q D A 3 k n (rcells cI cZ ad M' Y) pc lv [.int r])  : ∀  (a1 : Int32) (M : RM), w_restore post   a1 M → gG p l e rm_restore s m args below meth c Q D A 3 0 0 (rcells cI cZ ad M Y) 0 [(0, .ref (ad 0)), (1, .int a1)] [] := by
  obtain ⟨hx, hb, hml, ho, hts, hK, hA⟩ := id C0
  have hin := in_restore
  intro a1 M hw H locs ls hW hl
  rw [w_restore] at hw
  refine lv_iload_n hx hb dX10_restore_0 rfl (lv_at hl 1 rfl) ?_
  refine lv_if_lt (tgt := 9) hx hb dX10_restore_1 (by decide) (fun c1 => ?_) (fun c1 => ?_)
  · have hw := hw.1 c1
    try dsimp only at hw
    refine lv_iconst (v := (-1)) hx hb dX10_restore_9 (by decide) ?_
    exact hret (-1) M _ _ 0 0 (Nat.le_refl _) (Nat.le_refl _) hw rfl dX10_restore_10 _ _ _ hW hl
  · have hw := hw.2 c1
    try dsimp only at hw
    refine lv_iload_n hx hb dX10_restore_4 rfl (lv_at hl 1 rfl) ?_
    refine lv_iconst (v := 1) hx hb dX10_restore_5 (by decide) ?_
    refine lv_icmp_le (tgt := 11) hx hb dX10_restore_6 (by decide) (fun c2 => ?_) (fun c2 => ?_)
    · have hw := hw.1 c2
      try dsimp only at hw
      refine lv_aload_n hx hb dX10_restore_11 rfl (lv_at hl 0 rfl) ?_
      refine r_get C0 hin hW 2 (by decide) (v := .ref (ad 3)) rfl (List.mem_of_getElem? (i := 1) rfl) rfl dX10_restore_12 ?_
      refine lv_iload_n hx hb dX10_restore_15 rfl (lv_at hl 1 rfl) ?_
      obtain ⟨h3, hw⟩ := hw
      refine r_zald C0 hW 3 rfl rfl h3 dX10_restore_16 ?_
      refine lv_if_ne (tgt := 23) hx hb dX10_restore_17 (by decide) (fun c4 => ?_) (fun c4 => ?_)
      · have hw := hw.1 c4
        try dsimp only at hw
        refine lv_iconst (v := 0) hx hb dX10_restore_23 (by decide) ?_
        refine lv_istore_n (lv' := [(2, .int 0), (0, .ref (ad 0)), (1, .int a1)]) hx hb dX10_restore_24 rfl hl (by decide) rfl (fun ls hl => ?_)
        obtain ⟨n5, hw⟩ := hw
        exact t_restore_25 C0 post hret  n5 a1 0 M hw _ _ _ hW (lv_sub hl [1, 2, 0] rfl)
      · have hw := hw.2 c4
        try dsimp only at hw
        refine lv_bipush (v := (-4)) hx hb dX10_restore_20 (by decide) ?_
        exact hret (-4) M _ _ 0 0 (Nat.le_refl _) (Nat.le_refl _) hw rfl dX10_restore_22 _ _ _ hW hl
    · have hw := hw.2 c2
      try dsimp only at hw
      refine lv_iconst (v := (-1)) hx hb dX10_restore_9 (by decide) ?_
      exact hret (-1) M _ _ 0 0 (Nat.le_refl _) (Nat.le_refl _) hw rfl dX10_restore_10 _ _ _ hW hl
set_option maxHeartbeats 4000000 in
set_option maxRecDepth 100000 in
theorem k_restore {l : Launch} {D : va_G} {cI cZ : ClassId} {ty' : List (ClassId × FieldType)} {ad : Nat → Nat} {Y : va_W} {sz : Nat} (post : Int32 → RM → Prop) (a1 : Int32) (M : RM) (hw : w_restore post a1 M) : gMi l yX10_restore wsX10_restore rm_restore D ((cI, .int) :: (cZ, .boolean) :: ty') sz (fun M => rcells cI cZ ad M Y) M [.ref (ad 0), .int a1] post 0 0 := by
  refine gMi_of (cc := cX10_restore) (nL := 3) (ty := .int) (own := RX10) (by decide) rfl rfl (Nat.le_of_ble_eq_true rfl) ?_
  intro p e s m args below meth c A Q C0 hret
  exact t_restore_0 C0 post hret a1 M hw
abbrev rm_refusals : Room := { frames := 0, cells := 0, slots := 0, locals := 0 }
theorem in_refusals : ∀ w ∈ wsX100, w ∈ wsX10_refusals := fun w hw => List.mem_cons_of_mem _ (List.mem_append_right _ hw)
set_option maxHeartbeats 4000000 in
set_option maxRecDepth 100000 in
theorem t_refusals_0 (C0 : rX p s m args c cX10_refusals 2 RX10 wsX10_refusals D ((cI, .int) :: (cZ, .boolean) :: ty') A) (post : Int32 → RM → Prop) (hret : ∀ (r : Int32) (M' : RM) (pc : Nat) (lv : List (Nat × Value)) (k n : Nat), k ≤ 0 → n ≤ 0 → post r M' → narrow .int (.int r) = .int r → decode cX10_refusals pc = .ok (.ireturn, 1) → gG p l e rm_refusals s m args below meth c Q D A 2 k n (rcells cI cZ ad M' Y) pc lv [.int r])  : ∀  (a1 : Int32) (M : RM), w_refusals post   a1 M → gG p l e rm_refusals s m args below meth c Q D A 2 0 0 (rcells cI cZ ad M Y) 0 [(0, .ref (ad 0)), (1, .int a1)] [] := by
  obtain ⟨hx, hb, hml, ho, hts, hK, hA⟩ := id C0
  have hin := in_refusals
  intro a1 M hw H locs ls hW hl
  rw [w_refusals] at hw
  refine lv_iload_n hx hb dX10_refusals_0 rfl (lv_at hl 1 rfl) ?_
  refine lv_if_ne (tgt := 11) hx hb dX10_refusals_1 (by decide) (fun c1 => ?_) (fun c1 => ?_)
  · have hw := hw.1 c1
    try dsimp only at hw
    refine lv_iload_n hx hb dX10_refusals_11 rfl (lv_at hl 1 rfl) ?_
    refine lv_iconst (v := 1) hx hb dX10_refusals_12 (by decide) ?_
    refine lv_icmp_ne (tgt := 23) hx hb dX10_refusals_13 (by decide) (fun c2 => ?_) (fun c2 => ?_)
    · have hw := hw.1 c2
      try dsimp only at hw
      refine lv_iconst (v := (-1)) hx hb dX10_refusals_23 (by decide) ?_
      exact hret (-1) M _ _ 0 0 (Nat.le_refl _) (Nat.le_refl _) hw rfl dX10_refusals_24 _ _ _ hW hl
    · have hw := hw.2 c2
      try dsimp only at hw
      refine lv_aload_n hx hb dX10_refusals_16 rfl (lv_at hl 0 rfl) ?_
      refine r_get C0 hin hW 13 (by decide) (v := .int (M 0 3)) rfl (List.mem_of_getElem? (i := 2) rfl) rfl dX10_refusals_17 ?_
      refine lv_goto (tgt := 24) hx hb dX10_refusals_20 (by decide) ?_
      exact hret (M 0 3) M _ _ 0 0 (Nat.le_refl _) (Nat.le_refl _) hw rfl dX10_refusals_24 _ _ _ hW hl
  · have hw := hw.2 c1
    try dsimp only at hw
    refine lv_aload_n hx hb dX10_refusals_4 rfl (lv_at hl 0 rfl) ?_
    refine r_get C0 hin hW 12 (by decide) (v := .int (M 0 2)) rfl (List.mem_of_getElem? (i := 1) rfl) rfl dX10_refusals_5 ?_
    refine lv_goto (tgt := 24) hx hb dX10_refusals_8 (by decide) ?_
    exact hret (M 0 2) M _ _ 0 0 (Nat.le_refl _) (Nat.le_refl _) hw rfl dX10_refusals_24 _ _ _ hW hl
set_option maxHeartbeats 4000000 in
set_option maxRecDepth 100000 in
theorem k_refusals {l : Launch} {D : va_G} {cI cZ : ClassId} {ty' : List (ClassId × FieldType)} {ad : Nat → Nat} {Y : va_W} {sz : Nat} (post : Int32 → RM → Prop) (a1 : Int32) (M : RM) (hw : w_refusals post a1 M) : gMi l yX10_refusals wsX10_refusals rm_refusals D ((cI, .int) :: (cZ, .boolean) :: ty') sz (fun M => rcells cI cZ ad M Y) M [.ref (ad 0), .int a1] post 0 0 := by
  refine gMi_of (cc := cX10_refusals) (nL := 2) (ty := .int) (own := RX10) (by decide) rfl rfl (Nat.le_of_ble_eq_true rfl) ?_
  intro p e s m args below meth c A Q C0 hret
  exact t_refusals_0 C0 post hret a1 M hw
end REFM
