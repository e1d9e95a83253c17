section RAWM
variable {p : Program} {l : Launch} {e : Env} {s : State} {m : MethodId} {args : Array Value} {below : List Frame} {meth : Method} {c : Code} {Q : State → Prop}
variable {D : va_G} {A : Nat → Prop} {u : hU} {X : va_W} {MC MS : Nat}
abbrev rm_X9_isBlank : Room := { frames := 0, cells := 0, slots := 0, locals := 0 }
set_option maxHeartbeats 4000000 in
set_option maxRecDepth 100000 in
theorem k_X9_isBlank {l : Launch} (post : Int32 → Prop) (z1 : Int32) (hw : q_X9_isBlank post z1) : gMs l yX9_isBlank wsX9_isBlank rm_X9_isBlank [.int z1] post := by
  refine gMs_of (cc := cX9_isBlank) (nL := 1) (ty := .boolean) (own := RX9) (by decide) rfl rfl (Nat.le_of_ble_eq_true rfl) ?_
  intro p e s m args below meth c Q hx hb hml ho hts hret ls hl
  rw [q_X9_isBlank] at hw
  refine lv_iload_n hx hb dX9_isBlank_0 rfl (lv_at hl 0 rfl) ?_
  refine lv_bipush (v := 32) hx hb dX9_isBlank_1 (by decide) ?_
  refine lv_icmp_eq (tgt := 12) hx hb dX9_isBlank_3 (by decide) (fun c1 => ?_) (fun c1 => ?_)
  · replace hw := hw.1 c1
    refine lv_iconst (v := 1) hx hb dX9_isBlank_12 (by decide) ?_
    refine lv_goto (tgt := 17) hx hb dX9_isBlank_13 (by decide) ?_
    exact hret 1 _ _ hw (by decide) dX9_isBlank_17
  · replace hw := hw.2 c1
    refine lv_iload_n hx hb dX9_isBlank_6 rfl (lv_at hl 0 rfl) ?_
    refine lv_bipush (v := 9) hx hb dX9_isBlank_7 (by decide) ?_
    refine lv_icmp_ne (tgt := 16) hx hb dX9_isBlank_9 (by decide) (fun c2 => ?_) (fun c2 => ?_)
    · replace hw := hw.1 c2
      refine lv_iconst (v := 0) hx hb dX9_isBlank_16 (by decide) ?_
      exact hret 0 _ _ hw (by decide) dX9_isBlank_17
    · replace hw := hw.2 c2
      refine lv_iconst (v := 1) hx hb dX9_isBlank_12 (by decide) ?_
      refine lv_goto (tgt := 17) hx hb dX9_isBlank_13 (by decide) ?_
      exact hret 1 _ _ hw (by decide) dX9_isBlank_17
abbrev rm_X7_skipBlanks : Room := { frames := 5, cells := 0, slots := 0, locals := 109 }
theorem in_X7_skipBlanks_RX7 : ∀ w ∈ wsX70, w ∈ wsX7_skipBlanks := fun w hw9 => List.mem_cons_of_mem _ (List.mem_append_left _ (List.mem_append_right _ hw9))
set_option maxHeartbeats 4000000 in
set_option maxRecDepth 100000 in
theorem t_X7_skipBlanks_5 (C0 : hX p s m args c cX7_skipBlanks 3 RX7 wsX7_skipBlanks D (gt u.2.1) A u.1 u.2.2) {S : hS} (t0 : Nat) (post : Int32 → Prop) (hret : ∀ (r : Int32) (S' : hS) (pc : Nat) (lv : List (Nat × Value)) (k n : Nat), k ≤ 0 → n ≤ 0 → (S' = S ∧ post r) → narrow .int (.int r) = .int r → decode cX7_skipBlanks pc = .ok (.ireturn, 1) → gG p l e (rm_X7_skipBlanks) s m args below meth c Q D A 3 k n (hC X S') pc lv [.int r])  : ∀ (nf : Nat) (x1 : Int32) (x2 : Int32), w_X7_skipBlanks_5 u post t0  nf x1 x2 S → gG p l e (rm_X7_skipBlanks) s m args below meth c Q D A 3 0 0 (hC X S) 5 [(0, .ref t0), (1, .int x1), (2, .int x2)] [] := by
  obtain ⟨⟨hx, hb, hml, ho, hts, hK, hA⟩, hR⟩ := id C0
  intro nf
  induction nf with
  | zero => intro x1 x2 hw; exact hw.elim
  | succ nf ih =>
    intro x1 x2 hw H locs ls hW hl
    rw [w_X7_skipBlanks_5] at hw
    refine lv_iload_n hx hb dX7_skipBlanks_5 rfl (lv_at hl 2 rfl) ?_
    refine lv_iload_n hx hb dX7_skipBlanks_6 rfl (lv_at hl 1 rfl) ?_
    refine lv_icmp_ge (tgt := 27) hx hb dX7_skipBlanks_7 (by decide) (fun c4 => ?_) (fun c4 => ?_)
    · replace hw := hw.1 c4
      refine lv_iload_n hx hb dX7_skipBlanks_27 rfl (lv_at hl 2 rfl) ?_
      exact hret x2 S _ _ 0 0 (Nat.le_refl _) (Nat.le_refl _) ⟨rfl, hw⟩ rfl dX7_skipBlanks_28 _ _ _ hW hl
    · replace hw := hw.2 c4
      refine lv_aload_n hx hb dX7_skipBlanks_10 rfl (lv_at hl 0 rfl) ?_
      refine lv_iload_n hx hb dX7_skipBlanks_11 rfl (lv_at hl 2 rfl) ?_
      obtain ⟨h6, hw⟩ := hw
      refine h_goi C0 hW (va_runV (As := [.int x2]) (rest := []) ⟨hx, hb, hml, ho, hts⟩ (k_X7_tapeSign (l := l) (u := u) (X := X) (sz := H.size) _ t0 x2 S  hw) (cwV 1 hts gX7_skipBlanks_X7_tapeSign rfl rfl rfl (by decide +kernel) ⟨Nat.le_of_ble_eq_true rfl, Nat.le_of_ble_eq_true rfl⟩) ⟨h_blind, (h_recv C0 hW (ci := 8) rfl h6), (h_pre C0 hW [.ref t0, .int x2])⟩ rfl rfl hl.1 rfl (lv_room (Nat.le_of_ble_eq_true rfl)) dX7_skipBlanks_12 ⟨Nat.le_refl _, Nat.le_refl _⟩) (fun r5 S7 H locs h8 hW => ?_)
      obtain ⟨h9, hp⟩ := h8
      rw [h9] at hW
      replace hw := hp
      refine g_callsN (As := [.int r5]) (rest := []) (host := RX9) ⟨hx, hb, hml, ho, hts⟩ hl.1 (k_X9_isBlank (l := l) _ r5 hw) ⟨va_cnB 1 hts gX7_skipBlanks_X9_isBlank_n73 rfl rfl rfl (C0.2.2.2.2 _ (by decide +kernel)) (hts _ (List.mem_of_getElem? (i := 54) rfl)) (by decide +kernel) ⟨Nat.le_of_ble_eq_true rfl, Nat.le_of_ble_eq_true rfl⟩, hts _ (List.mem_of_getElem? (i := 53) rfl), trivial⟩ (Nat.le_of_ble_eq_true rfl) dX7_skipBlanks_15 rfl ⟨Nat.le_refl _, Nat.le_refl _⟩ (fun r10 hp => ?_)
      replace hw := hp
      refine lv_if_eq (tgt := 27) hx hb dX7_skipBlanks_18 (by decide) (fun c11 => ?_) (fun c11 => ?_)
      · replace hw := hw.1 c11
        refine lv_iload_n hx hb dX7_skipBlanks_27 rfl (lv_at hl 2 rfl) ?_
        exact hret x2 S _ _ 0 0 (Nat.le_refl _) (Nat.le_refl _) ⟨rfl, hw⟩ rfl dX7_skipBlanks_28 _ _ _ hW hl
      · replace hw := hw.2 c11
        obtain ⟨v12, ev12⟩ : ∃ y : Int32, y = x2 + 1 := ⟨_, rfl⟩
        replace hw := hw v12 ev12
        refine lv_iinc (v := v12) (lv' := [(2, .int v12), (0, .ref t0), (1, .int x1)]) hx hb dX7_skipBlanks_21 hl (k := 2) rfl (by rw [ev12]; rfl) (by decide) rfl (fun ls hl9 => ?_)
        replace hl := hl9
        refine lv_goto (tgt := 5) hx hb dX7_skipBlanks_24 (by decide) ?_
        exact ih x1 v12   hw _ _ _ hW (lv_sub hl [1, 2, 0] rfl)
set_option maxHeartbeats 4000000 in
set_option maxRecDepth 100000 in
theorem t_X7_skipBlanks_0 (C0 : hX p s m args c cX7_skipBlanks 3 RX7 wsX7_skipBlanks D (gt u.2.1) A u.1 u.2.2) {S : hS} (t0 : Nat) (post : Int32 → Prop) (hret : ∀ (r : Int32) (S' : hS) (pc : Nat) (lv : List (Nat × Value)) (k n : Nat), k ≤ 0 → n ≤ 0 → (S' = S ∧ post r) → narrow .int (.int r) = .int r → decode cX7_skipBlanks pc = .ok (.ireturn, 1) → gG p l e (rm_X7_skipBlanks) s m args below meth c Q D A 3 k n (hC X S') pc lv [.int r])  : ∀ (z1 : Int32), w_X7_skipBlanks u post t0  z1 S → gG p l e (rm_X7_skipBlanks) s m args below meth c Q D A 3 0 0 (hC X S) 0 [(0, .ref t0), (1, .int z1)] [] := by
  obtain ⟨⟨hx, hb, hml, ho, hts, hK, hA⟩, hR⟩ := id C0
  intro z1 hw H locs ls hW hl
  rw [w_X7_skipBlanks] at hw
  refine lv_aload_n hx hb dX7_skipBlanks_0 rfl (lv_at hl 0 rfl) ?_
  obtain ⟨v1, h2, hw⟩ := hw
  refine h_getI C0 hW (T := TX7) (kf := 4) in_X7_skipBlanks_RX7 h2 rfl (by decide) (List.mem_of_getElem? (i := 1) rfl) rfl dX7_skipBlanks_1 ?_
  refine lv_istore_n (lv' := [(2, .int v1), (0, .ref t0), (1, .int z1)]) hx hb dX7_skipBlanks_4 rfl hl (by decide) rfl (fun ls hl9 => ?_)
  replace hl := hl9
  obtain ⟨n3, hw⟩ := hw
  exact t_X7_skipBlanks_5 C0 t0 post hret  n3 z1 v1   hw _ _ _ hW (lv_sub hl [1, 2, 0] rfl)
set_option maxHeartbeats 4000000 in
set_option maxRecDepth 100000 in
theorem k_X7_skipBlanks {l : Launch} {D : va_G} {u : hU} {X : va_W} {sz : Nat} (post : Int32 → Prop) (t0 : Nat) (z1 : Int32) (S : hS) (hw : w_X7_skipBlanks u post t0 z1 S) : hMi l yX7_skipBlanks wsX7_skipBlanks rm_X7_skipBlanks D (gt u.2.1) u.1 u.2.2 sz X S [.ref t0, .int z1] (fun r S' => S' = S ∧ post r) 0 0 := by
  refine hMi_of (cc := cX7_skipBlanks) (nL := 3) (ty := .int) (own := RX7) (by decide) rfl rfl (Nat.le_of_ble_eq_true rfl) ?_
  intro p e s m args below meth c A Q C0 hin hret
  exact t_X7_skipBlanks_0 C0 t0 post hret z1 hw
abbrev rm_X7_takeLine : Room := { frames := 5, cells := 0, slots := 0, locals := 109 }
theorem in_X7_takeLine_RX7 : ∀ w ∈ wsX70, w ∈ wsX7_takeLine := fun w hw9 => List.mem_cons_of_mem _ (List.mem_append_left _ (List.mem_append_right _ hw9))
set_option maxHeartbeats 4000000 in
set_option maxRecDepth 100000 in
theorem t_X7_takeLine_60 (C0 : hX p s m args c cX7_takeLine 7 RX7 wsX7_takeLine D (gt u.2.1) A u.1 u.2.2) (t0 : Nat) (post : Int32 → hS → Prop) (hret : ∀ (r : Int32) (S' : hS) (pc : Nat) (lv : List (Nat × Value)) (k n : Nat), k ≤ 0 → n ≤ 0 → post r S' → narrow .boolean (.int r) = .int r → decode cX7_takeLine pc = .ok (.ireturn, 1) → gG p l e (rm_X7_takeLine) s m args below meth c Q D A 7 k n (hC X S') pc lv [.int r])  : ∀ (nf : Nat) (x4 : Int32) (x5 : Int32) (x6 : Int32) (S : hS), w_X7_takeLine_60 u post t0  nf x4 x5 x6 S → gG p l e (rm_X7_takeLine) s m args below meth c Q D A 7 0 0 (hC X S) 60 [(0, .ref t0), (4, .int x4), (5, .int x5), (6, .int x6)] [] := by
  obtain ⟨⟨hx, hb, hml, ho, hts, hK, hA⟩, hR⟩ := id C0
  intro nf
  induction nf with
  | zero => intro x4 x5 x6 S hw; exact hw.elim
  | succ nf ih =>
    intro x4 x5 x6 S hw H locs ls hW hl
    rw [w_X7_takeLine_60] at hw
    refine lv_iload hx hb dX7_takeLine_60 (lv_at hl 3 rfl) ?_
    refine lv_iload hx hb dX7_takeLine_62 (lv_at hl 2 rfl) ?_
    refine lv_icmp_ge (tgt := 104) hx hb dX7_takeLine_64 (by decide) (fun c15 => ?_) (fun c15 => ?_)
    · replace hw := hw.1 c15
      refine lv_iload hx hb dX7_takeLine_104 (lv_at hl 1 rfl) ?_
      exact hret x4 S _ _ 0 0 (Nat.le_refl _) (Nat.le_refl _) hw.2 hw.1 dX7_takeLine_106 _ _ _ hW hl
    · replace hw := hw.2 c15
      refine lv_aload_n hx hb dX7_takeLine_67 rfl (lv_at hl 0 rfl) ?_
      obtain ⟨v16, h17, hw⟩ := hw
      refine h_getI C0 hW (T := TX7) (kf := 3) in_X7_takeLine_RX7 h17 rfl (by decide) (List.mem_of_getElem? (i := 1) rfl) rfl dX7_takeLine_68 ?_
      refine lv_sipush (v := 300) hx hb dX7_takeLine_71 (by decide) ?_
      refine lv_icmp_ge (tgt := 104) hx hb dX7_takeLine_74 (by decide) (fun c18 => ?_) (fun c18 => ?_)
      · replace hw := hw.1 c18
        refine lv_iload hx hb dX7_takeLine_104 (lv_at hl 1 rfl) ?_
        exact hret x4 S _ _ 0 0 (Nat.le_refl _) (Nat.le_refl _) hw.2 hw.1 dX7_takeLine_106 _ _ _ hW hl
      · replace hw := hw.2 c18
        refine lv_aload_n hx hb dX7_takeLine_77 rfl (lv_at hl 0 rfl) ?_
        obtain ⟨o19, h20, hw⟩ := hw
        refine h_getR C0 hW (T := TX7) (kf := 1) in_X7_takeLine_RX7 h20 rfl (by decide) (List.mem_of_getElem? (i := 2) rfl) rfl dX7_takeLine_78 ?_
        refine lv_aload_n hx hb dX7_takeLine_81 rfl (lv_at hl 0 rfl) ?_
        obtain ⟨v21, h22, hw⟩ := hw
        refine h_getI C0 hW (T := TX7) (kf := 3) in_X7_takeLine_RX7 h22 rfl (by decide) (List.mem_of_getElem? (i := 1) rfl) rfl dX7_takeLine_82 ?_
        refine lv_iload hx hb dX7_takeLine_85 (lv_at hl 3 rfl) ?_
        obtain ⟨a23, rfl, hw⟩ := hw
        obtain ⟨N24, g25, h26, h27, hw⟩ := hw
        refine h_iast C0 hW h26 rfl h27 dX7_takeLine_87 (fun H locs hW => ?_)
        obtain ⟨S28, eS28⟩ : ∃ z : hS, z = upS S a23 (.inl (u.2.1 0, N24, .inl (upd g25 (v21 : Int32).toNatClampNeg x6))) := ⟨_, rfl⟩
        rw [← eS28] at hW
        replace hw := hw S28 eS28
        refine lv_aload_n hx hb dX7_takeLine_88 rfl (lv_at hl 0 rfl) ?_
        refine lv_dup hx hb dX7_takeLine_89 rfl ?_
        obtain ⟨v29, h30, hw⟩ := hw
        refine h_getI C0 hW (T := TX7) (kf := 3) in_X7_takeLine_RX7 h30 rfl (by decide) (List.mem_of_getElem? (i := 1) rfl) rfl dX7_takeLine_90 ?_
        refine lv_iconst (v := 1) hx hb dX7_takeLine_93 (by decide) ?_
        refine lv_iadd hx hb dX7_takeLine_94 ?_
        obtain ⟨fs31, h32, h33, hw⟩ := hw
        refine h_put C0 hW (T := TX7) (kf := 3) (ty := .int) in_X7_takeLine_RX7 h32 rfl (by decide) h33 tyX7 tyX7_ok nmX7 (List.mem_of_getElem? (i := 1) rfl) rfl (Or.inl rfl) (by decide +kernel) rfl rfl dX7_takeLine_95 rfl (fun H locs hW => ?_)
        obtain ⟨S34, eS34⟩ : ∃ z : hS, z = upS S28 t0 (.inr (8, fs31.set 3 (.int (v29 + 1)))) := ⟨_, rfl⟩
        rw [← eS34] at hW
        replace hw := hw S34 eS34
        obtain ⟨v35, ev35⟩ : ∃ y : Int32, y = x6 + 1 := ⟨_, rfl⟩
        replace hw := hw v35 ev35
        refine lv_iinc (v := v35) (lv' := [(6, .int v35), (0, .ref t0), (4, .int x4), (5, .int x5)]) hx hb dX7_takeLine_98 hl (k := 3) rfl (by rw [ev35]; rfl) (by decide) rfl (fun ls hl9 => ?_)
        replace hl := hl9
        refine lv_goto (tgt := 60) hx hb dX7_takeLine_101 (by decide) ?_
        exact ih x4 x5 v35 S34  hw _ _ _ hW (lv_sub hl [1, 2, 3, 0] rfl)
set_option maxHeartbeats 4000000 in
set_option maxRecDepth 100000 in
theorem t_X7_takeLine_41 (C0 : hX p s m args c cX7_takeLine 7 RX7 wsX7_takeLine D (gt u.2.1) A u.1 u.2.2) (t0 : Nat) (post : Int32 → hS → Prop) (hret : ∀ (r : Int32) (S' : hS) (pc : Nat) (lv : List (Nat × Value)) (k n : Nat), k ≤ 0 → n ≤ 0 → post r S' → narrow .boolean (.int r) = .int r → decode cX7_takeLine pc = .ok (.ireturn, 1) → gG p l e (rm_X7_takeLine) s m args below meth c Q D A 7 k n (hC X S') pc lv [.int r])  : ∀ (x1 : Int32) (x2 : Int32) (s0 : Int32) (S : hS), w_X7_takeLine_41 u post t0  x1 x2 s0 S → gG p l e (rm_X7_takeLine) s m args below meth c Q D A 7 0 0 (hC X S) 41 [(0, .ref t0), (1, .int x1), (2, .int x2)] [.int s0] := by
  obtain ⟨⟨hx, hb, hml, ho, hts, hK, hA⟩, hR⟩ := id C0
  intro x1 x2 s0 S hw H locs ls hW hl
  rw [w_X7_takeLine_41] at hw
  refine lv_istore (lv' := [(4, .int s0), (0, .ref t0), (1, .int x1), (2, .int x2)]) hx hb dX7_takeLine_41 hl (by decide) rfl (fun ls hl9 => ?_)
  replace hl := hl9
  refine lv_iload hx hb dX7_takeLine_43 (lv_at hl 0 rfl) ?_
  refine lv_if_eq (tgt := 54) hx hb dX7_takeLine_45 (by decide) (fun c11 => ?_) (fun c11 => ?_)
  · replace hw := hw.1 c11
    refine lv_iload_n hx hb dX7_takeLine_54 rfl (lv_at hl 3 rfl) ?_
    refine lv_istore (lv' := [(5, .int x2), (4, .int s0), (0, .ref t0), (1, .int x1), (2, .int x2)]) hx hb dX7_takeLine_55 hl (by decide) rfl (fun ls hl9 => ?_)
    replace hl := hl9
    refine lv_iload_n hx hb dX7_takeLine_57 rfl (lv_at hl 3 rfl) ?_
    refine lv_istore (lv' := [(6, .int x1), (5, .int x2), (4, .int s0), (0, .ref t0), (1, .int x1), (2, .int x2)]) hx hb dX7_takeLine_58 hl (by decide) rfl (fun ls hl9 => ?_)
    replace hl := hl9
    obtain ⟨n12, hw⟩ := hw
    exact t_X7_takeLine_60 C0 t0 post hret  n12 s0 x2 x1 S  hw _ _ _ hW (lv_sub hl [3, 2, 1, 0] rfl)
  · replace hw := hw.2 c11
    refine lv_iload_n hx hb dX7_takeLine_48 rfl (lv_at hl 3 rfl) ?_
    refine lv_iconst (v := 1) hx hb dX7_takeLine_49 (by decide) ?_
    refine lv_isub hx hb dX7_takeLine_50 ?_
    refine lv_goto (tgt := 55) hx hb dX7_takeLine_51 (by decide) ?_
    refine lv_topi (fun v13 ev13 => ?_)
    replace hw := hw v13 ev13
    refine lv_istore (lv' := [(5, .int v13), (4, .int s0), (0, .ref t0), (1, .int x1), (2, .int x2)]) hx hb dX7_takeLine_55 hl (by decide) rfl (fun ls hl9 => ?_)
    replace hl := hl9
    refine lv_iload_n hx hb dX7_takeLine_57 rfl (lv_at hl 3 rfl) ?_
    refine lv_istore (lv' := [(6, .int x1), (5, .int v13), (4, .int s0), (0, .ref t0), (1, .int x1), (2, .int x2)]) hx hb dX7_takeLine_58 hl (by decide) rfl (fun ls hl9 => ?_)
    replace hl := hl9
    obtain ⟨n14, hw⟩ := hw
    exact t_X7_takeLine_60 C0 t0 post hret  n14 s0 v13 x1 S  hw _ _ _ hW (lv_sub hl [3, 2, 1, 0] rfl)
set_option maxHeartbeats 4000000 in
set_option maxRecDepth 100000 in
theorem t_X7_takeLine_29 (C0 : hX p s m args c cX7_takeLine 7 RX7 wsX7_takeLine D (gt u.2.1) A u.1 u.2.2) (t0 : Nat) (post : Int32 → hS → Prop) (hret : ∀ (r : Int32) (S' : hS) (pc : Nat) (lv : List (Nat × Value)) (k n : Nat), k ≤ 0 → n ≤ 0 → post r S' → narrow .boolean (.int r) = .int r → decode cX7_takeLine pc = .ok (.ireturn, 1) → gG p l e (rm_X7_takeLine) s m args below meth c Q D A 7 k n (hC X S') pc lv [.int r])  : ∀ (x1 : Int32) (x2 : Int32) (x3 : Int32) (S : hS), w_X7_takeLine_29 u post t0  x1 x2 x3 S → gG p l e (rm_X7_takeLine) s m args below meth c Q D A 7 0 0 (hC X S) 29 [(0, .ref t0), (1, .int x1), (2, .int x2), (3, .int x3)] [] := by
  obtain ⟨⟨hx, hb, hml, ho, hts, hK, hA⟩, hR⟩ := id C0
  intro x1 x2 x3 S hw H locs ls hW hl
  rw [w_X7_takeLine_29] at hw
  refine lv_iload_n hx hb dX7_takeLine_29 rfl (lv_at hl 3 rfl) ?_
  refine lv_iconst (v := 2) hx hb dX7_takeLine_30 (by decide) ?_
  refine lv_irem hx hb dX7_takeLine_31 (by decide) ?_
  refine lv_iconst (v := 1) hx hb dX7_takeLine_32 (by decide) ?_
  refine lv_icmp_ne (tgt := 40) hx hb dX7_takeLine_33 (by decide) (fun c10 => ?_) (fun c10 => ?_)
  · replace hw := hw.1 c10
    refine lv_iconst (v := 0) hx hb dX7_takeLine_40 (by decide) ?_
    exact t_X7_takeLine_41 C0 t0 post hret  x1 x2 0 S  hw _ _ _ hW (lv_sub hl [0, 1, 2] rfl)
  · replace hw := hw.2 c10
    refine lv_iconst (v := 1) hx hb dX7_takeLine_36 (by decide) ?_
    refine lv_goto (tgt := 41) hx hb dX7_takeLine_37 (by decide) ?_
    exact t_X7_takeLine_41 C0 t0 post hret  x1 x2 1 S  hw _ _ _ hW (lv_sub hl [0, 1, 2] rfl)
set_option maxHeartbeats 4000000 in
set_option maxRecDepth 100000 in
theorem t_X7_takeLine_2 (C0 : hX p s m args c cX7_takeLine 7 RX7 wsX7_takeLine D (gt u.2.1) A u.1 u.2.2) (t0 : Nat) (post : Int32 → hS → Prop) (hret : ∀ (r : Int32) (S' : hS) (pc : Nat) (lv : List (Nat × Value)) (k n : Nat), k ≤ 0 → n ≤ 0 → post r S' → narrow .boolean (.int r) = .int r → decode cX7_takeLine pc = .ok (.ireturn, 1) → gG p l e (rm_X7_takeLine) s m args below meth c Q D A 7 k n (hC X S') pc lv [.int r])  : ∀ (nf : Nat) (x1 : Int32) (x2 : Int32) (x3 : Int32) (S : hS), w_X7_takeLine_2 u post t0  nf x1 x2 x3 S → gG p l e (rm_X7_takeLine) s m args below meth c Q D A 7 0 0 (hC X S) 2 [(0, .ref t0), (1, .int x1), (2, .int x2), (3, .int x3)] [] := by
  obtain ⟨⟨hx, hb, hml, ho, hts, hK, hA⟩, hR⟩ := id C0
  intro nf
  induction nf with
  | zero => intro x1 x2 x3 S hw; exact hw.elim
  | succ nf ih =>
    intro x1 x2 x3 S hw H locs ls hW hl
    rw [w_X7_takeLine_2] at hw
    refine lv_iload_n hx hb dX7_takeLine_2 rfl (lv_at hl 3 rfl) ?_
    refine lv_iload_n hx hb dX7_takeLine_3 rfl (lv_at hl 2 rfl) ?_
    refine lv_iload_n hx hb dX7_takeLine_4 rfl (lv_at hl 1 rfl) ?_
    refine lv_isub hx hb dX7_takeLine_5 ?_
    refine lv_icmp_ge (tgt := 29) hx hb dX7_takeLine_6 (by decide) (fun c2 => ?_) (fun c2 => ?_)
    · replace hw := hw.1 c2
      exact t_X7_takeLine_29 C0 t0 post hret  x1 x2 x3 S  hw _ _ _ hW (lv_sub hl [0, 1, 2, 3] rfl)
    · replace hw := hw.2 c2
      refine lv_aload_n hx hb dX7_takeLine_9 rfl (lv_at hl 0 rfl) ?_
      refine lv_iload_n hx hb dX7_takeLine_10 rfl (lv_at hl 2 rfl) ?_
      refine lv_iconst (v := 1) hx hb dX7_takeLine_11 (by decide) ?_
      refine lv_isub hx hb dX7_takeLine_12 ?_
      refine lv_iload_n hx hb dX7_takeLine_13 rfl (lv_at hl 3 rfl) ?_
      refine lv_isub hx hb dX7_takeLine_14 ?_
      obtain ⟨h4, hw⟩ := hw
      refine h_goi C0 hW (va_runV (As := [.int ((x2 - 1) - x3)]) (rest := []) ⟨hx, hb, hml, ho, hts⟩ (k_X7_tapeSign (l := l) (u := u) (X := X) (sz := H.size) _ t0 ((x2 - 1) - x3) S  hw) (cwV 1 hts gX7_takeLine_X7_tapeSign rfl rfl rfl (by decide +kernel) ⟨Nat.le_of_ble_eq_true rfl, Nat.le_of_ble_eq_true rfl⟩) ⟨h_blind, (h_recv C0 hW (ci := 8) rfl h4), (h_pre C0 hW [.ref t0, .int ((x2 - 1) - x3)])⟩ rfl rfl hl.1 rfl (lv_room (Nat.le_of_ble_eq_true rfl)) dX7_takeLine_15 ⟨Nat.le_refl _, Nat.le_refl _⟩) (fun r3 S5 H locs h6 hW => ?_)
      obtain ⟨h7, hp⟩ := h6
      rw [h7] at hW
      replace hw := hp
      refine lv_bipush (v := 92) hx hb dX7_takeLine_18 (by decide) ?_
      refine lv_icmp_ne (tgt := 29) hx hb dX7_takeLine_20 (by decide) (fun c8 => ?_) (fun c8 => ?_)
      · replace hw := hw.1 c8
        exact t_X7_takeLine_29 C0 t0 post hret  x1 x2 x3 S  hw _ _ _ hW (lv_sub hl [0, 1, 2, 3] rfl)
      · replace hw := hw.2 c8
        obtain ⟨v9, ev9⟩ : ∃ y : Int32, y = x3 + 1 := ⟨_, rfl⟩
        replace hw := hw v9 ev9
        refine lv_iinc (v := v9) (lv' := [(3, .int v9), (0, .ref t0), (1, .int x1), (2, .int x2)]) hx hb dX7_takeLine_23 hl (k := 3) rfl (by rw [ev9]; rfl) (by decide) rfl (fun ls hl9 => ?_)
        replace hl := hl9
        refine lv_goto (tgt := 2) hx hb dX7_takeLine_26 (by decide) ?_
        exact ih x1 x2 v9 S  hw _ _ _ hW (lv_sub hl [1, 2, 3, 0] rfl)
set_option maxHeartbeats 4000000 in
set_option maxRecDepth 100000 in
theorem t_X7_takeLine_0 (C0 : hX p s m args c cX7_takeLine 7 RX7 wsX7_takeLine D (gt u.2.1) A u.1 u.2.2) (t0 : Nat) (post : Int32 → hS → Prop) (hret : ∀ (r : Int32) (S' : hS) (pc : Nat) (lv : List (Nat × Value)) (k n : Nat), k ≤ 0 → n ≤ 0 → post r S' → narrow .boolean (.int r) = .int r → decode cX7_takeLine pc = .ok (.ireturn, 1) → gG p l e (rm_X7_takeLine) s m args below meth c Q D A 7 k n (hC X S') pc lv [.int r])  : ∀ (z1 : Int32) (z2 : Int32) (S : hS), w_X7_takeLine u post t0  z1 z2 S → gG p l e (rm_X7_takeLine) s m args below meth c Q D A 7 0 0 (hC X S) 0 [(0, .ref t0), (1, .int z1), (2, .int z2)] [] := by
  obtain ⟨⟨hx, hb, hml, ho, hts, hK, hA⟩, hR⟩ := id C0
  intro z1 z2 S hw H locs ls hW hl
  rw [w_X7_takeLine] at hw
  refine lv_iconst (v := 0) hx hb dX7_takeLine_0 (by decide) ?_
  refine lv_istore_n (lv' := [(3, .int 0), (0, .ref t0), (1, .int z1), (2, .int z2)]) hx hb dX7_takeLine_1 rfl hl (by decide) rfl (fun ls hl9 => ?_)
  replace hl := hl9
  obtain ⟨n1, hw⟩ := hw
  exact t_X7_takeLine_2 C0 t0 post hret  n1 z1 z2 0 S  hw _ _ _ hW (lv_sub hl [1, 2, 3, 0] rfl)
set_option maxHeartbeats 4000000 in
set_option maxRecDepth 100000 in
theorem k_X7_takeLine {l : Launch} {D : va_G} {u : hU} {X : va_W} {sz : Nat} (post : Int32 → hS → Prop) (t0 : Nat) (z1 : Int32) (z2 : Int32) (S : hS) (hw : w_X7_takeLine u post t0 z1 z2 S) : hMi l yX7_takeLine wsX7_takeLine rm_X7_takeLine D (gt u.2.1) u.1 u.2.2 sz X S [.ref t0, .int z1, .int z2] post 0 0 := by
  refine hMi_of (cc := cX7_takeLine) (nL := 7) (ty := .boolean) (own := RX7) (by decide) rfl rfl (Nat.le_of_ble_eq_true rfl) ?_
  intro p e s m args below meth c A Q C0 hin hret
  exact t_X7_takeLine_0 C0 t0 post hret z1 z2 S hw
abbrev rm_X7_readEntryLines : Room := { frames := 6, cells := 0, slots := 0, locals := 135 }
theorem in_X7_readEntryLines_RX7 : ∀ w ∈ wsX70, w ∈ wsX7_readEntryLines := fun w hw9 => List.mem_cons_of_mem _ (List.mem_append_left _ (List.mem_append_right _ hw9))
set_option maxHeartbeats 4000000 in
set_option maxRecDepth 100000 in
theorem t_X7_readEntryLines_36 (C0 : hX p s m args c cX7_readEntryLines 5 RX7 wsX7_readEntryLines D (gt u.2.1) A u.1 u.2.2) (t0 : Nat) (post : hS → Prop) (hret : ∀ (S' : hS) (pc : Nat) (lv : List (Nat × Value)) (k n : Nat), k ≤ 0 → n ≤ 0 → post S' → decode cX7_readEntryLines pc = .ok (.return_, 1) → gG p l e (rm_X7_readEntryLines) s m args below meth c Q D A 5 k n (hC X S') pc lv [])  : ∀ (x1 : Int32) (S : hS), w_X7_readEntryLines_36 u post t0  x1 S → gG p l e (rm_X7_readEntryLines) s m args below meth c Q D A 5 0 0 (hC X S) 36 [(0, .ref t0), (1, .int x1)] [] := by
  obtain ⟨⟨hx, hb, hml, ho, hts, hK, hA⟩, hR⟩ := id C0
  intro x1 S hw H locs ls hW hl
  rw [w_X7_readEntryLines_36] at hw
  refine lv_aload_n hx hb dX7_readEntryLines_36 rfl (lv_at hl 0 rfl) ?_
  refine lv_aload_n hx hb dX7_readEntryLines_37 rfl (lv_at hl 0 rfl) ?_
  refine lv_iload_n hx hb dX7_readEntryLines_38 rfl (lv_at hl 1 rfl) ?_
  obtain ⟨h25, hw⟩ := hw
  refine h_goi C0 hW (va_runV (As := [.int x1]) (rest := [.ref t0]) ⟨hx, hb, hml, ho, hts⟩ (k_X7_behindLineEnd (l := l) (u := u) (X := X) (sz := H.size) _ t0 x1 S  hw) (cwV 1 hts gX7_readEntryLines_X7_behindLineEnd rfl rfl rfl (by decide +kernel) ⟨Nat.le_of_ble_eq_true rfl, Nat.le_of_ble_eq_true rfl⟩) ⟨h_blind, (h_recv C0 hW (ci := 8) rfl h25), (h_pre C0 hW [.ref t0, .int x1])⟩ rfl rfl hl.1 rfl (lv_room (Nat.le_of_ble_eq_true rfl)) dX7_readEntryLines_39 ⟨Nat.le_refl _, Nat.le_refl _⟩) (fun r24 S26 H locs h27 hW => ?_)
  obtain ⟨h28, hp⟩ := h27
  rw [h28] at hW
  replace hw := hp
  obtain ⟨fs29, h30, h31, hw⟩ := hw
  refine h_put C0 hW (T := TX7) (kf := 4) (ty := .int) in_X7_readEntryLines_RX7 h30 rfl (by decide) h31 tyX7 tyX7_ok nmX7 (List.mem_of_getElem? (i := 1) rfl) rfl (Or.inl rfl) (by decide +kernel) rfl rfl dX7_readEntryLines_42 rfl (fun H locs hW => ?_)
  obtain ⟨S32, eS32⟩ : ∃ z : hS, z = upS S t0 (.inr (8, fs29.set 4 (.int r24))) := ⟨_, rfl⟩
  rw [← eS32] at hW
  replace hw := hw S32 eS32
  exact hret S32 _ _ 0 0 (Nat.le_refl _) (Nat.le_refl _) hw dX7_readEntryLines_45 _ _ _ hW hl
set_option maxHeartbeats 4000000 in
set_option maxRecDepth 100000 in
theorem t_X7_readEntryLines_65 (C0 : hX p s m args c cX7_readEntryLines 5 RX7 wsX7_readEntryLines D (gt u.2.1) A u.1 u.2.2) (t0 : Nat) (post : hS → Prop) (hret : ∀ (S' : hS) (pc : Nat) (lv : List (Nat × Value)) (k n : Nat), k ≤ 0 → n ≤ 0 → post S' → decode cX7_readEntryLines pc = .ok (.return_, 1) → gG p l e (rm_X7_readEntryLines) s m args below meth c Q D A 5 k n (hC X S') pc lv [])  : ∀ (nf : Nat) (x3 : Int32) (x4 : Int32) (S : hS), w_X7_readEntryLines_65 u post t0  nf x3 x4 S → gG p l e (rm_X7_readEntryLines) s m args below meth c Q D A 5 0 0 (hC X S) 65 [(0, .ref t0), (3, .int x3), (4, .int x4)] [] := by
  obtain ⟨⟨hx, hb, hml, ho, hts, hK, hA⟩, hR⟩ := id C0
  intro nf
  induction nf with
  | zero => intro x3 x4 S hw; exact hw.elim
  | succ nf ih =>
    intro x3 x4 S hw H locs ls hW hl
    rw [w_X7_readEntryLines_65] at hw
    refine lv_iload hx hb dX7_readEntryLines_65 (lv_at hl 2 rfl) ?_
    refine lv_sipush (v := 300) hx hb dX7_readEntryLines_67 (by decide) ?_
    refine lv_icmp_gt (tgt := 122) hx hb dX7_readEntryLines_70 (by decide) (fun c47 => ?_) (fun c47 => ?_)
    · replace hw := hw.1 c47
      exact hret S _ _ 0 0 (Nat.le_refl _) (Nat.le_refl _) hw dX7_readEntryLines_122 _ _ _ hW hl
    · replace hw := hw.2 c47
      refine lv_iload_n hx hb dX7_readEntryLines_73 rfl (lv_at hl 1 rfl) ?_
      refine lv_if_eq (tgt := 122) hx hb dX7_readEntryLines_74 (by decide) (fun c48 => ?_) (fun c48 => ?_)
      · replace hw := hw.1 c48
        exact hret S _ _ 0 0 (Nat.le_refl _) (Nat.le_refl _) hw dX7_readEntryLines_122 _ _ _ hW hl
      · replace hw := hw.2 c48
        refine lv_aload_n hx hb dX7_readEntryLines_77 rfl (lv_at hl 0 rfl) ?_
        obtain ⟨v49, h50, hw⟩ := hw
        refine h_getI C0 hW (T := TX7) (kf := 4) in_X7_readEntryLines_RX7 h50 rfl (by decide) (List.mem_of_getElem? (i := 1) rfl) rfl dX7_readEntryLines_78 ?_
        refine lv_aload_n hx hb dX7_readEntryLines_81 rfl (lv_at hl 0 rfl) ?_
        obtain ⟨o51, h52, hw⟩ := hw
        refine h_getR C0 hW (T := TX7) (kf := 0) in_X7_readEntryLines_RX7 h52 rfl (by decide) (List.mem_of_getElem? (i := 2) rfl) rfl dX7_readEntryLines_82 ?_
        obtain ⟨a53, rfl, hw⟩ := hw
        obtain ⟨h55, hw⟩ := hw
        refine h_goi C0 hW (va_runV (As := []) (rest := [.int v49]) ⟨hx, hb, hml, ho, hts⟩ (k_J4_length_8a (l := l) (u := u) (X := X) (sz := H.size) _ a53  S  hw) (cwV 0 hts gX7_readEntryLines_J4_length_8abf5 rfl rfl rfl (by decide +kernel) ⟨Nat.le_of_ble_eq_true rfl, Nat.le_of_ble_eq_true rfl⟩) ⟨h_blind, (h_recv C0 hW (ci := 1) rfl h55), (h_pre C0 hW [.ref a53])⟩ rfl rfl hl.1 rfl (lv_room (Nat.le_of_ble_eq_true rfl)) dX7_readEntryLines_85 ⟨Nat.le_refl _, Nat.le_refl _⟩) (fun r54 S56 H locs h57 hW => ?_)
        obtain ⟨h58, hp⟩ := h57
        rw [h58] at hW
        replace hw := hp
        refine lv_icmp_ge (tgt := 122) hx hb dX7_readEntryLines_88 (by decide) (fun c59 => ?_) (fun c59 => ?_)
        · replace hw := hw.1 c59
          exact hret S _ _ 0 0 (Nat.le_refl _) (Nat.le_refl _) hw dX7_readEntryLines_122 _ _ _ hW hl
        · replace hw := hw.2 c59
          refine lv_aload_n hx hb dX7_readEntryLines_91 rfl (lv_at hl 0 rfl) ?_
          obtain ⟨h61, hw⟩ := hw
          refine h_goi C0 hW (va_runV (As := []) (rest := []) ⟨hx, hb, hml, ho, hts⟩ (k_X7_lineEnd (l := l) (u := u) (X := X) (sz := H.size) _ t0  S  hw) (cwV 0 hts gX7_readEntryLines_X7_lineEnd rfl rfl rfl (by decide +kernel) ⟨Nat.le_of_ble_eq_true rfl, Nat.le_of_ble_eq_true rfl⟩) ⟨h_blind, (h_recv C0 hW (ci := 8) rfl h61), (h_pre C0 hW [.ref t0])⟩ rfl rfl hl.1 rfl (lv_room (Nat.le_of_ble_eq_true rfl)) dX7_readEntryLines_92 ⟨Nat.le_refl _, Nat.le_refl _⟩) (fun r60 S62 H locs h63 hW => ?_)
          obtain ⟨h64, hp⟩ := h63
          rw [h64] at hW
          replace hw := hp
          refine lv_istore_n (lv' := [(1, .int r60), (0, .ref t0), (3, .int x3), (4, .int x4)]) hx hb dX7_readEntryLines_95 rfl hl (by decide) rfl (fun ls hl9 => ?_)
          replace hl := hl9
          refine lv_aload_n hx hb dX7_readEntryLines_96 rfl (lv_at hl 1 rfl) ?_
          refine lv_aload_n hx hb dX7_readEntryLines_97 rfl (lv_at hl 1 rfl) ?_
          refine lv_iload_n hx hb dX7_readEntryLines_98 rfl (lv_at hl 0 rfl) ?_
          obtain ⟨h66, hw⟩ := hw
          refine h_goi C0 hW (va_runV (As := [.int r60]) (rest := [.ref t0]) ⟨hx, hb, hml, ho, hts⟩ (k_X7_skipBlanks (l := l) (u := u) (X := X) (sz := H.size) _ t0 r60 S  hw) (cwV 1 hts gX7_readEntryLines_X7_skipBlanks rfl rfl rfl (by decide +kernel) ⟨Nat.le_of_ble_eq_true rfl, Nat.le_of_ble_eq_true rfl⟩) ⟨h_blind, (h_recv C0 hW (ci := 8) rfl h66), (h_pre C0 hW [.ref t0, .int r60])⟩ rfl rfl hl.1 rfl (lv_room (Nat.le_of_ble_eq_true rfl)) dX7_readEntryLines_99 ⟨Nat.le_refl _, Nat.le_refl _⟩) (fun r65 S67 H locs h68 hW => ?_)
          obtain ⟨h69, hp⟩ := h68
          rw [h69] at hW
          replace hw := hp
          refine lv_iload_n hx hb dX7_readEntryLines_102 rfl (lv_at hl 0 rfl) ?_
          obtain ⟨h71, hw⟩ := hw
          refine h_goi C0 hW (va_runV (As := [.int r65, .int r60]) (rest := []) ⟨hx, hb, hml, ho, hts⟩ (k_X7_takeLine (l := l) (u := u) (X := X) (sz := H.size) _ t0 r65 r60 S  hw) (cwV 2 hts gX7_readEntryLines_X7_takeLine rfl rfl rfl (by decide +kernel) ⟨Nat.le_of_ble_eq_true rfl, Nat.le_of_ble_eq_true rfl⟩) ⟨h_blind, (h_recv C0 hW (ci := 8) rfl h71), (h_pre C0 hW [.ref t0, .int r65, .int r60])⟩ rfl rfl hl.1 rfl (lv_room (Nat.le_of_ble_eq_true rfl)) dX7_readEntryLines_103 ⟨Nat.le_refl _, Nat.le_refl _⟩) (fun r70 S72 H locs h73 hW => ?_)
          replace hw := h73
          refine lv_istore_n (lv' := [(3, .int r70), (1, .int r60), (0, .ref t0), (4, .int x4)]) hx hb dX7_readEntryLines_106 rfl hl (by decide) rfl (fun ls hl9 => ?_)
          replace hl := hl9
          refine lv_aload_n hx hb dX7_readEntryLines_107 rfl (lv_at hl 2 rfl) ?_
          refine lv_aload_n hx hb dX7_readEntryLines_108 rfl (lv_at hl 2 rfl) ?_
          refine lv_iload_n hx hb dX7_readEntryLines_109 rfl (lv_at hl 1 rfl) ?_
          obtain ⟨h75, hw⟩ := hw
          refine h_goi C0 hW (va_runV (As := [.int r60]) (rest := [.ref t0]) ⟨hx, hb, hml, ho, hts⟩ (k_X7_behindLineEnd (l := l) (u := u) (X := X) (sz := H.size) _ t0 r60 S72  hw) (cwV 1 hts gX7_readEntryLines_X7_behindLineEnd rfl rfl rfl (by decide +kernel) ⟨Nat.le_of_ble_eq_true rfl, Nat.le_of_ble_eq_true rfl⟩) ⟨h_blind, (h_recv C0 hW (ci := 8) rfl h75), (h_pre C0 hW [.ref t0, .int r60])⟩ rfl rfl hl.1 rfl (lv_room (Nat.le_of_ble_eq_true rfl)) dX7_readEntryLines_110 ⟨Nat.le_refl _, Nat.le_refl _⟩) (fun r74 S76 H locs h77 hW => ?_)
          obtain ⟨h78, hp⟩ := h77
          rw [h78] at hW
          replace hw := hp
          obtain ⟨fs79, h80, h81, hw⟩ := hw
          refine h_put C0 hW (T := TX7) (kf := 4) (ty := .int) in_X7_readEntryLines_RX7 h80 rfl (by decide) h81 tyX7 tyX7_ok nmX7 (List.mem_of_getElem? (i := 1) rfl) rfl (Or.inl rfl) (by decide +kernel) rfl rfl dX7_readEntryLines_113 rfl (fun H locs hW => ?_)
          obtain ⟨S82, eS82⟩ : ∃ z : hS, z = upS S72 t0 (.inr (8, fs79.set 4 (.int r74))) := ⟨_, rfl⟩
          rw [← eS82] at hW
          replace hw := hw S82 eS82
          obtain ⟨v83, ev83⟩ : ∃ y : Int32, y = x4 + 1 := ⟨_, rfl⟩
          replace hw := hw v83 ev83
          refine lv_iinc (v := v83) (lv' := [(4, .int v83), (3, .int r70), (1, .int r60), (0, .ref t0)]) hx hb dX7_readEntryLines_116 hl (k := 3) rfl (by rw [ev83]; rfl) (by decide) rfl (fun ls hl9 => ?_)
          replace hl := hl9
          refine lv_goto (tgt := 65) hx hb dX7_readEntryLines_119 (by decide) ?_
          exact ih r70 v83 S82  hw _ _ _ hW (lv_sub hl [3, 1, 0] rfl)
set_option maxHeartbeats 4000000 in
set_option maxRecDepth 100000 in
theorem t_X7_readEntryLines_46 (C0 : hX p s m args c cX7_readEntryLines 5 RX7 wsX7_readEntryLines D (gt u.2.1) A u.1 u.2.2) (t0 : Nat) (post : hS → Prop) (hret : ∀ (S' : hS) (pc : Nat) (lv : List (Nat × Value)) (k n : Nat), k ≤ 0 → n ≤ 0 → post S' → decode cX7_readEntryLines pc = .ok (.return_, 1) → gG p l e (rm_X7_readEntryLines) s m args below meth c Q D A 5 k n (hC X S') pc lv [])  : ∀ (x1 : Int32) (x2 : Int32) (S : hS), w_X7_readEntryLines_46 u post t0  x1 x2 S → gG p l e (rm_X7_readEntryLines) s m args below meth c Q D A 5 0 0 (hC X S) 46 [(0, .ref t0), (1, .int x1), (2, .int x2)] [] := by
  obtain ⟨⟨hx, hb, hml, ho, hts, hK, hA⟩, hR⟩ := id C0
  intro x1 x2 S hw H locs ls hW hl
  rw [w_X7_readEntryLines_46] at hw
  refine lv_aload_n hx hb dX7_readEntryLines_46 rfl (lv_at hl 0 rfl) ?_
  refine lv_iload_n hx hb dX7_readEntryLines_47 rfl (lv_at hl 2 rfl) ?_
  refine lv_iload_n hx hb dX7_readEntryLines_48 rfl (lv_at hl 1 rfl) ?_
  obtain ⟨h34, hw⟩ := hw
  refine h_goi C0 hW (va_runV (As := [.int x2, .int x1]) (rest := []) ⟨hx, hb, hml, ho, hts⟩ (k_X7_takeLine (l := l) (u := u) (X := X) (sz := H.size) _ t0 x2 x1 S  hw) (cwV 2 hts gX7_readEntryLines_X7_takeLine rfl rfl rfl (by decide +kernel) ⟨Nat.le_of_ble_eq_true rfl, Nat.le_of_ble_eq_true rfl⟩) ⟨h_blind, (h_recv C0 hW (ci := 8) rfl h34), (h_pre C0 hW [.ref t0, .int x2, .int x1])⟩ rfl rfl hl.1 rfl (lv_room (Nat.le_of_ble_eq_true rfl)) dX7_readEntryLines_49 ⟨Nat.le_refl _, Nat.le_refl _⟩) (fun r33 S35 H locs h36 hW => ?_)
  replace hw := h36
  refine lv_istore_n (lv' := [(3, .int r33), (0, .ref t0), (1, .int x1), (2, .int x2)]) hx hb dX7_readEntryLines_52 rfl hl (by decide) rfl (fun ls hl9 => ?_)
  replace hl := hl9
  refine lv_aload_n hx hb dX7_readEntryLines_53 rfl (lv_at hl 1 rfl) ?_
  refine lv_aload_n hx hb dX7_readEntryLines_54 rfl (lv_at hl 1 rfl) ?_
  refine lv_iload_n hx hb dX7_readEntryLines_55 rfl (lv_at hl 2 rfl) ?_
  obtain ⟨h38, hw⟩ := hw
  refine h_goi C0 hW (va_runV (As := [.int x1]) (rest := [.ref t0]) ⟨hx, hb, hml, ho, hts⟩ (k_X7_behindLineEnd (l := l) (u := u) (X := X) (sz := H.size) _ t0 x1 S35  hw) (cwV 1 hts gX7_readEntryLines_X7_behindLineEnd rfl rfl rfl (by decide +kernel) ⟨Nat.le_of_ble_eq_true rfl, Nat.le_of_ble_eq_true rfl⟩) ⟨h_blind, (h_recv C0 hW (ci := 8) rfl h38), (h_pre C0 hW [.ref t0, .int x1])⟩ rfl rfl hl.1 rfl (lv_room (Nat.le_of_ble_eq_true rfl)) dX7_readEntryLines_56 ⟨Nat.le_refl _, Nat.le_refl _⟩) (fun r37 S39 H locs h40 hW => ?_)
  obtain ⟨h41, hp⟩ := h40
  rw [h41] at hW
  replace hw := hp
  obtain ⟨fs42, h43, h44, hw⟩ := hw
  refine h_put C0 hW (T := TX7) (kf := 4) (ty := .int) in_X7_readEntryLines_RX7 h43 rfl (by decide) h44 tyX7 tyX7_ok nmX7 (List.mem_of_getElem? (i := 1) rfl) rfl (Or.inl rfl) (by decide +kernel) rfl rfl dX7_readEntryLines_59 rfl (fun H locs hW => ?_)
  obtain ⟨S45, eS45⟩ : ∃ z : hS, z = upS S35 t0 (.inr (8, fs42.set 4 (.int r37))) := ⟨_, rfl⟩
  rw [← eS45] at hW
  replace hw := hw S45 eS45
  refine lv_iconst (v := 0) hx hb dX7_readEntryLines_62 (by decide) ?_
  refine lv_istore (lv' := [(4, .int 0), (3, .int r33), (0, .ref t0), (1, .int x1), (2, .int x2)]) hx hb dX7_readEntryLines_63 hl (by decide) rfl (fun ls hl9 => ?_)
  replace hl := hl9
  obtain ⟨n46, hw⟩ := hw
  exact t_X7_readEntryLines_65 C0 t0 post hret  n46 r33 0 S45  hw _ _ _ hW (lv_sub hl [2, 1, 0] rfl)
set_option maxHeartbeats 4000000 in
set_option maxRecDepth 100000 in
theorem t_X7_readEntryLines_0 (C0 : hX p s m args c cX7_readEntryLines 5 RX7 wsX7_readEntryLines D (gt u.2.1) A u.1 u.2.2) (t0 : Nat) (post : hS → Prop) (hret : ∀ (S' : hS) (pc : Nat) (lv : List (Nat × Value)) (k n : Nat), k ≤ 0 → n ≤ 0 → post S' → decode cX7_readEntryLines pc = .ok (.return_, 1) → gG p l e (rm_X7_readEntryLines) s m args below meth c Q D A 5 k n (hC X S') pc lv [])  : ∀ (S : hS), w_X7_readEntryLines u post t0   S → gG p l e (rm_X7_readEntryLines) s m args below meth c Q D A 5 0 0 (hC X S) 0 [(0, .ref t0)] [] := by
  obtain ⟨⟨hx, hb, hml, ho, hts, hK, hA⟩, hR⟩ := id C0
  intro  S hw H locs ls hW hl
  rw [w_X7_readEntryLines] at hw
  refine lv_aload_n hx hb dX7_readEntryLines_0 rfl (lv_at hl 0 rfl) ?_
  obtain ⟨h2, hw⟩ := hw
  refine h_goi C0 hW (va_runV (As := []) (rest := []) ⟨hx, hb, hml, ho, hts⟩ (k_X7_lineEnd (l := l) (u := u) (X := X) (sz := H.size) _ t0  S  hw) (cwV 0 hts gX7_readEntryLines_X7_lineEnd rfl rfl rfl (by decide +kernel) ⟨Nat.le_of_ble_eq_true rfl, Nat.le_of_ble_eq_true rfl⟩) ⟨h_blind, (h_recv C0 hW (ci := 8) rfl h2), (h_pre C0 hW [.ref t0])⟩ rfl rfl hl.1 rfl (lv_room (Nat.le_of_ble_eq_true rfl)) dX7_readEntryLines_1 ⟨Nat.le_refl _, Nat.le_refl _⟩) (fun r1 S3 H locs h4 hW => ?_)
  obtain ⟨h5, hp⟩ := h4
  rw [h5] at hW
  replace hw := hp
  refine lv_istore_n (lv' := [(1, .int r1), (0, .ref t0)]) hx hb dX7_readEntryLines_4 rfl hl (by decide) rfl (fun ls hl9 => ?_)
  replace hl := hl9
  refine lv_aload_n hx hb dX7_readEntryLines_5 rfl (lv_at hl 1 rfl) ?_
  refine lv_iload_n hx hb dX7_readEntryLines_6 rfl (lv_at hl 0 rfl) ?_
  obtain ⟨h7, hw⟩ := hw
  refine h_goi C0 hW (va_runV (As := [.int r1]) (rest := []) ⟨hx, hb, hml, ho, hts⟩ (k_X7_skipBlanks (l := l) (u := u) (X := X) (sz := H.size) _ t0 r1 S  hw) (cwV 1 hts gX7_readEntryLines_X7_skipBlanks rfl rfl rfl (by decide +kernel) ⟨Nat.le_of_ble_eq_true rfl, Nat.le_of_ble_eq_true rfl⟩) ⟨h_blind, (h_recv C0 hW (ci := 8) rfl h7), (h_pre C0 hW [.ref t0, .int r1])⟩ rfl rfl hl.1 rfl (lv_room (Nat.le_of_ble_eq_true rfl)) dX7_readEntryLines_7 ⟨Nat.le_refl _, Nat.le_refl _⟩) (fun r6 S8 H locs h9 hW => ?_)
  obtain ⟨h10, hp⟩ := h9
  rw [h10] at hW
  replace hw := hp
  refine lv_istore_n (lv' := [(2, .int r6), (1, .int r1), (0, .ref t0)]) hx hb dX7_readEntryLines_10 rfl hl (by decide) rfl (fun ls hl9 => ?_)
  replace hl := hl9
  refine lv_iload_n hx hb dX7_readEntryLines_11 rfl (lv_at hl 0 rfl) ?_
  refine lv_iload_n hx hb dX7_readEntryLines_12 rfl (lv_at hl 1 rfl) ?_
  refine lv_icmp_ge (tgt := 46) hx hb dX7_readEntryLines_13 (by decide) (fun c11 => ?_) (fun c11 => ?_)
  · replace hw := hw.1 c11
    exact t_X7_readEntryLines_46 C0 t0 post hret  r1 r6 S  hw _ _ _ hW (lv_sub hl [2, 1, 0] rfl)
  · replace hw := hw.2 c11
    refine lv_aload_n hx hb dX7_readEntryLines_16 rfl (lv_at hl 2 rfl) ?_
    refine lv_iload_n hx hb dX7_readEntryLines_17 rfl (lv_at hl 0 rfl) ?_
    obtain ⟨h13, hw⟩ := hw
    refine h_goi C0 hW (va_runV (As := [.int r6]) (rest := []) ⟨hx, hb, hml, ho, hts⟩ (k_X7_tapeSign (l := l) (u := u) (X := X) (sz := H.size) _ t0 r6 S  hw) (cwV 1 hts gX7_readEntryLines_X7_tapeSign rfl rfl rfl (by decide +kernel) ⟨Nat.le_of_ble_eq_true rfl, Nat.le_of_ble_eq_true rfl⟩) ⟨h_blind, (h_recv C0 hW (ci := 8) rfl h13), (h_pre C0 hW [.ref t0, .int r6])⟩ rfl rfl hl.1 rfl (lv_room (Nat.le_of_ble_eq_true rfl)) dX7_readEntryLines_18 ⟨Nat.le_refl _, Nat.le_refl _⟩) (fun r12 S14 H locs h15 hW => ?_)
    obtain ⟨h16, hp⟩ := h15
    rw [h16] at hW
    replace hw := hp
    refine lv_bipush (v := 35) hx hb dX7_readEntryLines_21 (by decide) ?_
    refine lv_icmp_eq (tgt := 36) hx hb dX7_readEntryLines_23 (by decide) (fun c17 => ?_) (fun c17 => ?_)
    · replace hw := hw.1 c17
      exact t_X7_readEntryLines_36 C0 t0 post hret  r1 S  hw _ _ _ hW (lv_sub hl [2, 1] rfl)
    · replace hw := hw.2 c17
      refine lv_aload_n hx hb dX7_readEntryLines_26 rfl (lv_at hl 2 rfl) ?_
      refine lv_iload_n hx hb dX7_readEntryLines_27 rfl (lv_at hl 0 rfl) ?_
      obtain ⟨h19, hw⟩ := hw
      refine h_goi C0 hW (va_runV (As := [.int r6]) (rest := []) ⟨hx, hb, hml, ho, hts⟩ (k_X7_tapeSign (l := l) (u := u) (X := X) (sz := H.size) _ t0 r6 S  hw) (cwV 1 hts gX7_readEntryLines_X7_tapeSign rfl rfl rfl (by decide +kernel) ⟨Nat.le_of_ble_eq_true rfl, Nat.le_of_ble_eq_true rfl⟩) ⟨h_blind, (h_recv C0 hW (ci := 8) rfl h19), (h_pre C0 hW [.ref t0, .int r6])⟩ rfl rfl hl.1 rfl (lv_room (Nat.le_of_ble_eq_true rfl)) dX7_readEntryLines_28 ⟨Nat.le_refl _, Nat.le_refl _⟩) (fun r18 S20 H locs h21 hW => ?_)
      obtain ⟨h22, hp⟩ := h21
      rw [h22] at hW
      replace hw := hp
      refine lv_bipush (v := 33) hx hb dX7_readEntryLines_31 (by decide) ?_
      refine lv_icmp_ne (tgt := 46) hx hb dX7_readEntryLines_33 (by decide) (fun c23 => ?_) (fun c23 => ?_)
      · replace hw := hw.1 c23
        exact t_X7_readEntryLines_46 C0 t0 post hret  r1 r6 S  hw _ _ _ hW (lv_sub hl [2, 1, 0] rfl)
      · replace hw := hw.2 c23
        exact t_X7_readEntryLines_36 C0 t0 post hret  r1 S  hw _ _ _ hW (lv_sub hl [2, 1] rfl)
set_option maxHeartbeats 4000000 in
set_option maxRecDepth 100000 in
theorem k_X7_readEntryLines {l : Launch} {D : va_G} {u : hU} {X : va_W} {sz : Nat} (post : hS → Prop) (t0 : Nat) (S : hS) (hw : w_X7_readEntryLines u post t0  S) : hMv l yX7_readEntryLines wsX7_readEntryLines rm_X7_readEntryLines D (gt u.2.1) u.1 u.2.2 sz X S [.ref t0] post 0 0 := by
  refine hMv_of (cc := cX7_readEntryLines) (nL := 5) (own := RX7) (by decide) rfl rfl (Nat.le_of_ble_eq_true rfl) ?_
  intro p e s m args below meth c A Q C0 hin hret
  exact t_X7_readEntryLines_0 C0 t0 post hret  S hw
abbrev rm_X7_endsKey : Room := { frames := 1, cells := 0, slots := 0, locals := 20 }
set_option maxHeartbeats 4000000 in
set_option maxRecDepth 100000 in
theorem t_X7_endsKey_0 (C0 : hX p s m args c cX7_endsKey 1 RX7 wsX7_endsKey D (gt u.2.1) A u.1 u.2.2) {S : hS}  (post : Int32 → Prop) (hret : ∀ (r : Int32) (S' : hS) (pc : Nat) (lv : List (Nat × Value)) (k n : Nat), k ≤ 0 → n ≤ 0 → (S' = S ∧ post r) → narrow .boolean (.int r) = .int r → decode cX7_endsKey pc = .ok (.ireturn, 1) → gG p l e (rm_X7_endsKey) s m args below meth c Q D A 1 k n (hC X S') pc lv [.int r])  : ∀ (z1 : Int32), w_X7_endsKey u post   z1 S → gG p l e (rm_X7_endsKey) s m args below meth c Q D A 1 0 0 (hC X S) 0 [(0, .int z1)] [] := by
  obtain ⟨⟨hx, hb, hml, ho, hts, hK, hA⟩, hR⟩ := id C0
  intro z1 hw H locs ls hW hl
  rw [w_X7_endsKey] at hw
  refine lv_iload_n hx hb dX7_endsKey_0 rfl (lv_at hl 0 rfl) ?_
  refine lv_bipush (v := 61) hx hb dX7_endsKey_1 (by decide) ?_
  refine lv_icmp_eq (tgt := 19) hx hb dX7_endsKey_3 (by decide) (fun c1 => ?_) (fun c1 => ?_)
  · replace hw := hw.1 c1
    refine lv_iconst (v := 1) hx hb dX7_endsKey_19 (by decide) ?_
    refine lv_goto (tgt := 24) hx hb dX7_endsKey_20 (by decide) ?_
    exact hret 1 S _ _ 0 0 (Nat.le_refl _) (Nat.le_refl _) ⟨rfl, hw⟩ (by decide) dX7_endsKey_24 _ _ _ hW hl
  · replace hw := hw.2 c1
    refine lv_iload_n hx hb dX7_endsKey_6 rfl (lv_at hl 0 rfl) ?_
    refine lv_bipush (v := 58) hx hb dX7_endsKey_7 (by decide) ?_
    refine lv_icmp_eq (tgt := 19) hx hb dX7_endsKey_9 (by decide) (fun c2 => ?_) (fun c2 => ?_)
    · replace hw := hw.1 c2
      refine lv_iconst (v := 1) hx hb dX7_endsKey_19 (by decide) ?_
      refine lv_goto (tgt := 24) hx hb dX7_endsKey_20 (by decide) ?_
      exact hret 1 S _ _ 0 0 (Nat.le_refl _) (Nat.le_refl _) ⟨rfl, hw⟩ (by decide) dX7_endsKey_24 _ _ _ hW hl
    · replace hw := hw.2 c2
      refine lv_iload_n hx hb dX7_endsKey_12 rfl (lv_at hl 0 rfl) ?_
      refine g_callsN (As := [.int z1]) (rest := []) (host := RX9) ⟨hx, hb, hml, ho, hts⟩ hl.1 (k_X9_isBlank (l := l) _ z1 hw) ⟨va_cnB 1 hts gX7_endsKey_X9_isBlank_n73 rfl rfl rfl (C0.2.2.2.2 _ (by decide +kernel)) (hts _ (List.mem_of_getElem? (i := 2) rfl)) (by decide +kernel) ⟨Nat.le_of_ble_eq_true rfl, Nat.le_of_ble_eq_true rfl⟩, hts _ (List.mem_of_getElem? (i := 1) rfl), trivial⟩ (Nat.le_of_ble_eq_true rfl) dX7_endsKey_13 rfl ⟨Nat.le_refl _, Nat.le_refl _⟩ (fun r3 hp => ?_)
      replace hw := hp
      refine lv_if_eq (tgt := 23) hx hb dX7_endsKey_16 (by decide) (fun c4 => ?_) (fun c4 => ?_)
      · replace hw := hw.1 c4
        refine lv_iconst (v := 0) hx hb dX7_endsKey_23 (by decide) ?_
        exact hret 0 S _ _ 0 0 (Nat.le_refl _) (Nat.le_refl _) ⟨rfl, hw⟩ (by decide) dX7_endsKey_24 _ _ _ hW hl
      · replace hw := hw.2 c4
        refine lv_iconst (v := 1) hx hb dX7_endsKey_19 (by decide) ?_
        refine lv_goto (tgt := 24) hx hb dX7_endsKey_20 (by decide) ?_
        exact hret 1 S _ _ 0 0 (Nat.le_refl _) (Nat.le_refl _) ⟨rfl, hw⟩ (by decide) dX7_endsKey_24 _ _ _ hW hl
set_option maxHeartbeats 4000000 in
set_option maxRecDepth 100000 in
theorem k_X7_endsKey {l : Launch} {D : va_G} {u : hU} {X : va_W} {sz : Nat} (post : Int32 → Prop) (z1 : Int32) (S : hS) (hw : w_X7_endsKey u post  z1 S) : hMi l yX7_endsKey wsX7_endsKey rm_X7_endsKey D (gt u.2.1) u.1 u.2.2 sz X S [.int z1] (fun r S' => S' = S ∧ post r) 0 0 := by
  refine hMi_of (cc := cX7_endsKey) (nL := 1) (ty := .boolean) (own := RX7) (by decide) rfl rfl (Nat.le_of_ble_eq_true rfl) ?_
  intro p e s m args below meth c A Q C0 hin hret
  exact t_X7_endsKey_0 C0  post hret z1 hw
abbrev rm_X7_tapePlace : Room := { frames := 0, cells := 0, slots := 0, locals := 0 }
theorem in_X7_tapePlace_RX7 : ∀ w ∈ wsX70, w ∈ wsX7_tapePlace := fun w hw9 => List.mem_cons_of_mem _ (List.mem_append_right _ hw9)
set_option maxHeartbeats 4000000 in
set_option maxRecDepth 100000 in
theorem t_X7_tapePlace_0 (C0 : hX p s m args c cX7_tapePlace 2 RX7 wsX7_tapePlace D (gt u.2.1) A u.1 u.2.2) {S : hS} (t0 : Nat) (post : Int32 → Prop) (hret : ∀ (r : Int32) (S' : hS) (pc : Nat) (lv : List (Nat × Value)) (k n : Nat), k ≤ 0 → n ≤ 0 → (S' = S ∧ post r) → narrow .int (.int r) = .int r → decode cX7_tapePlace pc = .ok (.ireturn, 1) → gG p l e (rm_X7_tapePlace) s m args below meth c Q D A 2 k n (hC X S') pc lv [.int r])  : ∀ (z1 : Int32), w_X7_tapePlace u post t0  z1 S → gG p l e (rm_X7_tapePlace) s m args below meth c Q D A 2 0 0 (hC X S) 0 [(0, .ref t0), (1, .int z1)] [] := by
  obtain ⟨⟨hx, hb, hml, ho, hts, hK, hA⟩, hR⟩ := id C0
  intro z1 hw H locs ls hW hl
  rw [w_X7_tapePlace] at hw
  refine lv_iload_n hx hb dX7_tapePlace_0 rfl (lv_at hl 1 rfl) ?_
  refine lv_if_lt (tgt := 28) hx hb dX7_tapePlace_1 (by decide) (fun c1 => ?_) (fun c1 => ?_)
  · replace hw := hw.1 c1
    refine lv_bipush (v := (-5)) hx hb dX7_tapePlace_28 (by decide) ?_
    exact hret (-5) S _ _ 0 0 (Nat.le_refl _) (Nat.le_refl _) ⟨rfl, hw⟩ rfl dX7_tapePlace_30 _ _ _ hW hl
  · replace hw := hw.2 c1
    refine lv_iload_n hx hb dX7_tapePlace_4 rfl (lv_at hl 1 rfl) ?_
    refine lv_aload_n hx hb dX7_tapePlace_5 rfl (lv_at hl 0 rfl) ?_
    obtain ⟨v2, h3, hw⟩ := hw
    refine h_getI C0 hW (T := TX7) (kf := 3) in_X7_tapePlace_RX7 h3 rfl (by decide) (List.mem_of_getElem? (i := 1) rfl) rfl dX7_tapePlace_6 ?_
    refine lv_icmp_ge (tgt := 28) hx hb dX7_tapePlace_9 (by decide) (fun c4 => ?_) (fun c4 => ?_)
    · replace hw := hw.1 c4
      refine lv_bipush (v := (-5)) hx hb dX7_tapePlace_28 (by decide) ?_
      exact hret (-5) S _ _ 0 0 (Nat.le_refl _) (Nat.le_refl _) ⟨rfl, hw⟩ rfl dX7_tapePlace_30 _ _ _ hW hl
    · replace hw := hw.2 c4
      refine lv_iload_n hx hb dX7_tapePlace_12 rfl (lv_at hl 1 rfl) ?_
      refine lv_sipush (v := 300) hx hb dX7_tapePlace_13 (by decide) ?_
      refine lv_icmp_ge (tgt := 28) hx hb dX7_tapePlace_16 (by decide) (fun c5 => ?_) (fun c5 => ?_)
      · replace hw := hw.1 c5
        refine lv_bipush (v := (-5)) hx hb dX7_tapePlace_28 (by decide) ?_
        exact hret (-5) S _ _ 0 0 (Nat.le_refl _) (Nat.le_refl _) ⟨rfl, hw⟩ rfl dX7_tapePlace_30 _ _ _ hW hl
      · replace hw := hw.2 c5
        refine lv_aload_n hx hb dX7_tapePlace_19 rfl (lv_at hl 0 rfl) ?_
        obtain ⟨o6, h7, hw⟩ := hw
        refine h_getR C0 hW (T := TX7) (kf := 1) in_X7_tapePlace_RX7 h7 rfl (by decide) (List.mem_of_getElem? (i := 2) rfl) rfl dX7_tapePlace_20 ?_
        refine lv_iload_n hx hb dX7_tapePlace_23 rfl (lv_at hl 1 rfl) ?_
        obtain ⟨a8, rfl, hw⟩ := hw
        obtain ⟨N9, g10, h11, h12, hw⟩ := hw
        refine h_iald C0 hW h11 rfl h12 dX7_tapePlace_24 ?_
        refine lv_goto (tgt := 30) hx hb dX7_tapePlace_25 (by decide) ?_
        exact hret (g10 (z1 : Int32).toNatClampNeg) S _ _ 0 0 (Nat.le_refl _) (Nat.le_refl _) ⟨rfl, hw⟩ rfl dX7_tapePlace_30 _ _ _ hW hl
set_option maxHeartbeats 4000000 in
set_option maxRecDepth 100000 in
theorem k_X7_tapePlace {l : Launch} {D : va_G} {u : hU} {X : va_W} {sz : Nat} (post : Int32 → Prop) (t0 : Nat) (z1 : Int32) (S : hS) (hw : w_X7_tapePlace u post t0 z1 S) : hMi l yX7_tapePlace wsX7_tapePlace rm_X7_tapePlace D (gt u.2.1) u.1 u.2.2 sz X S [.ref t0, .int z1] (fun r S' => S' = S ∧ post r) 0 0 := by
  refine hMi_of (cc := cX7_tapePlace) (nL := 2) (ty := .int) (own := RX7) (by decide) rfl rfl (Nat.le_of_ble_eq_true rfl) ?_
  intro p e s m args below meth c A Q C0 hin hret
  exact t_X7_tapePlace_0 C0 t0 post hret z1 hw
abbrev rm_X7_entrySign : Room := { frames := 5, cells := 0, slots := 0, locals := 109 }
set_option maxHeartbeats 4000000 in
set_option maxRecDepth 100000 in
theorem t_X7_entrySign_0 (C0 : hX p s m args c cX7_entrySign 2 RX7 wsX7_entrySign D (gt u.2.1) A u.1 u.2.2) {S : hS} (t0 : Nat) (post : Int32 → Prop) (hret : ∀ (r : Int32) (S' : hS) (pc : Nat) (lv : List (Nat × Value)) (k n : Nat), k ≤ 0 → n ≤ 0 → (S' = S ∧ post r) → narrow .int (.int r) = .int r → decode cX7_entrySign pc = .ok (.ireturn, 1) → gG p l e (rm_X7_entrySign) s m args below meth c Q D A 2 k n (hC X S') pc lv [.int r])  : ∀ (z1 : Int32), w_X7_entrySign u post t0  z1 S → gG p l e (rm_X7_entrySign) s m args below meth c Q D A 2 0 0 (hC X S) 0 [(0, .ref t0), (1, .int z1)] [] := by
  obtain ⟨⟨hx, hb, hml, ho, hts, hK, hA⟩, hR⟩ := id C0
  intro z1 hw H locs ls hW hl
  rw [w_X7_entrySign] at hw
  refine lv_aload_n hx hb dX7_entrySign_0 rfl (lv_at hl 0 rfl) ?_
  refine lv_aload_n hx hb dX7_entrySign_1 rfl (lv_at hl 0 rfl) ?_
  refine lv_iload_n hx hb dX7_entrySign_2 rfl (lv_at hl 1 rfl) ?_
  obtain ⟨h2, hw⟩ := hw
  refine h_goi C0 hW (va_runV (As := [.int z1]) (rest := [.ref t0]) ⟨hx, hb, hml, ho, hts⟩ (k_X7_tapePlace (l := l) (u := u) (X := X) (sz := H.size) _ t0 z1 S  hw) (cwV 1 hts gX7_entrySign_X7_tapePlace rfl rfl rfl (by decide +kernel) ⟨Nat.le_of_ble_eq_true rfl, Nat.le_of_ble_eq_true rfl⟩) ⟨h_blind, (h_recv C0 hW (ci := 8) rfl h2), (h_pre C0 hW [.ref t0, .int z1])⟩ rfl rfl hl.1 rfl (lv_room (Nat.le_of_ble_eq_true rfl)) dX7_entrySign_3 ⟨Nat.le_refl _, Nat.le_refl _⟩) (fun r1 S3 H locs h4 hW => ?_)
  obtain ⟨h5, hp⟩ := h4
  rw [h5] at hW
  replace hw := hp
  obtain ⟨h7, hw⟩ := hw
  refine h_goi C0 hW (va_runV (As := [.int r1]) (rest := []) ⟨hx, hb, hml, ho, hts⟩ (k_X7_tapeSign (l := l) (u := u) (X := X) (sz := H.size) _ t0 r1 S  hw) (cwV 1 hts gX7_entrySign_X7_tapeSign rfl rfl rfl (by decide +kernel) ⟨Nat.le_of_ble_eq_true rfl, Nat.le_of_ble_eq_true rfl⟩) ⟨h_blind, (h_recv C0 hW (ci := 8) rfl h7), (h_pre C0 hW [.ref t0, .int r1])⟩ rfl rfl hl.1 rfl (lv_room (Nat.le_of_ble_eq_true rfl)) dX7_entrySign_6 ⟨Nat.le_refl _, Nat.le_refl _⟩) (fun r6 S8 H locs h9 hW => ?_)
  obtain ⟨h10, hp⟩ := h9
  rw [h10] at hW
  replace hw := hp
  exact hret r6 S _ _ 0 0 (Nat.le_refl _) (Nat.le_refl _) ⟨rfl, hw⟩ rfl dX7_entrySign_9 _ _ _ hW hl
set_option maxHeartbeats 4000000 in
set_option maxRecDepth 100000 in
theorem k_X7_entrySign {l : Launch} {D : va_G} {u : hU} {X : va_W} {sz : Nat} (post : Int32 → Prop) (t0 : Nat) (z1 : Int32) (S : hS) (hw : w_X7_entrySign u post t0 z1 S) : hMi l yX7_entrySign wsX7_entrySign rm_X7_entrySign D (gt u.2.1) u.1 u.2.2 sz X S [.ref t0, .int z1] (fun r S' => S' = S ∧ post r) 0 0 := by
  refine hMi_of (cc := cX7_entrySign) (nL := 2) (ty := .int) (own := RX7) (by decide) rfl rfl (Nat.le_of_ble_eq_true rfl) ?_
  intro p e s m args below meth c A Q C0 hin hret
  exact t_X7_entrySign_0 C0 t0 post hret z1 hw
abbrev rm_X7_skipEntryBlanks : Room := { frames := 6, cells := 0, slots := 0, locals := 130 }
theorem in_X7_skipEntryBlanks_RX7 : ∀ w ∈ wsX70, w ∈ wsX7_skipEntryBlanks := fun w hw9 => List.mem_cons_of_mem _ (List.mem_append_left _ (List.mem_append_right _ hw9))
set_option maxHeartbeats 4000000 in
set_option maxRecDepth 100000 in
theorem t_X7_skipEntryBlanks_2 (C0 : hX p s m args c cX7_skipEntryBlanks 3 RX7 wsX7_skipEntryBlanks D (gt u.2.1) A u.1 u.2.2) {S : hS} (t0 : Nat) (post : Int32 → Prop) (hret : ∀ (r : Int32) (S' : hS) (pc : Nat) (lv : List (Nat × Value)) (k n : Nat), k ≤ 0 → n ≤ 0 → (S' = S ∧ post r) → narrow .int (.int r) = .int r → decode cX7_skipEntryBlanks pc = .ok (.ireturn, 1) → gG p l e (rm_X7_skipEntryBlanks) s m args below meth c Q D A 3 k n (hC X S') pc lv [.int r])  : ∀ (nf : Nat) (x2 : Int32), w_X7_skipEntryBlanks_2 u post t0  nf x2 S → gG p l e (rm_X7_skipEntryBlanks) s m args below meth c Q D A 3 0 0 (hC X S) 2 [(0, .ref t0), (2, .int x2)] [] := by
  obtain ⟨⟨hx, hb, hml, ho, hts, hK, hA⟩, hR⟩ := id C0
  intro nf
  induction nf with
  | zero => intro x2 hw; exact hw.elim
  | succ nf ih =>
    intro x2 hw H locs ls hW hl
    rw [w_X7_skipEntryBlanks_2] at hw
    refine lv_iload_n hx hb dX7_skipEntryBlanks_2 rfl (lv_at hl 1 rfl) ?_
    refine lv_aload_n hx hb dX7_skipEntryBlanks_3 rfl (lv_at hl 0 rfl) ?_
    obtain ⟨v2, h3, hw⟩ := hw
    refine h_getI C0 hW (T := TX7) (kf := 3) in_X7_skipEntryBlanks_RX7 h3 rfl (by decide) (List.mem_of_getElem? (i := 1) rfl) rfl dX7_skipEntryBlanks_4 ?_
    refine lv_icmp_ge (tgt := 27) hx hb dX7_skipEntryBlanks_7 (by decide) (fun c4 => ?_) (fun c4 => ?_)
    · replace hw := hw.1 c4
      refine lv_iload_n hx hb dX7_skipEntryBlanks_27 rfl (lv_at hl 1 rfl) ?_
      exact hret x2 S _ _ 0 0 (Nat.le_refl _) (Nat.le_refl _) ⟨rfl, hw⟩ rfl dX7_skipEntryBlanks_28 _ _ _ hW hl
    · replace hw := hw.2 c4
      refine lv_aload_n hx hb dX7_skipEntryBlanks_10 rfl (lv_at hl 0 rfl) ?_
      refine lv_iload_n hx hb dX7_skipEntryBlanks_11 rfl (lv_at hl 1 rfl) ?_
      obtain ⟨h6, hw⟩ := hw
      refine h_goi C0 hW (va_runV (As := [.int x2]) (rest := []) ⟨hx, hb, hml, ho, hts⟩ (k_X7_entrySign (l := l) (u := u) (X := X) (sz := H.size) _ t0 x2 S  hw) (cwV 1 hts gX7_skipEntryBlanks_X7_entrySign rfl rfl rfl (by decide +kernel) ⟨Nat.le_of_ble_eq_true rfl, Nat.le_of_ble_eq_true rfl⟩) ⟨h_blind, (h_recv C0 hW (ci := 8) rfl h6), (h_pre C0 hW [.ref t0, .int x2])⟩ rfl rfl hl.1 rfl (lv_room (Nat.le_of_ble_eq_true rfl)) dX7_skipEntryBlanks_12 ⟨Nat.le_refl _, Nat.le_refl _⟩) (fun r5 S7 H locs h8 hW => ?_)
      obtain ⟨h9, hp⟩ := h8
      rw [h9] at hW
      replace hw := hp
      refine g_callsN (As := [.int r5]) (rest := []) (host := RX9) ⟨hx, hb, hml, ho, hts⟩ hl.1 (k_X9_isBlank (l := l) _ r5 hw) ⟨va_cnB 1 hts gX7_skipEntryBlanks_X9_isBlank_n73 rfl rfl rfl (C0.2.2.2.2 _ (by decide +kernel)) (hts _ (List.mem_of_getElem? (i := 63) rfl)) (by decide +kernel) ⟨Nat.le_of_ble_eq_true rfl, Nat.le_of_ble_eq_true rfl⟩, hts _ (List.mem_of_getElem? (i := 62) rfl), trivial⟩ (Nat.le_of_ble_eq_true rfl) dX7_skipEntryBlanks_15 rfl ⟨Nat.le_refl _, Nat.le_refl _⟩ (fun r10 hp => ?_)
      replace hw := hp
      refine lv_if_eq (tgt := 27) hx hb dX7_skipEntryBlanks_18 (by decide) (fun c11 => ?_) (fun c11 => ?_)
      · replace hw := hw.1 c11
        refine lv_iload_n hx hb dX7_skipEntryBlanks_27 rfl (lv_at hl 1 rfl) ?_
        exact hret x2 S _ _ 0 0 (Nat.le_refl _) (Nat.le_refl _) ⟨rfl, hw⟩ rfl dX7_skipEntryBlanks_28 _ _ _ hW hl
      · replace hw := hw.2 c11
        obtain ⟨v12, ev12⟩ : ∃ y : Int32, y = x2 + 1 := ⟨_, rfl⟩
        replace hw := hw v12 ev12
        refine lv_iinc (v := v12) (lv' := [(2, .int v12), (0, .ref t0)]) hx hb dX7_skipEntryBlanks_21 hl (k := 1) rfl (by rw [ev12]; rfl) (by decide) rfl (fun ls hl9 => ?_)
        replace hl := hl9
        refine lv_goto (tgt := 2) hx hb dX7_skipEntryBlanks_24 (by decide) ?_
        exact ih v12   hw _ _ _ hW (lv_sub hl [1, 0] rfl)
set_option maxHeartbeats 4000000 in
set_option maxRecDepth 100000 in
theorem t_X7_skipEntryBlanks_0 (C0 : hX p s m args c cX7_skipEntryBlanks 3 RX7 wsX7_skipEntryBlanks D (gt u.2.1) A u.1 u.2.2) {S : hS} (t0 : Nat) (post : Int32 → Prop) (hret : ∀ (r : Int32) (S' : hS) (pc : Nat) (lv : List (Nat × Value)) (k n : Nat), k ≤ 0 → n ≤ 0 → (S' = S ∧ post r) → narrow .int (.int r) = .int r → decode cX7_skipEntryBlanks pc = .ok (.ireturn, 1) → gG p l e (rm_X7_skipEntryBlanks) s m args below meth c Q D A 3 k n (hC X S') pc lv [.int r])  : ∀ (z1 : Int32), w_X7_skipEntryBlanks u post t0  z1 S → gG p l e (rm_X7_skipEntryBlanks) s m args below meth c Q D A 3 0 0 (hC X S) 0 [(0, .ref t0), (1, .int z1)] [] := by
  obtain ⟨⟨hx, hb, hml, ho, hts, hK, hA⟩, hR⟩ := id C0
  intro z1 hw H locs ls hW hl
  rw [w_X7_skipEntryBlanks] at hw
  refine lv_iload_n hx hb dX7_skipEntryBlanks_0 rfl (lv_at hl 1 rfl) ?_
  refine lv_istore_n (lv' := [(2, .int z1), (0, .ref t0), (1, .int z1)]) hx hb dX7_skipEntryBlanks_1 rfl hl (by decide) rfl (fun ls hl9 => ?_)
  replace hl := hl9
  obtain ⟨n1, hw⟩ := hw
  exact t_X7_skipEntryBlanks_2 C0 t0 post hret  n1 z1   hw _ _ _ hW (lv_sub hl [1, 0] rfl)
set_option maxHeartbeats 4000000 in
set_option maxRecDepth 100000 in
theorem k_X7_skipEntryBlanks {l : Launch} {D : va_G} {u : hU} {X : va_W} {sz : Nat} (post : Int32 → Prop) (t0 : Nat) (z1 : Int32) (S : hS) (hw : w_X7_skipEntryBlanks u post t0 z1 S) : hMi l yX7_skipEntryBlanks wsX7_skipEntryBlanks rm_X7_skipEntryBlanks D (gt u.2.1) u.1 u.2.2 sz X S [.ref t0, .int z1] (fun r S' => S' = S ∧ post r) 0 0 := by
  refine hMi_of (cc := cX7_skipEntryBlanks) (nL := 3) (ty := .int) (own := RX7) (by decide) rfl rfl (Nat.le_of_ble_eq_true rfl) ?_
  intro p e s m args below meth c A Q C0 hin hret
  exact t_X7_skipEntryBlanks_0 C0 t0 post hret z1 hw
abbrev rm_X7_splitEntry : Room := { frames := 7, cells := 0, slots := 0, locals := 152 }
theorem in_X7_splitEntry_RX7 : ∀ w ∈ wsX70, w ∈ wsX7_splitEntry := fun w hw9 => List.mem_cons_of_mem _ (List.mem_append_left _ (List.mem_append_right _ hw9))
set_option maxHeartbeats 4000000 in
set_option maxRecDepth 100000 in
theorem t_X7_splitEntry_83 (C0 : hX p s m args c cX7_splitEntry 2 RX7 wsX7_splitEntry D (gt u.2.1) A u.1 u.2.2) (t0 : Nat) (post : hS → Prop) (hret : ∀ (S' : hS) (pc : Nat) (lv : List (Nat × Value)) (k n : Nat), k ≤ 0 → n ≤ 0 → post S' → decode cX7_splitEntry pc = .ok (.return_, 1) → gG p l e (rm_X7_splitEntry) s m args below meth c Q D A 2 k n (hC X S') pc lv [])  : ∀ (x1 : Int32) (S : hS), w_X7_splitEntry_83 u post t0  x1 S → gG p l e (rm_X7_splitEntry) s m args below meth c Q D A 2 0 0 (hC X S) 83 [(0, .ref t0), (1, .int x1)] [] := by
  obtain ⟨⟨hx, hb, hml, ho, hts, hK, hA⟩, hR⟩ := id C0
  intro x1 S hw H locs ls hW hl
  rw [w_X7_splitEntry_83] at hw
  refine lv_aload_n hx hb dX7_splitEntry_83 rfl (lv_at hl 0 rfl) ?_
  refine lv_iload_n hx hb dX7_splitEntry_84 rfl (lv_at hl 1 rfl) ?_
  refine lv_iconst (v := 1) hx hb dX7_splitEntry_85 (by decide) ?_
  refine lv_iadd hx hb dX7_splitEntry_86 ?_
  obtain ⟨h53, hw⟩ := hw
  refine h_goi C0 hW (va_runV (As := [.int (x1 + 1)]) (rest := []) ⟨hx, hb, hml, ho, hts⟩ (k_X7_skipEntryBlanks (l := l) (u := u) (X := X) (sz := H.size) _ t0 (x1 + 1) S  hw) (cwV 1 hts gX7_splitEntry_X7_skipEntryBlanks rfl rfl rfl (by decide +kernel) ⟨Nat.le_of_ble_eq_true rfl, Nat.le_of_ble_eq_true rfl⟩) ⟨h_blind, (h_recv C0 hW (ci := 8) rfl h53), (h_pre C0 hW [.ref t0, .int (x1 + 1)])⟩ rfl rfl hl.1 rfl (lv_room (Nat.le_of_ble_eq_true rfl)) dX7_splitEntry_87 ⟨Nat.le_refl _, Nat.le_refl _⟩) (fun r52 S54 H locs h55 hW => ?_)
  obtain ⟨h56, hp⟩ := h55
  rw [h56] at hW
  replace hw := hp
  refine lv_istore_n (lv' := [(1, .int r52), (0, .ref t0)]) hx hb dX7_splitEntry_90 rfl hl (by decide) rfl (fun ls hl9 => ?_)
  replace hl := hl9
  refine lv_aload_n hx hb dX7_splitEntry_91 rfl (lv_at hl 1 rfl) ?_
  refine lv_iload_n hx hb dX7_splitEntry_92 rfl (lv_at hl 0 rfl) ?_
  obtain ⟨fs57, h58, h59, hw⟩ := hw
  refine h_put C0 hW (T := TX7) (kf := 6) (ty := .int) in_X7_splitEntry_RX7 h58 rfl (by decide) h59 tyX7 tyX7_ok nmX7 (List.mem_of_getElem? (i := 7) rfl) rfl (Or.inl rfl) (by decide +kernel) rfl rfl dX7_splitEntry_93 rfl (fun H locs hW => ?_)
  obtain ⟨S60, eS60⟩ : ∃ z : hS, z = upS S t0 (.inr (8, fs57.set 6 (.int r52))) := ⟨_, rfl⟩
  rw [← eS60] at hW
  replace hw := hw S60 eS60
  exact hret S60 _ _ 0 0 (Nat.le_refl _) (Nat.le_refl _) hw dX7_splitEntry_96 _ _ _ hW hl
set_option maxHeartbeats 4000000 in
set_option maxRecDepth 100000 in
theorem t_X7_splitEntry_42 (C0 : hX p s m args c cX7_splitEntry 2 RX7 wsX7_splitEntry D (gt u.2.1) A u.1 u.2.2) (t0 : Nat) (post : hS → Prop) (hret : ∀ (S' : hS) (pc : Nat) (lv : List (Nat × Value)) (k n : Nat), k ≤ 0 → n ≤ 0 → post S' → decode cX7_splitEntry pc = .ok (.return_, 1) → gG p l e (rm_X7_splitEntry) s m args below meth c Q D A 2 k n (hC X S') pc lv [])  : ∀ (x1 : Int32) (S : hS), w_X7_splitEntry_42 u post t0  x1 S → gG p l e (rm_X7_splitEntry) s m args below meth c Q D A 2 0 0 (hC X S) 42 [(0, .ref t0), (1, .int x1)] [] := by
  obtain ⟨⟨hx, hb, hml, ho, hts, hK, hA⟩, hR⟩ := id C0
  intro x1 S hw H locs ls hW hl
  rw [w_X7_splitEntry_42] at hw
  refine lv_aload_n hx hb dX7_splitEntry_42 rfl (lv_at hl 0 rfl) ?_
  refine lv_iload_n hx hb dX7_splitEntry_43 rfl (lv_at hl 1 rfl) ?_
  refine lv_aload_n hx hb dX7_splitEntry_44 rfl (lv_at hl 0 rfl) ?_
  obtain ⟨v23, h24, hw⟩ := hw
  refine h_getI C0 hW (T := TX7) (kf := 3) in_X7_splitEntry_RX7 h24 rfl (by decide) (List.mem_of_getElem? (i := 1) rfl) rfl dX7_splitEntry_45 ?_
  refine va_mmin hx hb (hml.trans hl.1.symm) ho (hts (.methodLink RX7 83 Lib.Math.min.name) (List.mem_of_getElem? (i := 2) rfl)) (hts _ (List.mem_of_getElem? (i := 3) rfl)) (hts _ (List.mem_of_getElem? (i := 4) rfl)) (hts _ (List.mem_of_getElem? (i := 5) rfl)) (Nat.le_of_ble_eq_true rfl) (Nat.le_of_ble_eq_true rfl) (Nat.zero_le _) (Nat.zero_le _) dX7_splitEntry_48 ?_
  obtain ⟨fs25, h26, h27, hw⟩ := hw
  refine h_put C0 hW (T := TX7) (kf := 5) (ty := .int) in_X7_splitEntry_RX7 h26 rfl (by decide) h27 tyX7 tyX7_ok nmX7 (List.mem_of_getElem? (i := 6) rfl) rfl (Or.inl rfl) (by decide +kernel) rfl rfl dX7_splitEntry_51 rfl (fun H locs hW => ?_)
  obtain ⟨S28, eS28⟩ : ∃ z : hS, z = upS S t0 (.inr (8, fs25.set 5 (.int (if v23 < x1 then v23 else x1)))) := ⟨_, rfl⟩
  rw [← eS28] at hW
  replace hw := hw S28 eS28
  refine lv_aload_n hx hb dX7_splitEntry_54 rfl (lv_at hl 0 rfl) ?_
  refine lv_aload_n hx hb dX7_splitEntry_55 rfl (lv_at hl 0 rfl) ?_
  obtain ⟨v29, h30, hw⟩ := hw
  refine h_getI C0 hW (T := TX7) (kf := 5) in_X7_splitEntry_RX7 h30 rfl (by decide) (List.mem_of_getElem? (i := 6) rfl) rfl dX7_splitEntry_56 ?_
  obtain ⟨h32, hw⟩ := hw
  refine h_goi C0 hW (va_runV (As := [.int v29]) (rest := []) ⟨hx, hb, hml, ho, hts⟩ (k_X7_skipEntryBlanks (l := l) (u := u) (X := X) (sz := H.size) _ t0 v29 S28  hw) (cwV 1 hts gX7_splitEntry_X7_skipEntryBlanks rfl rfl rfl (by decide +kernel) ⟨Nat.le_of_ble_eq_true rfl, Nat.le_of_ble_eq_true rfl⟩) ⟨h_blind, (h_recv C0 hW (ci := 8) rfl h32), (h_pre C0 hW [.ref t0, .int v29])⟩ rfl rfl hl.1 rfl (lv_room (Nat.le_of_ble_eq_true rfl)) dX7_splitEntry_59 ⟨Nat.le_refl _, Nat.le_refl _⟩) (fun r31 S33 H locs h34 hW => ?_)
  obtain ⟨h35, hp⟩ := h34
  rw [h35] at hW
  replace hw := hp
  refine lv_istore_n (lv' := [(1, .int r31), (0, .ref t0)]) hx hb dX7_splitEntry_62 rfl hl (by decide) rfl (fun ls hl9 => ?_)
  replace hl := hl9
  refine lv_aload_n hx hb dX7_splitEntry_63 rfl (lv_at hl 1 rfl) ?_
  refine lv_iload_n hx hb dX7_splitEntry_64 rfl (lv_at hl 0 rfl) ?_
  obtain ⟨h37, hw⟩ := hw
  refine h_goi C0 hW (va_runV (As := [.int r31]) (rest := []) ⟨hx, hb, hml, ho, hts⟩ (k_X7_entrySign (l := l) (u := u) (X := X) (sz := H.size) _ t0 r31 S28  hw) (cwV 1 hts gX7_splitEntry_X7_entrySign rfl rfl rfl (by decide +kernel) ⟨Nat.le_of_ble_eq_true rfl, Nat.le_of_ble_eq_true rfl⟩) ⟨h_blind, (h_recv C0 hW (ci := 8) rfl h37), (h_pre C0 hW [.ref t0, .int r31])⟩ rfl rfl hl.1 rfl (lv_room (Nat.le_of_ble_eq_true rfl)) dX7_splitEntry_65 ⟨Nat.le_refl _, Nat.le_refl _⟩) (fun r36 S38 H locs h39 hW => ?_)
  obtain ⟨h40, hp⟩ := h39
  rw [h40] at hW
  replace hw := hp
  refine lv_bipush (v := 61) hx hb dX7_splitEntry_68 (by decide) ?_
  refine lv_icmp_eq (tgt := 83) hx hb dX7_splitEntry_70 (by decide) (fun c41 => ?_) (fun c41 => ?_)
  · replace hw := hw.1 c41
    exact t_X7_splitEntry_83 C0 t0 post hret  r31 S28  hw _ _ _ hW (lv_sub hl [1, 0] rfl)
  · replace hw := hw.2 c41
    refine lv_aload_n hx hb dX7_splitEntry_73 rfl (lv_at hl 1 rfl) ?_
    refine lv_iload_n hx hb dX7_splitEntry_74 rfl (lv_at hl 0 rfl) ?_
    obtain ⟨h43, hw⟩ := hw
    refine h_goi C0 hW (va_runV (As := [.int r31]) (rest := []) ⟨hx, hb, hml, ho, hts⟩ (k_X7_entrySign (l := l) (u := u) (X := X) (sz := H.size) _ t0 r31 S28  hw) (cwV 1 hts gX7_splitEntry_X7_entrySign rfl rfl rfl (by decide +kernel) ⟨Nat.le_of_ble_eq_true rfl, Nat.le_of_ble_eq_true rfl⟩) ⟨h_blind, (h_recv C0 hW (ci := 8) rfl h43), (h_pre C0 hW [.ref t0, .int r31])⟩ rfl rfl hl.1 rfl (lv_room (Nat.le_of_ble_eq_true rfl)) dX7_splitEntry_75 ⟨Nat.le_refl _, Nat.le_refl _⟩) (fun r42 S44 H locs h45 hW => ?_)
    obtain ⟨h46, hp⟩ := h45
    rw [h46] at hW
    replace hw := hp
    refine lv_bipush (v := 58) hx hb dX7_splitEntry_78 (by decide) ?_
    refine lv_icmp_ne (tgt := 91) hx hb dX7_splitEntry_80 (by decide) (fun c47 => ?_) (fun c47 => ?_)
    · replace hw := hw.1 c47
      refine lv_aload_n hx hb dX7_splitEntry_91 rfl (lv_at hl 1 rfl) ?_
      refine lv_iload_n hx hb dX7_splitEntry_92 rfl (lv_at hl 0 rfl) ?_
      obtain ⟨fs48, h49, h50, hw⟩ := hw
      refine h_put C0 hW (T := TX7) (kf := 6) (ty := .int) in_X7_splitEntry_RX7 h49 rfl (by decide) h50 tyX7 tyX7_ok nmX7 (List.mem_of_getElem? (i := 7) rfl) rfl (Or.inl rfl) (by decide +kernel) rfl rfl dX7_splitEntry_93 rfl (fun H locs hW => ?_)
      obtain ⟨S51, eS51⟩ : ∃ z : hS, z = upS S28 t0 (.inr (8, fs48.set 6 (.int r31))) := ⟨_, rfl⟩
      rw [← eS51] at hW
      replace hw := hw S51 eS51
      exact hret S51 _ _ 0 0 (Nat.le_refl _) (Nat.le_refl _) hw dX7_splitEntry_96 _ _ _ hW hl
    · replace hw := hw.2 c47
      exact t_X7_splitEntry_83 C0 t0 post hret  r31 S28  hw _ _ _ hW (lv_sub hl [1, 0] rfl)
set_option maxHeartbeats 4000000 in
set_option maxRecDepth 100000 in
theorem t_X7_splitEntry_2 (C0 : hX p s m args c cX7_splitEntry 2 RX7 wsX7_splitEntry D (gt u.2.1) A u.1 u.2.2) (t0 : Nat) (post : hS → Prop) (hret : ∀ (S' : hS) (pc : Nat) (lv : List (Nat × Value)) (k n : Nat), k ≤ 0 → n ≤ 0 → post S' → decode cX7_splitEntry pc = .ok (.return_, 1) → gG p l e (rm_X7_splitEntry) s m args below meth c Q D A 2 k n (hC X S') pc lv [])  : ∀ (nf : Nat) (x1 : Int32) (S : hS), w_X7_splitEntry_2 u post t0  nf x1 S → gG p l e (rm_X7_splitEntry) s m args below meth c Q D A 2 0 0 (hC X S) 2 [(0, .ref t0), (1, .int x1)] [] := by
  obtain ⟨⟨hx, hb, hml, ho, hts, hK, hA⟩, hR⟩ := id C0
  intro nf
  induction nf with
  | zero => intro x1 S hw; exact hw.elim
  | succ nf ih =>
    intro x1 S hw H locs ls hW hl
    rw [w_X7_splitEntry_2] at hw
    refine lv_iload_n hx hb dX7_splitEntry_2 rfl (lv_at hl 1 rfl) ?_
    refine lv_aload_n hx hb dX7_splitEntry_3 rfl (lv_at hl 0 rfl) ?_
    obtain ⟨v2, h3, hw⟩ := hw
    refine h_getI C0 hW (T := TX7) (kf := 3) in_X7_splitEntry_RX7 h3 rfl (by decide) (List.mem_of_getElem? (i := 1) rfl) rfl dX7_splitEntry_4 ?_
    refine lv_icmp_ge (tgt := 42) hx hb dX7_splitEntry_7 (by decide) (fun c4 => ?_) (fun c4 => ?_)
    · replace hw := hw.1 c4
      exact t_X7_splitEntry_42 C0 t0 post hret  x1 S  hw _ _ _ hW (lv_sub hl [0, 1] rfl)
    · replace hw := hw.2 c4
      refine lv_aload_n hx hb dX7_splitEntry_10 rfl (lv_at hl 0 rfl) ?_
      refine lv_iload_n hx hb dX7_splitEntry_11 rfl (lv_at hl 1 rfl) ?_
      obtain ⟨h6, hw⟩ := hw
      refine h_goi C0 hW (va_runV (As := [.int x1]) (rest := []) ⟨hx, hb, hml, ho, hts⟩ (k_X7_entrySign (l := l) (u := u) (X := X) (sz := H.size) _ t0 x1 S  hw) (cwV 1 hts gX7_splitEntry_X7_entrySign rfl rfl rfl (by decide +kernel) ⟨Nat.le_of_ble_eq_true rfl, Nat.le_of_ble_eq_true rfl⟩) ⟨h_blind, (h_recv C0 hW (ci := 8) rfl h6), (h_pre C0 hW [.ref t0, .int x1])⟩ rfl rfl hl.1 rfl (lv_room (Nat.le_of_ble_eq_true rfl)) dX7_splitEntry_12 ⟨Nat.le_refl _, Nat.le_refl _⟩) (fun r5 S7 H locs h8 hW => ?_)
      obtain ⟨h9, hp⟩ := h8
      rw [h9] at hW
      replace hw := hp
      refine h_goi C0 hW (va_runS (As := [.int r5]) (rest := []) ⟨hx, hb, hml, ho, hts⟩ (k_X7_endsKey (l := l) (u := u) (X := X) (sz := H.size) _ r5 S  hw) (va_cwS 1 hts gX7_splitEntry_X7_endsKey rfl rfl rfl (by decide +kernel) ⟨Nat.le_of_ble_eq_true rfl, Nat.le_of_ble_eq_true rfl⟩) ⟨h_blind, (h_pre C0 hW [.int r5])⟩ rfl rfl hl.1 rfl (lv_room (Nat.le_of_ble_eq_true rfl)) dX7_splitEntry_15 ⟨Nat.le_refl _, Nat.le_refl _⟩) (fun r10 S11 H locs h12 hW => ?_)
      obtain ⟨h13, hp⟩ := h12
      rw [h13] at hW
      replace hw := hp
      refine lv_if_ne (tgt := 42) hx hb dX7_splitEntry_18 (by decide) (fun c14 => ?_) (fun c14 => ?_)
      · replace hw := hw.1 c14
        exact t_X7_splitEntry_42 C0 t0 post hret  x1 S  hw _ _ _ hW (lv_sub hl [0, 1] rfl)
      · replace hw := hw.2 c14
        refine lv_iload_n hx hb dX7_splitEntry_21 rfl (lv_at hl 1 rfl) ?_
        refine lv_aload_n hx hb dX7_splitEntry_22 rfl (lv_at hl 0 rfl) ?_
        refine lv_iload_n hx hb dX7_splitEntry_23 rfl (lv_at hl 1 rfl) ?_
        obtain ⟨h16, hw⟩ := hw
        refine h_goi C0 hW (va_runV (As := [.int x1]) (rest := [.int x1]) ⟨hx, hb, hml, ho, hts⟩ (k_X7_entrySign (l := l) (u := u) (X := X) (sz := H.size) _ t0 x1 S  hw) (cwV 1 hts gX7_splitEntry_X7_entrySign rfl rfl rfl (by decide +kernel) ⟨Nat.le_of_ble_eq_true rfl, Nat.le_of_ble_eq_true rfl⟩) ⟨h_blind, (h_recv C0 hW (ci := 8) rfl h16), (h_pre C0 hW [.ref t0, .int x1])⟩ rfl rfl hl.1 rfl (lv_room (Nat.le_of_ble_eq_true rfl)) dX7_splitEntry_24 ⟨Nat.le_refl _, Nat.le_refl _⟩) (fun r15 S17 H locs h18 hW => ?_)
        obtain ⟨h19, hp⟩ := h18
        rw [h19] at hW
        replace hw := hp
        refine lv_bipush (v := 92) hx hb dX7_splitEntry_27 (by decide) ?_
        refine lv_icmp_ne (tgt := 36) hx hb dX7_splitEntry_29 (by decide) (fun c20 => ?_) (fun c20 => ?_)
        · replace hw := hw.1 c20
          refine lv_iconst (v := 1) hx hb dX7_splitEntry_36 (by decide) ?_
          refine lv_iadd hx hb dX7_splitEntry_37 ?_
          refine lv_topi (fun v21 ev21 => ?_)
          replace hw := hw v21 ev21
          refine lv_istore_n (lv' := [(1, .int v21), (0, .ref t0)]) hx hb dX7_splitEntry_38 rfl hl (by decide) rfl (fun ls hl9 => ?_)
          replace hl := hl9
          refine lv_goto (tgt := 2) hx hb dX7_splitEntry_39 (by decide) ?_
          exact ih v21 S  hw _ _ _ hW (lv_sub hl [1, 0] rfl)
        · replace hw := hw.2 c20
          refine lv_iconst (v := 2) hx hb dX7_splitEntry_32 (by decide) ?_
          refine lv_goto (tgt := 37) hx hb dX7_splitEntry_33 (by decide) ?_
          refine lv_iadd hx hb dX7_splitEntry_37 ?_
          refine lv_topi (fun v22 ev22 => ?_)
          replace hw := hw v22 ev22
          refine lv_istore_n (lv' := [(1, .int v22), (0, .ref t0)]) hx hb dX7_splitEntry_38 rfl hl (by decide) rfl (fun ls hl9 => ?_)
          replace hl := hl9
          refine lv_goto (tgt := 2) hx hb dX7_splitEntry_39 (by decide) ?_
          exact ih v22 S  hw _ _ _ hW (lv_sub hl [1, 0] rfl)
set_option maxHeartbeats 4000000 in
set_option maxRecDepth 100000 in
theorem t_X7_splitEntry_0 (C0 : hX p s m args c cX7_splitEntry 2 RX7 wsX7_splitEntry D (gt u.2.1) A u.1 u.2.2) (t0 : Nat) (post : hS → Prop) (hret : ∀ (S' : hS) (pc : Nat) (lv : List (Nat × Value)) (k n : Nat), k ≤ 0 → n ≤ 0 → post S' → decode cX7_splitEntry pc = .ok (.return_, 1) → gG p l e (rm_X7_splitEntry) s m args below meth c Q D A 2 k n (hC X S') pc lv [])  : ∀ (S : hS), w_X7_splitEntry u post t0   S → gG p l e (rm_X7_splitEntry) s m args below meth c Q D A 2 0 0 (hC X S) 0 [(0, .ref t0)] [] := by
  obtain ⟨⟨hx, hb, hml, ho, hts, hK, hA⟩, hR⟩ := id C0
  intro  S hw H locs ls hW hl
  rw [w_X7_splitEntry] at hw
  refine lv_iconst (v := 0) hx hb dX7_splitEntry_0 (by decide) ?_
  refine lv_istore_n (lv' := [(1, .int 0), (0, .ref t0)]) hx hb dX7_splitEntry_1 rfl hl (by decide) rfl (fun ls hl9 => ?_)
  replace hl := hl9
  obtain ⟨n1, hw⟩ := hw
  exact t_X7_splitEntry_2 C0 t0 post hret  n1 0 S  hw _ _ _ hW (lv_sub hl [1, 0] rfl)
set_option maxHeartbeats 4000000 in
set_option maxRecDepth 100000 in
theorem k_X7_splitEntry {l : Launch} {D : va_G} {u : hU} {X : va_W} {sz : Nat} (post : hS → Prop) (t0 : Nat) (S : hS) (hw : w_X7_splitEntry u post t0  S) : hMv l yX7_splitEntry wsX7_splitEntry rm_X7_splitEntry D (gt u.2.1) u.1 u.2.2 sz X S [.ref t0] post 0 0 := by
  refine hMv_of (cc := cX7_splitEntry) (nL := 2) (own := RX7) (by decide) rfl rfl (Nat.le_of_ble_eq_true rfl) ?_
  intro p e s m args below meth c A Q C0 hin hret
  exact t_X7_splitEntry_0 C0 t0 post hret  S hw
abbrev rm_X7_readEntry : Room := { frames := 8, cells := 0, slots := 0, locals := 173 }
theorem in_X7_readEntry_RX7 : ∀ w ∈ wsX70, w ∈ wsX7_readEntry := fun w hw9 => List.mem_cons_of_mem _ (List.mem_append_left _ (List.mem_append_right _ hw9))
set_option maxHeartbeats 4000000 in
set_option maxRecDepth 100000 in
theorem t_X7_readEntry_45 (C0 : hX p s m args c cX7_readEntry 2 RX7 wsX7_readEntry D (gt u.2.1) A u.1 u.2.2) (t0 : Nat) (post : Int32 → hS → Prop) (hret : ∀ (r : Int32) (S' : hS) (pc : Nat) (lv : List (Nat × Value)) (k n : Nat), k ≤ 0 → n ≤ 0 → post r S' → narrow .boolean (.int r) = .int r → decode cX7_readEntry pc = .ok (.ireturn, 1) → gG p l e (rm_X7_readEntry) s m args below meth c Q D A 2 k n (hC X S') pc lv [.int r])  : ∀ (S : hS), w_X7_readEntry_45 u post t0   S → gG p l e (rm_X7_readEntry) s m args below meth c Q D A 2 0 0 (hC X S) 45 [(0, .ref t0)] [] := by
  obtain ⟨⟨hx, hb, hml, ho, hts, hK, hA⟩, hR⟩ := id C0
  intro  S hw H locs ls hW hl
  rw [w_X7_readEntry_45] at hw
  refine lv_aload_n hx hb dX7_readEntry_45 rfl (lv_at hl 0 rfl) ?_
  obtain ⟨h27, hw⟩ := hw
  refine h_gov C0 hW (va_runV (As := []) (rest := []) ⟨hx, hb, hml, ho, hts⟩ (k_X7_splitEntry (l := l) (u := u) (X := X) (sz := H.size) _ t0  S  hw) (cwV 0 hts gX7_readEntry_X7_splitEntry rfl rfl rfl (by decide +kernel) ⟨Nat.le_of_ble_eq_true rfl, Nat.le_of_ble_eq_true rfl⟩) ⟨h_blind, (h_recv C0 hW (ci := 8) rfl h27), (h_pre C0 hW [.ref t0])⟩ rfl rfl hl.1 rfl (lv_room (Nat.le_of_ble_eq_true rfl)) dX7_readEntry_46 ⟨Nat.le_refl _, Nat.le_refl _⟩) (fun S28 H locs h29 hW => ?_)
  replace hw := h29
  refine lv_aload_n hx hb dX7_readEntry_49 rfl (lv_at hl 0 rfl) ?_
  obtain ⟨v30, h31, hw⟩ := hw
  refine h_getI C0 hW (T := TX7) (kf := 3) in_X7_readEntry_RX7 h31 rfl (by decide) (List.mem_of_getElem? (i := 1) rfl) rfl dX7_readEntry_50 ?_
  refine lv_if_le (tgt := 60) hx hb dX7_readEntry_53 (by decide) (fun c32 => ?_) (fun c32 => ?_)
  · replace hw := hw.1 c32
    refine lv_iconst (v := 0) hx hb dX7_readEntry_60 (by decide) ?_
    exact hret 0 S28 _ _ 0 0 (Nat.le_refl _) (Nat.le_refl _) hw (by decide) dX7_readEntry_61 _ _ _ hW hl
  · replace hw := hw.2 c32
    refine lv_iconst (v := 1) hx hb dX7_readEntry_56 (by decide) ?_
    refine lv_goto (tgt := 61) hx hb dX7_readEntry_57 (by decide) ?_
    exact hret 1 S28 _ _ 0 0 (Nat.le_refl _) (Nat.le_refl _) hw (by decide) dX7_readEntry_61 _ _ _ hW hl
set_option maxHeartbeats 4000000 in
set_option maxRecDepth 100000 in
theorem t_X7_readEntry_7 (C0 : hX p s m args c cX7_readEntry 2 RX7 wsX7_readEntry D (gt u.2.1) A u.1 u.2.2) (t0 : Nat) (post : Int32 → hS → Prop) (hret : ∀ (r : Int32) (S' : hS) (pc : Nat) (lv : List (Nat × Value)) (k n : Nat), k ≤ 0 → n ≤ 0 → post r S' → narrow .boolean (.int r) = .int r → decode cX7_readEntry pc = .ok (.ireturn, 1) → gG p l e (rm_X7_readEntry) s m args below meth c Q D A 2 k n (hC X S') pc lv [.int r])  : ∀ (nf : Nat) (x1 : Int32) (S : hS), w_X7_readEntry_7 u post t0  nf x1 S → gG p l e (rm_X7_readEntry) s m args below meth c Q D A 2 0 0 (hC X S) 7 [(0, .ref t0), (1, .int x1)] [] := by
  obtain ⟨⟨hx, hb, hml, ho, hts, hK, hA⟩, hR⟩ := id C0
  intro nf
  induction nf with
  | zero => intro x1 S hw; exact hw.elim
  | succ nf ih =>
    intro x1 S hw H locs ls hW hl
    rw [w_X7_readEntry_7] at hw
    refine lv_iload_n hx hb dX7_readEntry_7 rfl (lv_at hl 1 rfl) ?_
    refine lv_sipush (v := 300) hx hb dX7_readEntry_8 (by decide) ?_
    refine lv_icmp_gt (tgt := 45) hx hb dX7_readEntry_11 (by decide) (fun c6 => ?_) (fun c6 => ?_)
    · replace hw := hw.1 c6
      exact t_X7_readEntry_45 C0 t0 post hret   S  hw _ _ _ hW (lv_sub hl [0] rfl)
    · replace hw := hw.2 c6
      refine lv_aload_n hx hb dX7_readEntry_14 rfl (lv_at hl 0 rfl) ?_
      obtain ⟨v7, h8, hw⟩ := hw
      refine h_getI C0 hW (T := TX7) (kf := 3) in_X7_readEntry_RX7 h8 rfl (by decide) (List.mem_of_getElem? (i := 1) rfl) rfl dX7_readEntry_15 ?_
      refine lv_if_ne (tgt := 45) hx hb dX7_readEntry_18 (by decide) (fun c9 => ?_) (fun c9 => ?_)
      · replace hw := hw.1 c9
        exact t_X7_readEntry_45 C0 t0 post hret   S  hw _ _ _ hW (lv_sub hl [0] rfl)
      · replace hw := hw.2 c9
        refine lv_aload_n hx hb dX7_readEntry_21 rfl (lv_at hl 0 rfl) ?_
        obtain ⟨v10, h11, hw⟩ := hw
        refine h_getI C0 hW (T := TX7) (kf := 4) in_X7_readEntry_RX7 h11 rfl (by decide) (List.mem_of_getElem? (i := 2) rfl) rfl dX7_readEntry_22 ?_
        refine lv_aload_n hx hb dX7_readEntry_25 rfl (lv_at hl 0 rfl) ?_
        obtain ⟨o12, h13, hw⟩ := hw
        refine h_getR C0 hW (T := TX7) (kf := 0) in_X7_readEntry_RX7 h13 rfl (by decide) (List.mem_of_getElem? (i := 3) rfl) rfl dX7_readEntry_26 ?_
        obtain ⟨a14, rfl, hw⟩ := hw
        obtain ⟨h16, hw⟩ := hw
        refine h_goi C0 hW (va_runV (As := []) (rest := [.int v10]) ⟨hx, hb, hml, ho, hts⟩ (k_J4_length_8a (l := l) (u := u) (X := X) (sz := H.size) _ a14  S  hw) (cwV 0 hts gX7_readEntry_J4_length_8abf5 rfl rfl rfl (by decide +kernel) ⟨Nat.le_of_ble_eq_true rfl, Nat.le_of_ble_eq_true rfl⟩) ⟨h_blind, (h_recv C0 hW (ci := 1) rfl h16), (h_pre C0 hW [.ref a14])⟩ rfl rfl hl.1 rfl (lv_room (Nat.le_of_ble_eq_true rfl)) dX7_readEntry_29 ⟨Nat.le_refl _, Nat.le_refl _⟩) (fun r15 S17 H locs h18 hW => ?_)
        obtain ⟨h19, hp⟩ := h18
        rw [h19] at hW
        replace hw := hp
        refine lv_icmp_ge (tgt := 45) hx hb dX7_readEntry_32 (by decide) (fun c20 => ?_) (fun c20 => ?_)
        · replace hw := hw.1 c20
          exact t_X7_readEntry_45 C0 t0 post hret   S  hw _ _ _ hW (lv_sub hl [0] rfl)
        · replace hw := hw.2 c20
          refine lv_aload_n hx hb dX7_readEntry_35 rfl (lv_at hl 0 rfl) ?_
          obtain ⟨h22, hw⟩ := hw
          refine h_gov C0 hW (va_runV (As := []) (rest := []) ⟨hx, hb, hml, ho, hts⟩ (k_X7_readEntryLines (l := l) (u := u) (X := X) (sz := H.size) _ t0  S  hw) (cwV 0 hts gX7_readEntry_X7_readEntryLines rfl rfl rfl (by decide +kernel) ⟨Nat.le_of_ble_eq_true rfl, Nat.le_of_ble_eq_true rfl⟩) ⟨h_blind, (h_recv C0 hW (ci := 8) rfl h22), (h_pre C0 hW [.ref t0])⟩ rfl rfl hl.1 rfl (lv_room (Nat.le_of_ble_eq_true rfl)) dX7_readEntry_36 ⟨Nat.le_refl _, Nat.le_refl _⟩) (fun S23 H locs h24 hW => ?_)
          replace hw := h24
          obtain ⟨v25, ev25⟩ : ∃ y : Int32, y = x1 + 1 := ⟨_, rfl⟩
          replace hw := hw v25 ev25
          refine lv_iinc (v := v25) (lv' := [(1, .int v25), (0, .ref t0)]) hx hb dX7_readEntry_39 hl (k := 1) rfl (by rw [ev25]; rfl) (by decide) rfl (fun ls hl9 => ?_)
          replace hl := hl9
          refine lv_goto (tgt := 7) hx hb dX7_readEntry_42 (by decide) ?_
          exact ih v25 S23  hw _ _ _ hW (lv_sub hl [1, 0] rfl)
set_option maxHeartbeats 4000000 in
set_option maxRecDepth 100000 in
theorem t_X7_readEntry_0 (C0 : hX p s m args c cX7_readEntry 2 RX7 wsX7_readEntry D (gt u.2.1) A u.1 u.2.2) (t0 : Nat) (post : Int32 → hS → Prop) (hret : ∀ (r : Int32) (S' : hS) (pc : Nat) (lv : List (Nat × Value)) (k n : Nat), k ≤ 0 → n ≤ 0 → post r S' → narrow .boolean (.int r) = .int r → decode cX7_readEntry pc = .ok (.ireturn, 1) → gG p l e (rm_X7_readEntry) s m args below meth c Q D A 2 k n (hC X S') pc lv [.int r])  : ∀ (S : hS), w_X7_readEntry u post t0   S → gG p l e (rm_X7_readEntry) s m args below meth c Q D A 2 0 0 (hC X S) 0 [(0, .ref t0)] [] := by
  obtain ⟨⟨hx, hb, hml, ho, hts, hK, hA⟩, hR⟩ := id C0
  intro  S hw H locs ls hW hl
  rw [w_X7_readEntry] at hw
  refine lv_aload_n hx hb dX7_readEntry_0 rfl (lv_at hl 0 rfl) ?_
  refine lv_iconst (v := 0) hx hb dX7_readEntry_1 (by decide) ?_
  obtain ⟨fs1, h2, h3, hw⟩ := hw
  refine h_put C0 hW (T := TX7) (kf := 3) (ty := .int) in_X7_readEntry_RX7 h2 rfl (by decide) h3 tyX7 tyX7_ok nmX7 (List.mem_of_getElem? (i := 1) rfl) rfl (Or.inl rfl) (by decide +kernel) rfl rfl dX7_readEntry_2 rfl (fun H locs hW => ?_)
  obtain ⟨S4, eS4⟩ : ∃ z : hS, z = upS S t0 (.inr (8, fs1.set 3 (.int 0))) := ⟨_, rfl⟩
  rw [← eS4] at hW
  replace hw := hw S4 eS4
  refine lv_iconst (v := 0) hx hb dX7_readEntry_5 (by decide) ?_
  refine lv_istore_n (lv' := [(1, .int 0), (0, .ref t0)]) hx hb dX7_readEntry_6 rfl hl (by decide) rfl (fun ls hl9 => ?_)
  replace hl := hl9
  obtain ⟨n5, hw⟩ := hw
  exact t_X7_readEntry_7 C0 t0 post hret  n5 0 S4  hw _ _ _ hW (lv_sub hl [1, 0] rfl)
set_option maxHeartbeats 4000000 in
set_option maxRecDepth 100000 in
theorem k_X7_readEntry {l : Launch} {D : va_G} {u : hU} {X : va_W} {sz : Nat} (post : Int32 → hS → Prop) (t0 : Nat) (S : hS) (hw : w_X7_readEntry u post t0  S) : hMi l yX7_readEntry wsX7_readEntry rm_X7_readEntry D (gt u.2.1) u.1 u.2.2 sz X S [.ref t0] post 0 0 := by
  refine hMi_of (cc := cX7_readEntry) (nL := 2) (ty := .boolean) (own := RX7) (by decide) rfl rfl (Nat.le_of_ble_eq_true rfl) ?_
  intro p e s m args below meth c A Q C0 hin hret
  exact t_X7_readEntry_0 C0 t0 post hret  S hw
abbrev rm_X7_unicodeNumber : Room := { frames := 6, cells := 0, slots := 0, locals := 130 }
set_option maxHeartbeats 4000000 in
set_option maxRecDepth 100000 in
theorem t_X7_unicodeNumber_14 (C0 : hX p s m args c cX7_unicodeNumber 6 RX7 wsX7_unicodeNumber D (gt u.2.1) A u.1 u.2.2) {S : hS} (t0 : Nat) (post : Int32 → Prop) (hret : ∀ (r : Int32) (S' : hS) (pc : Nat) (lv : List (Nat × Value)) (k n : Nat), k ≤ 0 → n ≤ 0 → (S' = S ∧ post r) → narrow .int (.int r) = .int r → decode cX7_unicodeNumber pc = .ok (.ireturn, 1) → gG p l e (rm_X7_unicodeNumber) s m args below meth c Q D A 6 k n (hC X S') pc lv [.int r])  : ∀ (nf : Nat) (x1 : Int32) (x3 : Int32) (x4 : Int32), w_X7_unicodeNumber_14 u post t0  nf x1 x3 x4 S → gG p l e (rm_X7_unicodeNumber) s m args below meth c Q D A 6 0 0 (hC X S) 14 [(0, .ref t0), (1, .int x1), (3, .int x3), (4, .int x4)] [] := by
  obtain ⟨⟨hx, hb, hml, ho, hts, hK, hA⟩, hR⟩ := id C0
  intro nf
  induction nf with
  | zero => intro x1 x3 x4 hw; exact hw.elim
  | succ nf ih =>
    intro x1 x3 x4 hw H locs ls hW hl
    rw [w_X7_unicodeNumber_14] at hw
    refine lv_iload hx hb dX7_unicodeNumber_14 (lv_at hl 3 rfl) ?_
    refine lv_iload_n hx hb dX7_unicodeNumber_16 rfl (lv_at hl 1 rfl) ?_
    refine lv_iconst (v := 4) hx hb dX7_unicodeNumber_17 (by decide) ?_
    refine lv_iadd hx hb dX7_unicodeNumber_18 ?_
    refine lv_icmp_ge (tgt := 55) hx hb dX7_unicodeNumber_19 (by decide) (fun c3 => ?_) (fun c3 => ?_)
    · replace hw := hw.1 c3
      refine lv_iload_n hx hb dX7_unicodeNumber_55 rfl (lv_at hl 2 rfl) ?_
      exact hret x3 S _ _ 0 0 (Nat.le_refl _) (Nat.le_refl _) ⟨rfl, hw⟩ rfl dX7_unicodeNumber_56 _ _ _ hW hl
    · replace hw := hw.2 c3
      refine lv_aload_n hx hb dX7_unicodeNumber_22 rfl (lv_at hl 0 rfl) ?_
      refine lv_iload hx hb dX7_unicodeNumber_23 (lv_at hl 3 rfl) ?_
      obtain ⟨h5, hw⟩ := hw
      refine h_goi C0 hW (va_runV (As := [.int x4]) (rest := []) ⟨hx, hb, hml, ho, hts⟩ (k_X7_entrySign (l := l) (u := u) (X := X) (sz := H.size) _ t0 x4 S  hw) (cwV 1 hts gX7_unicodeNumber_X7_entrySign rfl rfl rfl (by decide +kernel) ⟨Nat.le_of_ble_eq_true rfl, Nat.le_of_ble_eq_true rfl⟩) ⟨h_blind, (h_recv C0 hW (ci := 8) rfl h5), (h_pre C0 hW [.ref t0, .int x4])⟩ rfl rfl hl.1 rfl (lv_room (Nat.le_of_ble_eq_true rfl)) dX7_unicodeNumber_25 ⟨Nat.le_refl _, Nat.le_refl _⟩) (fun r4 S6 H locs h7 hW => ?_)
      obtain ⟨h8, hp⟩ := h7
      rw [h8] at hW
      replace hw := hp
      refine g_calls (As := [.int r4]) (rest := []) ⟨hx, hb, hml, ho, hts⟩ hl.1 (k_X1_digitNumber (l := l) _ r4 hw) (va_cwS 1 hts gX7_unicodeNumber_X1_digitNumber rfl rfl rfl (by decide +kernel) ⟨Nat.le_of_ble_eq_true rfl, Nat.le_of_ble_eq_true rfl⟩) (Nat.le_of_ble_eq_true rfl) dX7_unicodeNumber_28 rfl ⟨Nat.le_refl _, Nat.le_refl _⟩ (fun r9 hp => ?_)
      replace hw := hp
      refine lv_istore (lv' := [(5, .int r9), (0, .ref t0), (1, .int x1), (3, .int x3), (4, .int x4)]) hx hb dX7_unicodeNumber_31 hl (by decide) rfl (fun ls hl9 => ?_)
      replace hl := hl9
      refine lv_iload hx hb dX7_unicodeNumber_33 (lv_at hl 0 rfl) ?_
      refine lv_iconst (v := (-1)) hx hb dX7_unicodeNumber_35 (by decide) ?_
      refine lv_icmp_ne (tgt := 41) hx hb dX7_unicodeNumber_36 (by decide) (fun c10 => ?_) (fun c10 => ?_)
      · replace hw := hw.1 c10
        refine lv_bipush (v := 16) hx hb dX7_unicodeNumber_41 (by decide) ?_
        refine lv_iload_n hx hb dX7_unicodeNumber_43 rfl (lv_at hl 3 rfl) ?_
        refine lv_imul hx hb dX7_unicodeNumber_44 ?_
        refine lv_iload hx hb dX7_unicodeNumber_45 (lv_at hl 0 rfl) ?_
        refine lv_iadd hx hb dX7_unicodeNumber_47 ?_
        refine lv_topi (fun v11 ev11 => ?_)
        replace hw := hw v11 ev11
        refine lv_istore_n (lv' := [(3, .int v11), (5, .int r9), (0, .ref t0), (1, .int x1), (4, .int x4)]) hx hb dX7_unicodeNumber_48 rfl hl (by decide) rfl (fun ls hl9 => ?_)
        replace hl := hl9
        obtain ⟨v12, ev12⟩ : ∃ y : Int32, y = x4 + 1 := ⟨_, rfl⟩
        replace hw := hw v12 ev12
        refine lv_iinc (v := v12) (lv' := [(4, .int v12), (3, .int v11), (5, .int r9), (0, .ref t0), (1, .int x1)]) hx hb dX7_unicodeNumber_49 hl (k := 4) rfl (by rw [ev12]; rfl) (by decide) rfl (fun ls hl9 => ?_)
        replace hl := hl9
        refine lv_goto (tgt := 14) hx hb dX7_unicodeNumber_52 (by decide) ?_
        exact ih x1 v11 v12   hw _ _ _ hW (lv_sub hl [3, 4, 1, 0] rfl)
      · replace hw := hw.2 c10
        refine lv_iconst (v := (-1)) hx hb dX7_unicodeNumber_39 (by decide) ?_
        exact hret (-1) S _ _ 0 0 (Nat.le_refl _) (Nat.le_refl _) ⟨rfl, hw⟩ rfl dX7_unicodeNumber_40 _ _ _ hW hl
set_option maxHeartbeats 4000000 in
set_option maxRecDepth 100000 in
theorem t_X7_unicodeNumber_0 (C0 : hX p s m args c cX7_unicodeNumber 6 RX7 wsX7_unicodeNumber D (gt u.2.1) A u.1 u.2.2) {S : hS} (t0 : Nat) (post : Int32 → Prop) (hret : ∀ (r : Int32) (S' : hS) (pc : Nat) (lv : List (Nat × Value)) (k n : Nat), k ≤ 0 → n ≤ 0 → (S' = S ∧ post r) → narrow .int (.int r) = .int r → decode cX7_unicodeNumber pc = .ok (.ireturn, 1) → gG p l e (rm_X7_unicodeNumber) s m args below meth c Q D A 6 k n (hC X S') pc lv [.int r])  : ∀ (z1 : Int32) (z2 : Int32), w_X7_unicodeNumber u post t0  z1 z2 S → gG p l e (rm_X7_unicodeNumber) s m args below meth c Q D A 6 0 0 (hC X S) 0 [(0, .ref t0), (1, .int z1), (2, .int z2)] [] := by
  obtain ⟨⟨hx, hb, hml, ho, hts, hK, hA⟩, hR⟩ := id C0
  intro z1 z2 hw H locs ls hW hl
  rw [w_X7_unicodeNumber] at hw
  refine lv_iload_n hx hb dX7_unicodeNumber_0 rfl (lv_at hl 1 rfl) ?_
  refine lv_iconst (v := 4) hx hb dX7_unicodeNumber_1 (by decide) ?_
  refine lv_iadd hx hb dX7_unicodeNumber_2 ?_
  refine lv_iload_n hx hb dX7_unicodeNumber_3 rfl (lv_at hl 2 rfl) ?_
  refine lv_icmp_le (tgt := 9) hx hb dX7_unicodeNumber_4 (by decide) (fun c1 => ?_) (fun c1 => ?_)
  · replace hw := hw.1 c1
    refine lv_iconst (v := 0) hx hb dX7_unicodeNumber_9 (by decide) ?_
    refine lv_istore_n (lv' := [(3, .int 0), (0, .ref t0), (1, .int z1), (2, .int z2)]) hx hb dX7_unicodeNumber_10 rfl hl (by decide) rfl (fun ls hl9 => ?_)
    replace hl := hl9
    refine lv_iload_n hx hb dX7_unicodeNumber_11 rfl (lv_at hl 2 rfl) ?_
    refine lv_istore (lv' := [(4, .int z1), (3, .int 0), (0, .ref t0), (1, .int z1), (2, .int z2)]) hx hb dX7_unicodeNumber_12 hl (by decide) rfl (fun ls hl9 => ?_)
    replace hl := hl9
    obtain ⟨n2, hw⟩ := hw
    exact t_X7_unicodeNumber_14 C0 t0 post hret  n2 z1 0 z1   hw _ _ _ hW (lv_sub hl [2, 3, 1, 0] rfl)
  · replace hw := hw.2 c1
    refine lv_iconst (v := (-1)) hx hb dX7_unicodeNumber_7 (by decide) ?_
    exact hret (-1) S _ _ 0 0 (Nat.le_refl _) (Nat.le_refl _) ⟨rfl, hw⟩ rfl dX7_unicodeNumber_8 _ _ _ hW hl
set_option maxHeartbeats 4000000 in
set_option maxRecDepth 100000 in
theorem k_X7_unicodeNumber {l : Launch} {D : va_G} {u : hU} {X : va_W} {sz : Nat} (post : Int32 → Prop) (t0 : Nat) (z1 : Int32) (z2 : Int32) (S : hS) (hw : w_X7_unicodeNumber u post t0 z1 z2 S) : hMi l yX7_unicodeNumber wsX7_unicodeNumber rm_X7_unicodeNumber D (gt u.2.1) u.1 u.2.2 sz X S [.ref t0, .int z1, .int z2] (fun r S' => S' = S ∧ post r) 0 0 := by
  refine hMi_of (cc := cX7_unicodeNumber) (nL := 6) (ty := .int) (own := RX7) (by decide) rfl rfl (Nat.le_of_ble_eq_true rfl) ?_
  intro p e s m args below meth c A Q C0 hin hret
  exact t_X7_unicodeNumber_0 C0 t0 post hret z1 z2 hw
abbrev rm_X7_unescape (MC MS : Nat) : Room := { frames := 7, cells := MC, slots := MS, locals := 155 }
theorem in_X7_unescape_RX7 : ∀ w ∈ wsX70, w ∈ wsX7_unescape := fun w hw9 => List.mem_cons_of_mem _ (List.mem_append_left _ (List.mem_append_right _ hw9))
set_option maxHeartbeats 4000000 in
set_option maxRecDepth 100000 in
theorem t_X7_unescape_106 (C0 : hX p s m args c cX7_unescape 6 RX7 wsX7_unescape D (gt u.2.1) A u.1 u.2.2) (t0 : Nat) (post : Int32 → hS → Prop) (hret : ∀ (r : Int32) (S' : hS) (pc : Nat) (lv : List (Nat × Value)) (k n : Nat), k ≤ MC → n ≤ MS → post r S' → narrow .int (.int r) = .int r → decode cX7_unescape pc = .ok (.ireturn, 1) → gG p l e (rm_X7_unescape MC MS) s m args below meth c Q D A 6 k n (hC X S') pc lv [.int r])  : ∀ (x3 : Int32) (S : hS) (mc ms k n : Nat), k + mc ≤ MC ∧ n + ms ≤ MS → w_X7_unescape_106 u post t0  x3 S mc ms → gG p l e (rm_X7_unescape MC MS) s m args below meth c Q D A 6 k n (hC X S) 106 [(0, .ref t0), (3, .int x3)] [] := by
  obtain ⟨⟨hx, hb, hml, ho, hts, hK, hA⟩, hR⟩ := id C0
  intro x3 S mc ms k n hkn hw H locs ls hW hl
  rw [w_X7_unescape_106] at hw
  refine lv_aload_n hx hb dX7_unescape_106 rfl (lv_at hl 0 rfl) ?_
  refine lv_iload_n hx hb dX7_unescape_107 rfl (lv_at hl 1 rfl) ?_
  obtain ⟨h76, hw⟩ := hw
  refine h_goi C0 hW (va_runV (As := [.int x3]) (rest := []) ⟨hx, hb, hml, ho, hts⟩ (k_X7_tapePlace (l := l) (u := u) (X := X) (sz := H.size) _ t0 x3 S  hw) (cwV 1 hts gX7_unescape_X7_tapePlace rfl rfl rfl (by decide +kernel) ⟨Nat.le_of_ble_eq_true rfl, Nat.le_of_ble_eq_true rfl⟩) ⟨h_blind, (h_recv C0 hW (ci := 8) rfl h76), (h_pre C0 hW [.ref t0, .int x3])⟩ rfl rfl hl.1 rfl (lv_room (Nat.le_of_ble_eq_true rfl)) dX7_unescape_108 ⟨by show _ ≤ MC; omega, by show _ ≤ MS; omega⟩) (fun r75 S77 H locs h78 hW => ?_)
  obtain ⟨h79, hp⟩ := h78
  rw [h79] at hW
  replace hw := hp
  exact hret r75 S _ _ _ _ (by omega) (by omega) hw rfl dX7_unescape_111 _ _ _ hW hl
set_option maxHeartbeats 4000000 in
set_option maxRecDepth 100000 in
theorem t_X7_unescape_10 (C0 : hX p s m args c cX7_unescape 6 RX7 wsX7_unescape D (gt u.2.1) A u.1 u.2.2) (t0 : Nat) (post : Int32 → hS → Prop) (hret : ∀ (r : Int32) (S' : hS) (pc : Nat) (lv : List (Nat × Value)) (k n : Nat), k ≤ MC → n ≤ MS → post r S' → narrow .int (.int r) = .int r → decode cX7_unescape pc = .ok (.ireturn, 1) → gG p l e (rm_X7_unescape MC MS) s m args below meth c Q D A 6 k n (hC X S') pc lv [.int r])  : ∀ (nf : Nat) (x2 : Int32) (x3 : Int32) (S : hS) (mc ms k n : Nat), k + mc ≤ MC ∧ n + ms ≤ MS → w_X7_unescape_10 u post t0  nf x2 x3 S mc ms → gG p l e (rm_X7_unescape MC MS) s m args below meth c Q D A 6 k n (hC X S) 10 [(0, .ref t0), (2, .int x2), (3, .int x3)] [] := by
  obtain ⟨⟨hx, hb, hml, ho, hts, hK, hA⟩, hR⟩ := id C0
  intro nf
  induction nf with
  | zero => intro x2 x3 S mc ms k n hkn hw; exact hw.elim
  | succ nf ih =>
    intro x2 x3 S mc ms k n hkn hw H locs ls hW hl
    rw [w_X7_unescape_10] at hw
    refine lv_iload_n hx hb dX7_unescape_10 rfl (lv_at hl 2 rfl) ?_
    refine lv_iload_n hx hb dX7_unescape_11 rfl (lv_at hl 1 rfl) ?_
    refine lv_icmp_ge (tgt := 129) hx hb dX7_unescape_12 (by decide) (fun c13 => ?_) (fun c13 => ?_)
    · replace hw := hw.1 c13
      refine lv_bipush (v := (-5)) hx hb dX7_unescape_129 (by decide) ?_
      exact hret (-5) S _ _ _ _ (by omega) (by omega) hw rfl dX7_unescape_131 _ _ _ hW hl
    · replace hw := hw.2 c13
      refine lv_aload_n hx hb dX7_unescape_15 rfl (lv_at hl 0 rfl) ?_
      refine lv_iload_n hx hb dX7_unescape_16 rfl (lv_at hl 2 rfl) ?_
      obtain ⟨h15, hw⟩ := hw
      refine h_goi C0 hW (va_runV (As := [.int x3]) (rest := []) ⟨hx, hb, hml, ho, hts⟩ (k_X7_entrySign (l := l) (u := u) (X := X) (sz := H.size) _ t0 x3 S  hw) (cwV 1 hts gX7_unescape_X7_entrySign rfl rfl rfl (by decide +kernel) ⟨Nat.le_of_ble_eq_true rfl, Nat.le_of_ble_eq_true rfl⟩) ⟨h_blind, (h_recv C0 hW (ci := 8) rfl h15), (h_pre C0 hW [.ref t0, .int x3])⟩ rfl rfl hl.1 rfl (lv_room (Nat.le_of_ble_eq_true rfl)) dX7_unescape_17 ⟨by show _ ≤ MC; omega, by show _ ≤ MS; omega⟩) (fun r14 S16 H locs h17 hW => ?_)
      obtain ⟨h18, hp⟩ := h17
      rw [h18] at hW
      replace hw := hp
      refine lv_istore (lv' := [(4, .int r14), (0, .ref t0), (2, .int x2), (3, .int x3)]) hx hb dX7_unescape_20 hl (by decide) rfl (fun ls hl9 => ?_)
      replace hl := hl9
      refine lv_iload hx hb dX7_unescape_22 (lv_at hl 0 rfl) ?_
      refine lv_bipush (v := 92) hx hb dX7_unescape_24 (by decide) ?_
      refine lv_icmp_eq (tgt := 46) hx hb dX7_unescape_26 (by decide) (fun c19 => ?_) (fun c19 => ?_)
      · replace hw := hw.1 c19
        refine lv_aload_n hx hb dX7_unescape_46 rfl (lv_at hl 1 rfl) ?_
        refine lv_iload_n hx hb dX7_unescape_47 rfl (lv_at hl 3 rfl) ?_
        refine lv_iconst (v := 1) hx hb dX7_unescape_48 (by decide) ?_
        refine lv_iadd hx hb dX7_unescape_49 ?_
        obtain ⟨h21, hw⟩ := hw
        refine h_goi C0 hW (va_runV (As := [.int (x3 + 1)]) (rest := []) ⟨hx, hb, hml, ho, hts⟩ (k_X7_entrySign (l := l) (u := u) (X := X) (sz := H.size) _ t0 (x3 + 1) S  hw) (cwV 1 hts gX7_unescape_X7_entrySign rfl rfl rfl (by decide +kernel) ⟨Nat.le_of_ble_eq_true rfl, Nat.le_of_ble_eq_true rfl⟩) ⟨h_blind, (h_recv C0 hW (ci := 8) rfl h21), (h_pre C0 hW [.ref t0, .int (x3 + 1)])⟩ rfl rfl hl.1 rfl (lv_room (Nat.le_of_ble_eq_true rfl)) dX7_unescape_50 ⟨by show _ ≤ MC; omega, by show _ ≤ MS; omega⟩) (fun r20 S22 H locs h23 hW => ?_)
        obtain ⟨h24, hp⟩ := h23
        rw [h24] at hW
        replace hw := hp
        refine lv_bipush (v := 117) hx hb dX7_unescape_53 (by decide) ?_
        refine lv_icmp_eq (tgt := 82) hx hb dX7_unescape_55 (by decide) (fun c25 => ?_) (fun c25 => ?_)
        · replace hw := hw.1 c25
          refine lv_aload_n hx hb dX7_unescape_82 rfl (lv_at hl 1 rfl) ?_
          refine lv_iload_n hx hb dX7_unescape_83 rfl (lv_at hl 3 rfl) ?_
          refine lv_iconst (v := 2) hx hb dX7_unescape_84 (by decide) ?_
          refine lv_iadd hx hb dX7_unescape_85 ?_
          refine lv_iload_n hx hb dX7_unescape_86 rfl (lv_at hl 2 rfl) ?_
          obtain ⟨h27, hw⟩ := hw
          refine h_goi C0 hW (va_runV (As := [.int (x3 + 2), .int x2]) (rest := []) ⟨hx, hb, hml, ho, hts⟩ (k_X7_unicodeNumber (l := l) (u := u) (X := X) (sz := H.size) _ t0 (x3 + 2) x2 S  hw) (cwV 2 hts gX7_unescape_X7_unicodeNumber rfl rfl rfl (by decide +kernel) ⟨Nat.le_of_ble_eq_true rfl, Nat.le_of_ble_eq_true rfl⟩) ⟨h_blind, (h_recv C0 hW (ci := 8) rfl h27), (h_pre C0 hW [.ref t0, .int (x3 + 2), .int x2])⟩ rfl rfl hl.1 rfl (lv_room (Nat.le_of_ble_eq_true rfl)) dX7_unescape_87 ⟨by show _ ≤ MC; omega, by show _ ≤ MS; omega⟩) (fun r26 S28 H locs h29 hW => ?_)
          obtain ⟨h30, hp⟩ := h29
          rw [h30] at hW
          replace hw := hp
          refine lv_istore (lv' := [(5, .int r26), (4, .int r14), (0, .ref t0), (2, .int x2), (3, .int x3)]) hx hb dX7_unescape_90 hl (by decide) rfl (fun ls hl9 => ?_)
          replace hl := hl9
          refine lv_iload hx hb dX7_unescape_92 (lv_at hl 0 rfl) ?_
          refine lv_iconst (v := (-1)) hx hb dX7_unescape_94 (by decide) ?_
          refine lv_icmp_eq (tgt := 106) hx hb dX7_unescape_95 (by decide) (fun c31 => ?_) (fun c31 => ?_)
          · replace hw := hw.1 c31
            exact t_X7_unescape_106 C0 t0 post hret  x3 S mc ms _ _ hkn hw _ _ _ hW (lv_sub hl [2, 4] rfl)
          · replace hw := hw.2 c31
            refine lv_iload hx hb dX7_unescape_98 (lv_at hl 0 rfl) ?_
            refine lv_sipush (v := 255) hx hb dX7_unescape_100 (by decide) ?_
            refine lv_icmp_le (tgt := 112) hx hb dX7_unescape_103 (by decide) (fun c32 => ?_) (fun c32 => ?_)
            · replace hw := hw.1 c32
              refine lv_aload_n hx hb dX7_unescape_112 rfl (lv_at hl 2 rfl) ?_
              obtain ⟨o33, h34, hw⟩ := hw
              refine h_getR C0 hW (T := TX7) (kf := 2) in_X7_unescape_RX7 h34 rfl (by decide) (List.mem_of_getElem? (i := 1) rfl) rfl dX7_unescape_113 ?_
              refine lv_iload hx hb dX7_unescape_116 (lv_at hl 0 rfl) ?_
              refine lv_i2c hx hb dX7_unescape_118 rfl ?_
              obtain ⟨a35, rfl, hw⟩ := hw
              obtain ⟨h41, k37, n38, h39, h40, hw⟩ := hw
              refine h_goq C0 hW (va_runV (As := [.int ((r26 : Int32).toUInt32 % 65536).toInt32]) (rest := []) ⟨hx, hb, hml, ho, hts⟩ (k_J4_append_cf (l := l) (u := u) (X := X) (sz := H.size) _ a35 ((r26 : Int32).toUInt32 % 65536).toInt32 S k37 n38 hw) (cwV 1 hts gX7_unescape_J4_append_cf468 rfl rfl rfl (by decide +kernel) ⟨Nat.le_of_ble_eq_true rfl, Nat.le_of_ble_eq_true rfl⟩) ⟨h_blind, (h_recv C0 hW (ci := 1) rfl h41), (h_pre C0 hW [.ref a35, .int ((r26 : Int32).toUInt32 % 65536).toInt32])⟩ rfl rfl hl.1 rfl (lv_room (Nat.le_of_ble_eq_true rfl)) dX7_unescape_119 ⟨by show _ ≤ MC; omega, by show _ ≤ MS; omega⟩) (fun r36 S42 H locs h43 hW => ?_)
              replace hw := h43
              have hkn : (k + k37) + (mc - k37) ≤ MC ∧ (n + n38) + (ms - n38) ≤ MS := by omega
              refine lv_pop hx hb dX7_unescape_122 (va_rf_cat _) ?_
              obtain ⟨v44, ev44⟩ : ∃ y : Int32, y = x3 + 6 := ⟨_, rfl⟩
              replace hw := hw v44 ev44
              refine lv_iinc (v := v44) (lv' := [(3, .int v44), (5, .int r26), (4, .int r14), (0, .ref t0), (2, .int x2)]) hx hb dX7_unescape_123 hl (k := 4) rfl (by rw [ev44]; rfl) (by decide) rfl (fun ls hl9 => ?_)
              replace hl := hl9
              refine lv_goto (tgt := 10) hx hb dX7_unescape_126 (by decide) ?_
              exact ih x2 v44 S42 (mc - k37) (ms - n38) _ _ hkn hw _ _ _ hW (lv_sub hl [3, 4, 0] rfl)
            · replace hw := hw.2 c32
              exact t_X7_unescape_106 C0 t0 post hret  x3 S mc ms _ _ hkn hw _ _ _ hW (lv_sub hl [2, 4] rfl)
        · replace hw := hw.2 c25
          refine lv_aload_n hx hb dX7_unescape_58 rfl (lv_at hl 1 rfl) ?_
          obtain ⟨o45, h46, hw⟩ := hw
          refine h_getR C0 hW (T := TX7) (kf := 2) in_X7_unescape_RX7 h46 rfl (by decide) (List.mem_of_getElem? (i := 1) rfl) rfl dX7_unescape_59 ?_
          refine lv_aload_n hx hb dX7_unescape_62 rfl (lv_at hl 1 rfl) ?_
          refine lv_iload_n hx hb dX7_unescape_63 rfl (lv_at hl 3 rfl) ?_
          refine lv_iconst (v := 1) hx hb dX7_unescape_64 (by decide) ?_
          refine lv_iadd hx hb dX7_unescape_65 ?_
          obtain ⟨h48, hw⟩ := hw
          refine h_goi C0 hW (va_runV (As := [.int (x3 + 1)]) (rest := [va_rf o45]) ⟨hx, hb, hml, ho, hts⟩ (k_X7_entrySign (l := l) (u := u) (X := X) (sz := H.size) _ t0 (x3 + 1) S  hw) (cwV 1 hts gX7_unescape_X7_entrySign rfl rfl rfl (by decide +kernel) ⟨Nat.le_of_ble_eq_true rfl, Nat.le_of_ble_eq_true rfl⟩) ⟨h_blind, (h_recv C0 hW (ci := 8) rfl h48), (h_pre C0 hW [.ref t0, .int (x3 + 1)])⟩ rfl rfl hl.1 rfl (lv_room (by simp [va_rf_cat, va_c_ref, va_c_int, va_c_null])) dX7_unescape_66 ⟨by show _ ≤ MC; omega, by show _ ≤ MS; omega⟩) (fun r47 S49 H locs h50 hW => ?_)
          obtain ⟨h51, hp⟩ := h50
          rw [h51] at hW
          replace hw := hp
          refine g_calls (As := [.int r47]) (rest := [va_rf o45]) ⟨hx, hb, hml, ho, hts⟩ hl.1 (k_X1_characterFor (l := l) _ r47 hw) (va_cwS 1 hts gX7_unescape_X1_characterFor rfl rfl rfl (by decide +kernel) ⟨Nat.le_of_ble_eq_true rfl, Nat.le_of_ble_eq_true rfl⟩) (by simp [va_rf_cat, va_c_ref, va_c_int, va_c_null]) dX7_unescape_69 rfl ⟨by show _ ≤ MC; omega, by show _ ≤ MS; omega⟩ (fun r52 hp => ?_)
          replace hw := hp
          obtain ⟨a53, rfl, hw⟩ := hw
          obtain ⟨h59, k55, n56, h57, h58, hw⟩ := hw
          refine h_goq C0 hW (va_runV (As := [.int r52]) (rest := []) ⟨hx, hb, hml, ho, hts⟩ (k_J4_append_cf (l := l) (u := u) (X := X) (sz := H.size) _ a53 r52 S k55 n56 hw) (cwV 1 hts gX7_unescape_J4_append_cf468 rfl rfl rfl (by decide +kernel) ⟨Nat.le_of_ble_eq_true rfl, Nat.le_of_ble_eq_true rfl⟩) ⟨h_blind, (h_recv C0 hW (ci := 1) rfl h59), (h_pre C0 hW [.ref a53, .int r52])⟩ rfl rfl hl.1 rfl (lv_room (Nat.le_of_ble_eq_true rfl)) dX7_unescape_72 ⟨by show _ ≤ MC; omega, by show _ ≤ MS; omega⟩) (fun r54 S60 H locs h61 hW => ?_)
          replace hw := h61
          have hkn : (k + k55) + (mc - k55) ≤ MC ∧ (n + n56) + (ms - n56) ≤ MS := by omega
          refine lv_pop hx hb dX7_unescape_75 (va_rf_cat _) ?_
          obtain ⟨v62, ev62⟩ : ∃ y : Int32, y = x3 + 2 := ⟨_, rfl⟩
          replace hw := hw v62 ev62
          refine lv_iinc (v := v62) (lv' := [(3, .int v62), (4, .int r14), (0, .ref t0), (2, .int x2)]) hx hb dX7_unescape_76 hl (k := 3) rfl (by rw [ev62]; rfl) (by decide) rfl (fun ls hl9 => ?_)
          replace hl := hl9
          refine lv_goto (tgt := 126) hx hb dX7_unescape_79 (by decide) ?_
          refine lv_goto (tgt := 10) hx hb dX7_unescape_126 (by decide) ?_
          exact ih x2 v62 S60 (mc - k55) (ms - n56) _ _ hkn hw _ _ _ hW (lv_sub hl [2, 3, 0] rfl)
      · replace hw := hw.2 c19
        refine lv_aload_n hx hb dX7_unescape_29 rfl (lv_at hl 1 rfl) ?_
        obtain ⟨o63, h64, hw⟩ := hw
        refine h_getR C0 hW (T := TX7) (kf := 2) in_X7_unescape_RX7 h64 rfl (by decide) (List.mem_of_getElem? (i := 1) rfl) rfl dX7_unescape_30 ?_
        refine lv_iload hx hb dX7_unescape_33 (lv_at hl 0 rfl) ?_
        refine lv_i2c hx hb dX7_unescape_35 rfl ?_
        obtain ⟨a65, rfl, hw⟩ := hw
        obtain ⟨h71, k67, n68, h69, h70, hw⟩ := hw
        refine h_goq C0 hW (va_runV (As := [.int ((r14 : Int32).toUInt32 % 65536).toInt32]) (rest := []) ⟨hx, hb, hml, ho, hts⟩ (k_J4_append_cf (l := l) (u := u) (X := X) (sz := H.size) _ a65 ((r14 : Int32).toUInt32 % 65536).toInt32 S k67 n68 hw) (cwV 1 hts gX7_unescape_J4_append_cf468 rfl rfl rfl (by decide +kernel) ⟨Nat.le_of_ble_eq_true rfl, Nat.le_of_ble_eq_true rfl⟩) ⟨h_blind, (h_recv C0 hW (ci := 1) rfl h71), (h_pre C0 hW [.ref a65, .int ((r14 : Int32).toUInt32 % 65536).toInt32])⟩ rfl rfl hl.1 rfl (lv_room (Nat.le_of_ble_eq_true rfl)) dX7_unescape_36 ⟨by show _ ≤ MC; omega, by show _ ≤ MS; omega⟩) (fun r66 S72 H locs h73 hW => ?_)
        replace hw := h73
        have hkn : (k + k67) + (mc - k67) ≤ MC ∧ (n + n68) + (ms - n68) ≤ MS := by omega
        refine lv_pop hx hb dX7_unescape_39 (va_rf_cat _) ?_
        obtain ⟨v74, ev74⟩ : ∃ y : Int32, y = x3 + 1 := ⟨_, rfl⟩
        replace hw := hw v74 ev74
        refine lv_iinc (v := v74) (lv' := [(3, .int v74), (4, .int r14), (0, .ref t0), (2, .int x2)]) hx hb dX7_unescape_40 hl (k := 3) rfl (by rw [ev74]; rfl) (by decide) rfl (fun ls hl9 => ?_)
        replace hl := hl9
        refine lv_goto (tgt := 126) hx hb dX7_unescape_43 (by decide) ?_
        refine lv_goto (tgt := 10) hx hb dX7_unescape_126 (by decide) ?_
        exact ih x2 v74 S72 (mc - k67) (ms - n68) _ _ hkn hw _ _ _ hW (lv_sub hl [2, 3, 0] rfl)
set_option maxHeartbeats 4000000 in
set_option maxRecDepth 100000 in
theorem t_X7_unescape_0 (C0 : hX p s m args c cX7_unescape 6 RX7 wsX7_unescape D (gt u.2.1) A u.1 u.2.2) (t0 : Nat) (post : Int32 → hS → Prop) (hret : ∀ (r : Int32) (S' : hS) (pc : Nat) (lv : List (Nat × Value)) (k n : Nat), k ≤ MC → n ≤ MS → post r S' → narrow .int (.int r) = .int r → decode cX7_unescape pc = .ok (.ireturn, 1) → gG p l e (rm_X7_unescape MC MS) s m args below meth c Q D A 6 k n (hC X S') pc lv [.int r])  : ∀ (z1 : Int32) (z2 : Int32) (S : hS) (mc ms k n : Nat), k + mc ≤ MC ∧ n + ms ≤ MS → w_X7_unescape u post t0  z1 z2 S mc ms → gG p l e (rm_X7_unescape MC MS) s m args below meth c Q D A 6 k n (hC X S) 0 [(0, .ref t0), (1, .int z1), (2, .int z2)] [] := by
  obtain ⟨⟨hx, hb, hml, ho, hts, hK, hA⟩, hR⟩ := id C0
  intro z1 z2 S mc ms k n hkn hw H locs ls hW hl
  rw [w_X7_unescape] at hw
  refine lv_aload_n hx hb dX7_unescape_0 rfl (lv_at hl 0 rfl) ?_
  obtain ⟨o1, h2, hw⟩ := hw
  refine h_getR C0 hW (T := TX7) (kf := 2) in_X7_unescape_RX7 h2 rfl (by decide) (List.mem_of_getElem? (i := 1) rfl) rfl dX7_unescape_1 ?_
  refine lv_iconst (v := 0) hx hb dX7_unescape_4 (by decide) ?_
  obtain ⟨a3, rfl, hw⟩ := hw
  obtain ⟨h9, k5, n6, h7, h8, hw⟩ := hw
  refine h_gov C0 hW (va_runV (As := [.int 0]) (rest := []) ⟨hx, hb, hml, ho, hts⟩ (k_J4_setLength_d0 (l := l) (u := u) (X := X) (sz := H.size) _ a3 0 S k5 n6 hw) (cwV 1 hts gX7_unescape_J4_setLength_d00df rfl rfl rfl (by decide +kernel) ⟨Nat.le_of_ble_eq_true rfl, Nat.le_of_ble_eq_true rfl⟩) ⟨h_blind, (h_recv C0 hW (ci := 1) rfl h9), (h_pre C0 hW [.ref a3, .int 0])⟩ rfl rfl hl.1 rfl (lv_room (Nat.le_of_ble_eq_true rfl)) dX7_unescape_5 ⟨by show _ ≤ MC; omega, by show _ ≤ MS; omega⟩) (fun S10 H locs h11 hW => ?_)
  replace hw := h11
  have hkn : (k + k5) + (mc - k5) ≤ MC ∧ (n + n6) + (ms - n6) ≤ MS := by omega
  refine lv_iload_n hx hb dX7_unescape_8 rfl (lv_at hl 1 rfl) ?_
  refine lv_istore_n (lv' := [(3, .int z1), (0, .ref t0), (1, .int z1), (2, .int z2)]) hx hb dX7_unescape_9 rfl hl (by decide) rfl (fun ls hl9 => ?_)
  replace hl := hl9
  obtain ⟨n12, hw⟩ := hw
  exact t_X7_unescape_10 C0 t0 post hret  n12 z2 z1 S10 (mc - k5) (ms - n6) _ _ hkn hw _ _ _ hW (lv_sub hl [1, 3, 0] rfl)
set_option maxHeartbeats 4000000 in
set_option maxRecDepth 100000 in
theorem k_X7_unescape {l : Launch} {D : va_G} {u : hU} {X : va_W} {sz : Nat} (post : Int32 → hS → Prop) (t0 : Nat) (z1 : Int32) (z2 : Int32) (S : hS) (mc ms : Nat) (hw : w_X7_unescape u post t0 z1 z2 S mc ms) : hMi l yX7_unescape wsX7_unescape (rm_X7_unescape mc ms) D (gt u.2.1) u.1 u.2.2 sz X S [.ref t0, .int z1, .int z2] post mc ms := by
  refine hMi_of (cc := cX7_unescape) (nL := 6) (ty := .int) (own := RX7) (by decide) rfl rfl (Nat.le_of_ble_eq_true rfl) ?_
  intro p e s m args below meth c A Q C0 hin hret
  exact t_X7_unescape_0 C0 t0 post hret z1 z2 S mc ms 0 0 ⟨by omega, by omega⟩ hw
end RAWM
