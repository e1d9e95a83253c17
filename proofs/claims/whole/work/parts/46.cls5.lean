section RAWM
variable {p : Program} {l : Launch} {e : Env} {s : State} {m : MethodId} {args : Array Value} {below : List Frame} {meth : Method} {c : Code} {Q : State → Prop}
variable {D : va_G} {A : Nat → Prop} {u : hU} {X : va_W} {MC MS : Nat}
abbrev rm_X9_wipe (MC MS : Nat) : Room := { frames := 6, cells := MC, slots := MS, locals := 126 }
theorem in_X9_wipe_RX7 : ∀ w ∈ wsX70, w ∈ wsX9_wipe := fun w hw9 => List.mem_cons_of_mem _ (List.mem_append_left _ (List.mem_append_right _ hw9))
theorem in_X9_wipe_RX9 : ∀ w ∈ wsX90, w ∈ wsX9_wipe := fun w hw9 => List.mem_cons_of_mem _ (List.mem_append_left _ (List.mem_append_left _ (List.mem_append_right _ hw9)))
set_option maxHeartbeats 4000000 in
set_option maxRecDepth 100000 in
theorem t_X9_wipe_0 (C0 : hX p s m args c cX9_wipe 2 RX9 wsX9_wipe D (gt u.2.1) A u.1 u.2.2) (t0 : Nat) (post : Int32 → hS → Prop) (hret : ∀ (r : Int32) (S' : hS) (pc : Nat) (lv : List (Nat × Value)) (k n : Nat), k ≤ MC → n ≤ MS → post r S' → narrow .int (.int r) = .int r → decode cX9_wipe pc = .ok (.ireturn, 1) → gG p l e (rm_X9_wipe MC MS) s m args below meth c Q D A 2 k n (hC X S') pc lv [.int r])  : ∀ (S : hS) (mc ms k n : Nat), k + mc ≤ MC ∧ n + ms ≤ MS → w_X9_wipe u post t0   S mc ms → gG p l e (rm_X9_wipe MC MS) s m args below meth c Q D A 2 k n (hC X S) 0 [(0, .ref t0)] [] := by
  obtain ⟨⟨hx, hb, hml, ho, hts, hK, hA⟩, hR⟩ := id C0
  intro  S mc ms k n hkn hw H locs ls hW hl
  rw [w_X9_wipe] at hw
  refine lv_aload_n hx hb dX9_wipe_0 rfl (lv_at hl 0 rfl) ?_
  obtain ⟨o1, h2, hw⟩ := hw
  refine h_getR C0 hW (T := TX9) (kf := 1) in_X9_wipe_RX9 h2 rfl (by decide) (List.mem_of_getElem? (i := 1) rfl) rfl dX9_wipe_1 ?_
  obtain ⟨a3, rfl, hw⟩ := hw
  obtain ⟨o4, h5, hw⟩ := hw
  refine h_getRN C0 hW (host := RX9) (T := TX7) (kf := 0) in_X9_wipe_RX7 h5 rfl (by decide) (by decide +kernel) rfl dX9_wipe_4 ?_
  obtain ⟨a6, rfl, hw⟩ := hw
  obtain ⟨h8, hw⟩ := hw
  refine h_goi C0 hW (va_runV (As := []) (rest := []) ⟨hx, hb, hml, ho, hts⟩ (k_J4_length_8a (l := l) (u := u) (X := X) (sz := H.size) _ a6  S  hw) (cwV 0 hts gX9_wipe_J4_length_8abf5 rfl rfl rfl (by decide +kernel) ⟨Nat.le_of_ble_eq_true rfl, Nat.le_of_ble_eq_true rfl⟩) ⟨h_blind, (h_recv C0 hW (ci := 1) rfl h8), (h_pre C0 hW [.ref a6])⟩ rfl rfl hl.1 rfl (lv_room (Nat.le_of_ble_eq_true rfl)) dX9_wipe_7 ⟨by show _ ≤ MC; omega, by show _ ≤ MS; omega⟩) (fun r7 S9 H locs h10 hW => ?_)
  obtain ⟨h11, hp⟩ := h10
  rw [h11] at hW
  replace hw := hp
  refine lv_istore_n (lv' := [(1, .int r7), (0, .ref t0)]) hx hb dX9_wipe_10 rfl hl (by decide) rfl (fun ls hl9 => ?_)
  replace hl := hl9
  refine lv_aload_n hx hb dX9_wipe_11 rfl (lv_at hl 1 rfl) ?_
  obtain ⟨o12, h13, hw⟩ := hw
  refine h_getR C0 hW (T := TX9) (kf := 1) in_X9_wipe_RX9 h13 rfl (by decide) (List.mem_of_getElem? (i := 1) rfl) rfl dX9_wipe_12 ?_
  obtain ⟨a14, rfl, hw⟩ := hw
  obtain ⟨o15, h16, hw⟩ := hw
  refine h_getRN C0 hW (host := RX9) (T := TX7) (kf := 0) in_X9_wipe_RX7 h16 rfl (by decide) (by decide +kernel) rfl dX9_wipe_15 ?_
  refine lv_iconst (v := 0) hx hb dX9_wipe_18 (by decide) ?_
  obtain ⟨a17, rfl, hw⟩ := hw
  obtain ⟨h23, k19, n20, h21, h22, hw⟩ := hw
  refine h_gov C0 hW (va_runV (As := [.int 0]) (rest := []) ⟨hx, hb, hml, ho, hts⟩ (k_J4_setLength_d0 (l := l) (u := u) (X := X) (sz := H.size) _ a17 0 S k19 n20 hw) (cwV 1 hts gX9_wipe_J4_setLength_d00df rfl rfl rfl (by decide +kernel) ⟨Nat.le_of_ble_eq_true rfl, Nat.le_of_ble_eq_true rfl⟩) ⟨h_blind, (h_recv C0 hW (ci := 1) rfl h23), (h_pre C0 hW [.ref a17, .int 0])⟩ rfl rfl hl.1 rfl (lv_room (Nat.le_of_ble_eq_true rfl)) dX9_wipe_19 ⟨by show _ ≤ MC; omega, by show _ ≤ MS; omega⟩) (fun S24 H locs h25 hW => ?_)
  replace hw := h25
  have hkn : (k + k19) + (mc - k19) ≤ MC ∧ (n + n20) + (ms - n20) ≤ MS := by omega
  refine lv_iload_n hx hb dX9_wipe_22 rfl (lv_at hl 0 rfl) ?_
  exact hret r7 S24 _ _ _ _ (by omega) (by omega) hw rfl dX9_wipe_23 _ _ _ hW hl
set_option maxHeartbeats 4000000 in
set_option maxRecDepth 100000 in
theorem k_X9_wipe {l : Launch} {D : va_G} {u : hU} {X : va_W} {sz : Nat} (post : Int32 → hS → Prop) (t0 : Nat) (S : hS) (mc ms : Nat) (hw : w_X9_wipe u post t0  S mc ms) : hMi l yX9_wipe wsX9_wipe (rm_X9_wipe mc ms) D (gt u.2.1) u.1 u.2.2 sz X S [.ref t0] post mc ms := by
  refine hMi_of (cc := cX9_wipe) (nL := 2) (ty := .int) (own := RX9) (by decide) rfl rfl (Nat.le_of_ble_eq_true rfl) ?_
  intro p e s m args below meth c A Q C0 hin hret
  exact t_X9_wipe_0 C0 t0 post hret  S mc ms 0 0 ⟨by omega, by omega⟩ hw
abbrev rm_X9_firstBrokenPlace (MC MS : Nat) : Room := { frames := 9, cells := MC, slots := MS, locals := 201 }
theorem in_X9_firstBrokenPlace_RX9 : ∀ w ∈ wsX90, w ∈ wsX9_firstBrokenPlace := fun w hw9 => List.mem_cons_of_mem _ (List.mem_append_left _ (List.mem_append_left _ (List.mem_append_right _ hw9)))
set_option maxHeartbeats 4000000 in
set_option maxRecDepth 100000 in
theorem t_X9_firstBrokenPlace_9 (C0 : hX p s m args c cX9_firstBrokenPlace 3 RX9 wsX9_firstBrokenPlace D (gt u.2.1) A u.1 u.2.2) (t0 : Nat) (post : Int32 → hS → Prop) (hret : ∀ (r : Int32) (S' : hS) (pc : Nat) (lv : List (Nat × Value)) (k n : Nat), k ≤ MC → n ≤ MS → post r S' → narrow .int (.int r) = .int r → decode cX9_firstBrokenPlace pc = .ok (.ireturn, 1) → gG p l e (rm_X9_firstBrokenPlace MC MS) s m args below meth c Q D A 3 k n (hC X S') pc lv [.int r])  : ∀ (nf : Nat) (x1 : Int32) (S : hS) (mc ms k n : Nat), k + mc ≤ MC ∧ n + ms ≤ MS → w_X9_firstBrokenPlace_9 u post t0  nf x1 S mc ms → gG p l e (rm_X9_firstBrokenPlace MC MS) s m args below meth c Q D A 3 k n (hC X S) 9 [(0, .ref t0), (1, .int x1)] [] := by
  obtain ⟨⟨hx, hb, hml, ho, hts, hK, hA⟩, hR⟩ := id C0
  intro nf
  induction nf with
  | zero => intro x1 S mc ms k n hkn hw; exact hw.elim
  | succ nf ih =>
    intro x1 S mc ms k n hkn hw H locs ls hW hl
    rw [w_X9_firstBrokenPlace_9] at hw
    refine lv_iload_n hx hb dX9_firstBrokenPlace_9 rfl (lv_at hl 1 rfl) ?_
    refine lv_sipush (v := 300) hx hb dX9_firstBrokenPlace_10 (by decide) ?_
    refine lv_icmp_gt (tgt := 48) hx hb dX9_firstBrokenPlace_13 (by decide) (fun c9 => ?_) (fun c9 => ?_)
    · replace hw := hw.1 c9
      refine lv_bipush (v := (-5)) hx hb dX9_firstBrokenPlace_48 (by decide) ?_
      exact hret (-5) S _ _ _ _ (by omega) (by omega) hw rfl dX9_firstBrokenPlace_50 _ _ _ hW hl
    · replace hw := hw.2 c9
      refine lv_aload_n hx hb dX9_firstBrokenPlace_16 rfl (lv_at hl 0 rfl) ?_
      obtain ⟨o10, h11, hw⟩ := hw
      refine h_getR C0 hW (T := TX9) (kf := 1) in_X9_firstBrokenPlace_RX9 h11 rfl (by decide) (List.mem_of_getElem? (i := 1) rfl) rfl dX9_firstBrokenPlace_17 ?_
      obtain ⟨a12, rfl, hw⟩ := hw
      obtain ⟨h14, hw⟩ := hw
      refine h_goi C0 hW (va_runV (As := []) (rest := []) ⟨hx, hb, hml, ho, hts⟩ (k_X7_readEntry (l := l) (u := u) (X := X) (sz := H.size) _ a12  S  hw) (cwV 0 hts gX9_firstBrokenPlace_X7_readEntry rfl rfl rfl (by decide +kernel) ⟨Nat.le_of_ble_eq_true rfl, Nat.le_of_ble_eq_true rfl⟩) ⟨h_blind, (h_recv C0 hW (ci := 8) rfl h14), (h_pre C0 hW [.ref a12])⟩ rfl rfl hl.1 rfl (lv_room (Nat.le_of_ble_eq_true rfl)) dX9_firstBrokenPlace_20 ⟨by show _ ≤ MC; omega, by show _ ≤ MS; omega⟩) (fun r13 S15 H locs h16 hW => ?_)
      replace hw := h16
      refine lv_if_eq (tgt := 48) hx hb dX9_firstBrokenPlace_23 (by decide) (fun c17 => ?_) (fun c17 => ?_)
      · replace hw := hw.1 c17
        refine lv_bipush (v := (-5)) hx hb dX9_firstBrokenPlace_48 (by decide) ?_
        exact hret (-5) S15 _ _ _ _ (by omega) (by omega) hw rfl dX9_firstBrokenPlace_50 _ _ _ hW hl
      · replace hw := hw.2 c17
        refine lv_aload_n hx hb dX9_firstBrokenPlace_26 rfl (lv_at hl 0 rfl) ?_
        obtain ⟨o18, h19, hw⟩ := hw
        refine h_getR C0 hW (T := TX9) (kf := 1) in_X9_firstBrokenPlace_RX9 h19 rfl (by decide) (List.mem_of_getElem? (i := 1) rfl) rfl dX9_firstBrokenPlace_27 ?_
        obtain ⟨a20, rfl, hw⟩ := hw
        obtain ⟨h26, k22, n23, h24, h25, hw⟩ := hw
        refine h_goi C0 hW (va_runV (As := []) (rest := []) ⟨hx, hb, hml, ho, hts⟩ (k_X7_brokenPlace (l := l) (u := u) (X := X) (sz := H.size) _ a20  S15 k22 n23 hw) (cwV 0 hts gX9_firstBrokenPlace_X7_brokenPlace rfl rfl rfl (by decide +kernel) ⟨Nat.le_of_ble_eq_true rfl, Nat.le_of_ble_eq_true rfl⟩) ⟨h_blind, (h_recv C0 hW (ci := 8) rfl h26), (h_pre C0 hW [.ref a20])⟩ rfl rfl hl.1 rfl (lv_room (Nat.le_of_ble_eq_true rfl)) dX9_firstBrokenPlace_30 ⟨by show _ ≤ MC; omega, by show _ ≤ MS; omega⟩) (fun r21 S27 H locs h28 hW => ?_)
        replace hw := h28
        have hkn : (k + k22) + (mc - k22) ≤ MC ∧ (n + n23) + (ms - n23) ≤ MS := by omega
        refine lv_istore_n (lv' := [(2, .int r21), (0, .ref t0), (1, .int x1)]) hx hb dX9_firstBrokenPlace_33 rfl hl (by decide) rfl (fun ls hl9 => ?_)
        replace hl := hl9
        refine lv_iload_n hx hb dX9_firstBrokenPlace_34 rfl (lv_at hl 0 rfl) ?_
        refine lv_bipush (v := (-5)) hx hb dX9_firstBrokenPlace_35 (by decide) ?_
        refine lv_icmp_eq (tgt := 42) hx hb dX9_firstBrokenPlace_37 (by decide) (fun c29 => ?_) (fun c29 => ?_)
        · replace hw := hw.1 c29
          obtain ⟨v30, ev30⟩ : ∃ y : Int32, y = x1 + 1 := ⟨_, rfl⟩
          replace hw := hw v30 ev30
          refine lv_iinc (v := v30) (lv' := [(1, .int v30), (2, .int r21), (0, .ref t0)]) hx hb dX9_firstBrokenPlace_42 hl (k := 2) rfl (by rw [ev30]; rfl) (by decide) rfl (fun ls hl9 => ?_)
          replace hl := hl9
          refine lv_goto (tgt := 9) hx hb dX9_firstBrokenPlace_45 (by decide) ?_
          exact ih v30 S27 (mc - k22) (ms - n23) _ _ hkn hw _ _ _ hW (lv_sub hl [2, 0] rfl)
        · replace hw := hw.2 c29
          refine lv_iload_n hx hb dX9_firstBrokenPlace_40 rfl (lv_at hl 0 rfl) ?_
          exact hret r21 S27 _ _ _ _ (by omega) (by omega) hw rfl dX9_firstBrokenPlace_41 _ _ _ hW hl
set_option maxHeartbeats 4000000 in
set_option maxRecDepth 100000 in
theorem t_X9_firstBrokenPlace_0 (C0 : hX p s m args c cX9_firstBrokenPlace 3 RX9 wsX9_firstBrokenPlace D (gt u.2.1) A u.1 u.2.2) (t0 : Nat) (post : Int32 → hS → Prop) (hret : ∀ (r : Int32) (S' : hS) (pc : Nat) (lv : List (Nat × Value)) (k n : Nat), k ≤ MC → n ≤ MS → post r S' → narrow .int (.int r) = .int r → decode cX9_firstBrokenPlace pc = .ok (.ireturn, 1) → gG p l e (rm_X9_firstBrokenPlace MC MS) s m args below meth c Q D A 3 k n (hC X S') pc lv [.int r])  : ∀ (S : hS) (mc ms k n : Nat), k + mc ≤ MC ∧ n + ms ≤ MS → w_X9_firstBrokenPlace u post t0   S mc ms → gG p l e (rm_X9_firstBrokenPlace MC MS) s m args below meth c Q D A 3 k n (hC X S) 0 [(0, .ref t0)] [] := by
  obtain ⟨⟨hx, hb, hml, ho, hts, hK, hA⟩, hR⟩ := id C0
  intro  S mc ms k n hkn hw H locs ls hW hl
  rw [w_X9_firstBrokenPlace] at hw
  refine lv_aload_n hx hb dX9_firstBrokenPlace_0 rfl (lv_at hl 0 rfl) ?_
  obtain ⟨o1, h2, hw⟩ := hw
  refine h_getR C0 hW (T := TX9) (kf := 1) in_X9_firstBrokenPlace_RX9 h2 rfl (by decide) (List.mem_of_getElem? (i := 1) rfl) rfl dX9_firstBrokenPlace_1 ?_
  obtain ⟨a3, rfl, hw⟩ := hw
  obtain ⟨h5, hw⟩ := hw
  refine h_gov C0 hW (va_runV (As := []) (rest := []) ⟨hx, hb, hml, ho, hts⟩ (k_X7_rewind (l := l) (u := u) (X := X) (sz := H.size) _ a3  S  hw) (cwV 0 hts gX9_firstBrokenPlace_X7_rewind rfl rfl rfl (by decide +kernel) ⟨Nat.le_of_ble_eq_true rfl, Nat.le_of_ble_eq_true rfl⟩) ⟨h_blind, (h_recv C0 hW (ci := 8) rfl h5), (h_pre C0 hW [.ref a3])⟩ rfl rfl hl.1 rfl (lv_room (Nat.le_of_ble_eq_true rfl)) dX9_firstBrokenPlace_4 ⟨by show _ ≤ MC; omega, by show _ ≤ MS; omega⟩) (fun S6 H locs h7 hW => ?_)
  replace hw := h7
  refine lv_iconst (v := 0) hx hb dX9_firstBrokenPlace_7 (by decide) ?_
  refine lv_istore_n (lv' := [(1, .int 0), (0, .ref t0)]) hx hb dX9_firstBrokenPlace_8 rfl hl (by decide) rfl (fun ls hl9 => ?_)
  replace hl := hl9
  obtain ⟨n8, hw⟩ := hw
  exact t_X9_firstBrokenPlace_9 C0 t0 post hret  n8 0 S6 mc ms _ _ hkn hw _ _ _ hW (lv_sub hl [1, 0] rfl)
set_option maxHeartbeats 4000000 in
set_option maxRecDepth 100000 in
theorem k_X9_firstBrokenPlace {l : Launch} {D : va_G} {u : hU} {X : va_W} {sz : Nat} (post : Int32 → hS → Prop) (t0 : Nat) (S : hS) (mc ms : Nat) (hw : w_X9_firstBrokenPlace u post t0  S mc ms) : hMi l yX9_firstBrokenPlace wsX9_firstBrokenPlace (rm_X9_firstBrokenPlace mc ms) D (gt u.2.1) u.1 u.2.2 sz X S [.ref t0] post mc ms := by
  refine hMi_of (cc := cX9_firstBrokenPlace) (nL := 3) (ty := .int) (own := RX9) (by decide) rfl rfl (Nat.le_of_ble_eq_true rfl) ?_
  intro p e s m args below meth c A Q C0 hin hret
  exact t_X9_firstBrokenPlace_0 C0 t0 post hret  S mc ms 0 0 ⟨by omega, by omega⟩ hw
abbrev rm_X9_load (MC MS : Nat) : Room := { frames := 10, cells := MC, slots := MS, locals := 223 }
theorem in_X9_load_RX9 : ∀ w ∈ wsX90, w ∈ wsX9_load := fun w hw9 => List.mem_cons_of_mem _ (List.mem_append_left _ (List.mem_append_left _ (List.mem_append_left _ (List.mem_append_left _ (List.mem_append_left _ (List.mem_append_left _ (List.mem_append_right _ hw9)))))))
set_option maxHeartbeats 4000000 in
set_option maxRecDepth 100000 in
theorem t_X9_load_94 (C0 : hX p s m args c cX9_load 4 RX9 wsX9_load D (gt u.2.1) A u.1 u.2.2) (t0 : Nat) (post : Int32 → hS → Prop) (hret : ∀ (r : Int32) (S' : hS) (pc : Nat) (lv : List (Nat × Value)) (k n : Nat), k ≤ MC → n ≤ MS → post r S' → narrow .int (.int r) = .int r → decode cX9_load pc = .ok (.ireturn, 1) → gG p l e (rm_X9_load MC MS) s m args below meth c Q D A 4 k n (hC X S') pc lv [.int r])  : ∀ (x2 : Nat) (x3 : Int32) (S : hS) (mc ms k n : Nat), k + mc ≤ MC ∧ n + ms ≤ MS → w_X9_load_94 u post t0  x2 x3 S mc ms → gG p l e (rm_X9_load MC MS) s m args below meth c Q D A 4 k n (hC X S) 94 [(0, .ref t0), (2, .ref x2), (3, .int x3)] [] := by
  obtain ⟨⟨hx, hb, hml, ho, hts, hK, hA⟩, hR⟩ := id C0
  intro x2 x3 S mc ms k n hkn hw H locs ls hW hl
  rw [w_X9_load_94] at hw
  refine lv_aload_n hx hb dX9_load_94 rfl (lv_at hl 1 rfl) ?_
  refine lv_aload_n hx hb dX9_load_95 rfl (lv_at hl 0 rfl) ?_
  obtain ⟨o79, h80, hw⟩ := hw
  refine h_getR C0 hW (T := TX9) (kf := 3) in_X9_load_RX9 h80 rfl (by decide) (List.mem_of_getElem? (i := 2) rfl) rfl dX9_load_96 ?_
  obtain ⟨h82, hw⟩ := hw
  refine h_gov C0 hW (va_runV (As := [va_rf o79]) (rest := []) ⟨hx, hb, hml, ho, hts⟩ (k_X3_takeAll (l := l) (u := u) (X := X) (sz := H.size) _ x2 o79 S  hw) (cwV 1 hts gX9_load_X3_takeAll rfl rfl rfl (by decide +kernel) ⟨Nat.le_of_ble_eq_true rfl, Nat.le_of_ble_eq_true rfl⟩) ⟨h_blind, (h_recv C0 hW (ci := 4) rfl h82), (h_pre C0 hW [.ref x2, va_rf o79])⟩ rfl rfl hl.1 rfl (lv_room (Nat.le_of_ble_eq_true rfl)) dX9_load_99 ⟨by show _ ≤ MC; omega, by show _ ≤ MS; omega⟩) (fun S83 H locs h84 hW => ?_)
  replace hw := h84
  refine lv_iload_n hx hb dX9_load_102 rfl (lv_at hl 2 rfl) ?_
  exact hret x3 S83 _ _ _ _ (by omega) (by omega) hw rfl dX9_load_103 _ _ _ hW hl
set_option maxHeartbeats 4000000 in
set_option maxRecDepth 100000 in
theorem t_X9_load_44 (C0 : hX p s m args c cX9_load 4 RX9 wsX9_load D (gt u.2.1) A u.1 u.2.2) (t0 : Nat) (post : Int32 → hS → Prop) (hret : ∀ (r : Int32) (S' : hS) (pc : Nat) (lv : List (Nat × Value)) (k n : Nat), k ≤ MC → n ≤ MS → post r S' → narrow .int (.int r) = .int r → decode cX9_load pc = .ok (.ireturn, 1) → gG p l e (rm_X9_load MC MS) s m args below meth c Q D A 4 k n (hC X S') pc lv [.int r])  : ∀ (nf : Nat) (x2 : Nat) (x3 : Int32) (S : hS) (mc ms k n : Nat), k + mc ≤ MC ∧ n + ms ≤ MS → w_X9_load_44 u post t0  nf x2 x3 S mc ms → gG p l e (rm_X9_load MC MS) s m args below meth c Q D A 4 k n (hC X S) 44 [(0, .ref t0), (2, .ref x2), (3, .int x3)] [] := by
  obtain ⟨⟨hx, hb, hml, ho, hts, hK, hA⟩, hR⟩ := id C0
  intro nf
  induction nf with
  | zero => intro x2 x3 S mc ms k n hkn hw; exact hw.elim
  | succ nf ih =>
    intro x2 x3 S mc ms k n hkn hw H locs ls hW hl
    rw [w_X9_load_44] at hw
    refine lv_iload_n hx hb dX9_load_44 rfl (lv_at hl 2 rfl) ?_
    refine lv_sipush (v := 300) hx hb dX9_load_45 (by decide) ?_
    refine lv_icmp_gt (tgt := 94) hx hb dX9_load_48 (by decide) (fun c35 => ?_) (fun c35 => ?_)
    · replace hw := hw.1 c35
      exact t_X9_load_94 C0 t0 post hret  x2 x3 S mc ms _ _ hkn hw _ _ _ hW (lv_sub hl [0, 1, 2] rfl)
    · replace hw := hw.2 c35
      refine lv_aload_n hx hb dX9_load_51 rfl (lv_at hl 0 rfl) ?_
      obtain ⟨o36, h37, hw⟩ := hw
      refine h_getR C0 hW (T := TX9) (kf := 1) in_X9_load_RX9 h37 rfl (by decide) (List.mem_of_getElem? (i := 3) rfl) rfl dX9_load_52 ?_
      obtain ⟨a38, rfl, hw⟩ := hw
      obtain ⟨h40, hw⟩ := hw
      refine h_goi C0 hW (va_runV (As := []) (rest := []) ⟨hx, hb, hml, ho, hts⟩ (k_X7_readEntry (l := l) (u := u) (X := X) (sz := H.size) _ a38  S  hw) (cwV 0 hts gX9_load_X7_readEntry rfl rfl rfl (by decide +kernel) ⟨Nat.le_of_ble_eq_true rfl, Nat.le_of_ble_eq_true rfl⟩) ⟨h_blind, (h_recv C0 hW (ci := 8) rfl h40), (h_pre C0 hW [.ref a38])⟩ rfl rfl hl.1 rfl (lv_room (Nat.le_of_ble_eq_true rfl)) dX9_load_55 ⟨by show _ ≤ MC; omega, by show _ ≤ MS; omega⟩) (fun r39 S41 H locs h42 hW => ?_)
      replace hw := h42
      refine lv_if_eq (tgt := 94) hx hb dX9_load_58 (by decide) (fun c43 => ?_) (fun c43 => ?_)
      · replace hw := hw.1 c43
        exact t_X9_load_94 C0 t0 post hret  x2 x3 S41 mc ms _ _ hkn hw _ _ _ hW (lv_sub hl [0, 1, 2] rfl)
      · replace hw := hw.2 c43
        refine lv_aload_n hx hb dX9_load_61 rfl (lv_at hl 0 rfl) ?_
        obtain ⟨o44, h45, hw⟩ := hw
        refine h_getR C0 hW (T := TX9) (kf := 3) in_X9_load_RX9 h45 rfl (by decide) (List.mem_of_getElem? (i := 2) rfl) rfl dX9_load_62 ?_
        refine lv_aload_n hx hb dX9_load_65 rfl (lv_at hl 0 rfl) ?_
        obtain ⟨o46, h47, hw⟩ := hw
        refine h_getR C0 hW (T := TX9) (kf := 1) in_X9_load_RX9 h47 rfl (by decide) (List.mem_of_getElem? (i := 3) rfl) rfl dX9_load_66 ?_
        obtain ⟨a48, rfl, hw⟩ := hw
        obtain ⟨h54, k50, n51, h52, h53, hw⟩ := hw
        refine h_goq C0 hW (va_runV (As := []) (rest := [va_rf o44]) ⟨hx, hb, hml, ho, hts⟩ (k_X7_keyText (l := l) (u := u) (X := X) (sz := H.size) _ a48  S41 k50 n51 hw) (cwV 0 hts gX9_load_X7_keyText rfl rfl rfl (by decide +kernel) ⟨Nat.le_of_ble_eq_true rfl, Nat.le_of_ble_eq_true rfl⟩) ⟨h_blind, (h_recv C0 hW (ci := 8) rfl h54), (h_pre C0 hW [.ref a48])⟩ rfl rfl hl.1 rfl (lv_room (by simp [va_rf_cat, va_c_ref, va_c_int, va_c_null])) dX9_load_69 ⟨by show _ ≤ MC; omega, by show _ ≤ MS; omega⟩) (fun r49 S55 H locs h56 hW => ?_)
        replace hw := h56
        have hkn : (k + k50) + (mc - k50) ≤ MC ∧ (n + n51) + (ms - n51) ≤ MS := by omega
        refine lv_aload_n hx hb dX9_load_72 rfl (lv_at hl 0 rfl) ?_
        obtain ⟨o57, h58, hw⟩ := hw
        refine h_getR C0 hW (T := TX9) (kf := 1) in_X9_load_RX9 h58 rfl (by decide) (List.mem_of_getElem? (i := 3) rfl) rfl dX9_load_73 ?_
        obtain ⟨a59, rfl, hw⟩ := hw
        obtain ⟨h65, k61, n62, h63, h64, hw⟩ := hw
        refine h_goq C0 hW (va_runV (As := []) (rest := [va_rf r49, va_rf o44]) ⟨hx, hb, hml, ho, hts⟩ (k_X7_valueText (l := l) (u := u) (X := X) (sz := H.size) _ a59  S55 k61 n62 hw) (cwV 0 hts gX9_load_X7_valueText rfl rfl rfl (by decide +kernel) ⟨Nat.le_of_ble_eq_true rfl, Nat.le_of_ble_eq_true rfl⟩) ⟨h_blind, (h_recv C0 hW (ci := 8) rfl h65), (h_pre C0 hW [.ref a59])⟩ rfl rfl hl.1 rfl (lv_room (by simp [va_rf_cat, va_c_ref, va_c_int, va_c_null])) dX9_load_76 ⟨by show _ ≤ MC; omega, by show _ ≤ MS; omega⟩) (fun r60 S66 H locs h67 hW => ?_)
        replace hw := h67
        have hkn : ((k + k50) + k61) + ((mc - k50) - k61) ≤ MC ∧ ((n + n51) + n62) + ((ms - n51) - n62) ≤ MS := by omega
        obtain ⟨a68, rfl, hw⟩ := hw
        obtain ⟨h74, k70, n71, h72, h73, hw⟩ := hw
        refine h_goi C0 hW (va_runV (As := [va_rf r49, va_rf r60]) (rest := []) ⟨hx, hb, hml, ho, hts⟩ (k_X3_put (l := l) (u := u) (X := X) (sz := H.size) _ a68 r49 r60 S66 k70 n71 hw) (cwV 2 hts gX9_load_X3_put rfl rfl rfl (by decide +kernel) ⟨Nat.le_of_ble_eq_true rfl, Nat.le_of_ble_eq_true rfl⟩) ⟨h_blind, (h_recv C0 hW (ci := 4) rfl h74), (h_pre C0 hW [.ref a68, va_rf r49, va_rf r60])⟩ rfl rfl hl.1 rfl (lv_room (Nat.le_of_ble_eq_true rfl)) dX9_load_79 ⟨by show _ ≤ MC; omega, by show _ ≤ MS; omega⟩) (fun r69 S75 H locs h76 hW => ?_)
        replace hw := h76
        have hkn : (((k + k50) + k61) + k70) + (((mc - k50) - k61) - k70) ≤ MC ∧ (((n + n51) + n62) + n71) + (((ms - n51) - n62) - n71) ≤ MS := by omega
        refine lv_if_ne (tgt := 88) hx hb dX9_load_82 (by decide) (fun c77 => ?_) (fun c77 => ?_)
        · replace hw := hw.1 c77
          obtain ⟨v78, ev78⟩ : ∃ y : Int32, y = x3 + 1 := ⟨_, rfl⟩
          replace hw := hw v78 ev78
          refine lv_iinc (v := v78) (lv' := [(3, .int v78), (0, .ref t0), (2, .ref x2)]) hx hb dX9_load_88 hl (k := 2) rfl (by rw [ev78]; rfl) (by decide) rfl (fun ls hl9 => ?_)
          replace hl := hl9
          refine lv_goto (tgt := 44) hx hb dX9_load_91 (by decide) ?_
          exact ih x2 v78 S75 (((mc - k50) - k61) - k70) (((ms - n51) - n62) - n71) _ _ hkn hw _ _ _ hW (lv_sub hl [1, 2, 0] rfl)
        · replace hw := hw.2 c77
          refine lv_bipush (v := (-3)) hx hb dX9_load_85 (by decide) ?_
          exact hret (-3) S75 _ _ _ _ (by omega) (by omega) hw rfl dX9_load_87 _ _ _ hW hl
set_option maxHeartbeats 4000000 in
set_option maxRecDepth 100000 in
theorem t_X9_load_0 (C0 : hX p s m args c cX9_load 4 RX9 wsX9_load D (gt u.2.1) A u.1 u.2.2) (t0 : Nat) (post : Int32 → hS → Prop) (hret : ∀ (r : Int32) (S' : hS) (pc : Nat) (lv : List (Nat × Value)) (k n : Nat), k ≤ MC → n ≤ MS → post r S' → narrow .int (.int r) = .int r → decode cX9_load pc = .ok (.ireturn, 1) → gG p l e (rm_X9_load MC MS) s m args below meth c Q D A 4 k n (hC X S') pc lv [.int r])  : ∀ (z1 : Int32) (S : hS) (mc ms k n : Nat), k + mc ≤ MC ∧ n + ms ≤ MS → w_X9_load u post t0  z1 S mc ms → gG p l e (rm_X9_load MC MS) s m args below meth c Q D A 4 k n (hC X S) 0 [(0, .ref t0), (1, .int z1)] [] := by
  obtain ⟨⟨hx, hb, hml, ho, hts, hK, hA⟩, hR⟩ := id C0
  intro z1 S mc ms k n hkn hw H locs ls hW hl
  rw [w_X9_load] at hw
  refine lv_aload_n hx hb dX9_load_0 rfl (lv_at hl 0 rfl) ?_
  obtain ⟨o1, h2, hw⟩ := hw
  refine h_getR C0 hW (T := TX9) (kf := 2) in_X9_load_RX9 h2 rfl (by decide) (List.mem_of_getElem? (i := 1) rfl) rfl dX9_load_1 ?_
  refine lv_iload_n hx hb dX9_load_4 rfl (lv_at hl 1 rfl) ?_
  obtain ⟨a3, rfl, hw⟩ := hw
  obtain ⟨h5, hw⟩ := hw
  refine h_goq C0 hW (va_runV (As := [.int z1]) (rest := []) ⟨hx, hb, hml, ho, hts⟩ (k_X4_layerAt (l := l) (u := u) (X := X) (sz := H.size) _ a3 z1 S  hw) (cwV 1 hts gX9_load_X4_layerAt rfl rfl rfl (by decide +kernel) ⟨Nat.le_of_ble_eq_true rfl, Nat.le_of_ble_eq_true rfl⟩) ⟨h_blind, (h_recv C0 hW (ci := 5) rfl h5), (h_pre C0 hW [.ref a3, .int z1])⟩ rfl rfl hl.1 rfl (lv_room (Nat.le_of_ble_eq_true rfl)) dX9_load_5 ⟨by show _ ≤ MC; omega, by show _ ≤ MS; omega⟩) (fun r4 S6 H locs h7 hW => ?_)
  obtain ⟨h8, hp⟩ := h7
  rw [h8] at hW
  replace hw := hp
  refine lv_astoreV_n (i := 2) (lv' := [(2, va_rf r4), (0, .ref t0), (1, .int z1)]) hx hb dX9_load_8 rfl hl (by decide) rfl (fun ls hl9 => ?_)
  replace hl := hl9
  refine lv_aloadV_n hx hb dX9_load_9 rfl (lv_at hl 0 rfl) ?_
  refine lv_ifnonnullV (tgt := 15) hx hb dX9_load_10 (by decide) (fun a10 c9 => ?_) (fun c9 => ?_)
  · subst c9
    replace hw := hw.2 a10 rfl
    refine lv_aload_n hx hb dX9_load_15 rfl (lv_at hl 1 rfl) ?_
    obtain ⟨h16, k12, n13, h14, h15, hw⟩ := hw
    refine h_goi C0 hW (va_runV (As := []) (rest := []) ⟨hx, hb, hml, ho, hts⟩ (k_X9_firstBrokenPlace (l := l) (u := u) (X := X) (sz := H.size) _ t0  S k12 n13 hw) (cwV 0 hts gX9_load_X9_firstBrokenPlace rfl rfl rfl (by decide +kernel) ⟨Nat.le_of_ble_eq_true rfl, Nat.le_of_ble_eq_true rfl⟩) ⟨h_blind, (h_recv C0 hW (ci := 10) rfl h16), (h_pre C0 hW [.ref t0])⟩ rfl rfl hl.1 rfl (lv_room (Nat.le_of_ble_eq_true rfl)) dX9_load_16 ⟨by show _ ≤ MC; omega, by show _ ≤ MS; omega⟩) (fun r11 S17 H locs h18 hW => ?_)
    replace hw := h18
    have hkn : (k + k12) + (mc - k12) ≤ MC ∧ (n + n13) + (ms - n13) ≤ MS := by omega
    refine lv_bipush (v := (-5)) hx hb dX9_load_19 (by decide) ?_
    refine lv_icmp_eq (tgt := 27) hx hb dX9_load_21 (by decide) (fun c19 => ?_) (fun c19 => ?_)
    · replace hw := hw.1 c19
      refine lv_aload_n hx hb dX9_load_27 rfl (lv_at hl 1 rfl) ?_
      obtain ⟨o20, h21, hw⟩ := hw
      refine h_getR C0 hW (T := TX9) (kf := 3) in_X9_load_RX9 h21 rfl (by decide) (List.mem_of_getElem? (i := 2) rfl) rfl dX9_load_28 ?_
      refine lv_aload_n hx hb dX9_load_31 rfl (lv_at hl 0 rfl) ?_
      obtain ⟨a22, rfl, hw⟩ := hw
      obtain ⟨h24, hw⟩ := hw
      refine h_gov C0 hW (va_runV (As := [.ref a10]) (rest := []) ⟨hx, hb, hml, ho, hts⟩ (k_X3_takeAll (l := l) (u := u) (X := X) (sz := H.size) _ a22 (some a10) S17  hw) (cwV 1 hts gX9_load_X3_takeAll rfl rfl rfl (by decide +kernel) ⟨Nat.le_of_ble_eq_true rfl, Nat.le_of_ble_eq_true rfl⟩) ⟨h_blind, (h_recv C0 hW (ci := 4) rfl h24), (h_pre C0 hW [.ref a22, .ref a10])⟩ rfl rfl hl.1 rfl (lv_room (Nat.le_of_ble_eq_true rfl)) dX9_load_32 ⟨by show _ ≤ MC; omega, by show _ ≤ MS; omega⟩) (fun S25 H locs h26 hW => ?_)
      replace hw := h26
      refine lv_iconst (v := 0) hx hb dX9_load_35 (by decide) ?_
      refine lv_istore_n (lv' := [(3, .int 0), (2, .ref a10), (0, .ref t0), (1, .int z1)]) hx hb dX9_load_36 rfl hl (by decide) rfl (fun ls hl9 => ?_)
      replace hl := hl9
      refine lv_aload_n hx hb dX9_load_37 rfl (lv_at hl 2 rfl) ?_
      obtain ⟨o27, h28, hw⟩ := hw
      refine h_getR C0 hW (T := TX9) (kf := 1) in_X9_load_RX9 h28 rfl (by decide) (List.mem_of_getElem? (i := 3) rfl) rfl dX9_load_38 ?_
      obtain ⟨a29, rfl, hw⟩ := hw
      obtain ⟨h31, hw⟩ := hw
      refine h_gov C0 hW (va_runV (As := []) (rest := []) ⟨hx, hb, hml, ho, hts⟩ (k_X7_rewind (l := l) (u := u) (X := X) (sz := H.size) _ a29  S25  hw) (cwV 0 hts gX9_load_X7_rewind rfl rfl rfl (by decide +kernel) ⟨Nat.le_of_ble_eq_true rfl, Nat.le_of_ble_eq_true rfl⟩) ⟨h_blind, (h_recv C0 hW (ci := 8) rfl h31), (h_pre C0 hW [.ref a29])⟩ rfl rfl hl.1 rfl (lv_room (Nat.le_of_ble_eq_true rfl)) dX9_load_41 ⟨by show _ ≤ MC; omega, by show _ ≤ MS; omega⟩) (fun S32 H locs h33 hW => ?_)
      replace hw := h33
      obtain ⟨n34, hw⟩ := hw
      exact t_X9_load_44 C0 t0 post hret  n34 a10 0 S32 (mc - k12) (ms - n13) _ _ hkn hw _ _ _ hW (lv_sub hl [2, 1, 0] rfl)
    · replace hw := hw.2 c19
      refine lv_bipush (v := (-6)) hx hb dX9_load_24 (by decide) ?_
      exact hret (-6) S17 _ _ _ _ (by omega) (by omega) hw rfl dX9_load_26 _ _ _ hW hl
  · subst c9
    replace hw := hw.1 rfl
    refine lv_iconst (v := (-1)) hx hb dX9_load_13 (by decide) ?_
    exact hret (-1) S _ _ _ _ (by omega) (by omega) hw rfl dX9_load_14 _ _ _ hW hl
set_option maxHeartbeats 4000000 in
set_option maxRecDepth 100000 in
theorem k_X9_load {l : Launch} {D : va_G} {u : hU} {X : va_W} {sz : Nat} (post : Int32 → hS → Prop) (t0 : Nat) (z1 : Int32) (S : hS) (mc ms : Nat) (hw : w_X9_load u post t0 z1 S mc ms) : hMi l yX9_load wsX9_load (rm_X9_load mc ms) D (gt u.2.1) u.1 u.2.2 sz X S [.ref t0, .int z1] post mc ms := by
  refine hMi_of (cc := cX9_load) (nL := 4) (ty := .int) (own := RX9) (by decide) rfl rfl (Nat.le_of_ble_eq_true rfl) ?_
  intro p e s m args below meth c A Q C0 hin hret
  exact t_X9_load_0 C0 t0 post hret z1 S mc ms 0 0 ⟨by omega, by omega⟩ hw
abbrev rm_X9_brokenAt (MC MS : Nat) : Room := { frames := 10, cells := MC, slots := MS, locals := 223 }
set_option maxHeartbeats 4000000 in
set_option maxRecDepth 100000 in
theorem t_X9_brokenAt_0 (C0 : hX p s m args c cX9_brokenAt 1 RX9 wsX9_brokenAt D (gt u.2.1) A u.1 u.2.2) (t0 : Nat) (post : Int32 → hS → Prop) (hret : ∀ (r : Int32) (S' : hS) (pc : Nat) (lv : List (Nat × Value)) (k n : Nat), k ≤ MC → n ≤ MS → post r S' → narrow .int (.int r) = .int r → decode cX9_brokenAt pc = .ok (.ireturn, 1) → gG p l e (rm_X9_brokenAt MC MS) s m args below meth c Q D A 1 k n (hC X S') pc lv [.int r])  : ∀ (S : hS) (mc ms k n : Nat), k + mc ≤ MC ∧ n + ms ≤ MS → w_X9_brokenAt u post t0   S mc ms → gG p l e (rm_X9_brokenAt MC MS) s m args below meth c Q D A 1 k n (hC X S) 0 [(0, .ref t0)] [] := by
  obtain ⟨⟨hx, hb, hml, ho, hts, hK, hA⟩, hR⟩ := id C0
  intro  S mc ms k n hkn hw H locs ls hW hl
  rw [w_X9_brokenAt] at hw
  refine lv_aload_n hx hb dX9_brokenAt_0 rfl (lv_at hl 0 rfl) ?_
  obtain ⟨h6, k2, n3, h4, h5, hw⟩ := hw
  refine h_goi C0 hW (va_runV (As := []) (rest := []) ⟨hx, hb, hml, ho, hts⟩ (k_X9_firstBrokenPlace (l := l) (u := u) (X := X) (sz := H.size) _ t0  S k2 n3 hw) (cwV 0 hts gX9_brokenAt_X9_firstBrokenPlace rfl rfl rfl (by decide +kernel) ⟨Nat.le_of_ble_eq_true rfl, Nat.le_of_ble_eq_true rfl⟩) ⟨h_blind, (h_recv C0 hW (ci := 10) rfl h6), (h_pre C0 hW [.ref t0])⟩ rfl rfl hl.1 rfl (lv_room (Nat.le_of_ble_eq_true rfl)) dX9_brokenAt_1 ⟨by show _ ≤ MC; omega, by show _ ≤ MS; omega⟩) (fun r1 S7 H locs h8 hW => ?_)
  replace hw := h8
  have hkn : (k + k2) + (mc - k2) ≤ MC ∧ (n + n3) + (ms - n3) ≤ MS := by omega
  exact hret r1 S7 _ _ _ _ (by omega) (by omega) hw rfl dX9_brokenAt_4 _ _ _ hW hl
set_option maxHeartbeats 4000000 in
set_option maxRecDepth 100000 in
theorem k_X9_brokenAt {l : Launch} {D : va_G} {u : hU} {X : va_W} {sz : Nat} (post : Int32 → hS → Prop) (t0 : Nat) (S : hS) (mc ms : Nat) (hw : w_X9_brokenAt u post t0  S mc ms) : hMi l yX9_brokenAt wsX9_brokenAt (rm_X9_brokenAt mc ms) D (gt u.2.1) u.1 u.2.2 sz X S [.ref t0] post mc ms := by
  refine hMi_of (cc := cX9_brokenAt) (nL := 1) (ty := .int) (own := RX9) (by decide) rfl rfl (Nat.le_of_ble_eq_true rfl) ?_
  intro p e s m args below meth c A Q C0 hin hret
  exact t_X9_brokenAt_0 C0 t0 post hret  S mc ms 0 0 ⟨by omega, by omega⟩ hw
abbrev rm_X9_write (MC MS : Nat) : Room := { frames := 8, cells := MC, slots := MS, locals := 174 }
theorem in_X9_write_RX7 : ∀ w ∈ wsX70, w ∈ wsX9_write := fun w hw9 => List.mem_cons_of_mem _ (List.mem_append_left _ (List.mem_append_left _ (List.mem_append_left _ (List.mem_append_left _ (List.mem_append_left _ (List.mem_append_right _ hw9))))))
theorem in_X9_write_RX9 : ∀ w ∈ wsX90, w ∈ wsX9_write := fun w hw9 => List.mem_cons_of_mem _ (List.mem_append_left _ (List.mem_append_left _ (List.mem_append_left _ (List.mem_append_left _ (List.mem_append_left _ (List.mem_append_left _ (List.mem_append_right _ hw9)))))))
set_option maxHeartbeats 4000000 in
set_option maxRecDepth 100000 in
theorem t_X9_write_0 (C0 : hX p s m args c cX9_write 3 RX9 wsX9_write D (gt u.2.1) A u.1 u.2.2) (t0 : Nat) (post : Int32 → hS → Prop) (hret : ∀ (r : Int32) (S' : hS) (pc : Nat) (lv : List (Nat × Value)) (k n : Nat), k ≤ MC → n ≤ MS → post r S' → narrow .int (.int r) = .int r → decode cX9_write pc = .ok (.ireturn, 1) → gG p l e (rm_X9_write MC MS) s m args below meth c Q D A 3 k n (hC X S') pc lv [.int r])  : ∀ (z1 : Int32) (S : hS) (mc ms k n : Nat), k + mc ≤ MC ∧ n + ms ≤ MS → w_X9_write u post t0  z1 S mc ms → gG p l e (rm_X9_write MC MS) s m args below meth c Q D A 3 k n (hC X S) 0 [(0, .ref t0), (1, .int z1)] [] := by
  obtain ⟨⟨hx, hb, hml, ho, hts, hK, hA⟩, hR⟩ := id C0
  intro z1 S mc ms k n hkn hw H locs ls hW hl
  rw [w_X9_write] at hw
  refine lv_aload_n hx hb dX9_write_0 rfl (lv_at hl 0 rfl) ?_
  obtain ⟨o1, h2, hw⟩ := hw
  refine h_getR C0 hW (T := TX9) (kf := 2) in_X9_write_RX9 h2 rfl (by decide) (List.mem_of_getElem? (i := 1) rfl) rfl dX9_write_1 ?_
  refine lv_iload_n hx hb dX9_write_4 rfl (lv_at hl 1 rfl) ?_
  obtain ⟨a3, rfl, hw⟩ := hw
  obtain ⟨h5, hw⟩ := hw
  refine h_goq C0 hW (va_runV (As := [.int z1]) (rest := []) ⟨hx, hb, hml, ho, hts⟩ (k_X4_layerAt (l := l) (u := u) (X := X) (sz := H.size) _ a3 z1 S  hw) (cwV 1 hts gX9_write_X4_layerAt rfl rfl rfl (by decide +kernel) ⟨Nat.le_of_ble_eq_true rfl, Nat.le_of_ble_eq_true rfl⟩) ⟨h_blind, (h_recv C0 hW (ci := 5) rfl h5), (h_pre C0 hW [.ref a3, .int z1])⟩ rfl rfl hl.1 rfl (lv_room (Nat.le_of_ble_eq_true rfl)) dX9_write_5 ⟨by show _ ≤ MC; omega, by show _ ≤ MS; omega⟩) (fun r4 S6 H locs h7 hW => ?_)
  obtain ⟨h8, hp⟩ := h7
  rw [h8] at hW
  replace hw := hp
  refine lv_astoreV_n (i := 2) (lv' := [(2, va_rf r4), (0, .ref t0), (1, .int z1)]) hx hb dX9_write_8 rfl hl (by decide) rfl (fun ls hl9 => ?_)
  replace hl := hl9
  refine lv_aloadV_n hx hb dX9_write_9 rfl (lv_at hl 0 rfl) ?_
  refine lv_ifnonnullV (tgt := 15) hx hb dX9_write_10 (by decide) (fun a10 c9 => ?_) (fun c9 => ?_)
  · subst c9
    replace hw := hw.2 a10 rfl
    refine lv_aload_n hx hb dX9_write_15 rfl (lv_at hl 0 rfl) ?_
    obtain ⟨h12, hw⟩ := hw
    refine h_goi C0 hW (va_runV (As := []) (rest := []) ⟨hx, hb, hml, ho, hts⟩ (k_X3_writtenLength (l := l) (u := u) (X := X) (sz := H.size) _ a10  S  hw) (cwV 0 hts gX9_write_X3_writtenLength rfl rfl rfl (by decide +kernel) ⟨Nat.le_of_ble_eq_true rfl, Nat.le_of_ble_eq_true rfl⟩) ⟨h_blind, (h_recv C0 hW (ci := 4) rfl h12), (h_pre C0 hW [.ref a10])⟩ rfl rfl hl.1 rfl (lv_room (Nat.le_of_ble_eq_true rfl)) dX9_write_16 ⟨by show _ ≤ MC; omega, by show _ ≤ MS; omega⟩) (fun r11 S13 H locs h14 hW => ?_)
    obtain ⟨h15, hp⟩ := h14
    rw [h15] at hW
    replace hw := hp
    refine lv_sipush (v := 300) hx hb dX9_write_19 (by decide) ?_
    refine lv_icmp_le (tgt := 28) hx hb dX9_write_22 (by decide) (fun c16 => ?_) (fun c16 => ?_)
    · replace hw := hw.1 c16
      refine lv_aload_n hx hb dX9_write_28 rfl (lv_at hl 1 rfl) ?_
      obtain ⟨o17, h18, hw⟩ := hw
      refine h_getR C0 hW (T := TX9) (kf := 1) in_X9_write_RX9 h18 rfl (by decide) (List.mem_of_getElem? (i := 2) rfl) rfl dX9_write_29 ?_
      obtain ⟨a19, rfl, hw⟩ := hw
      obtain ⟨o20, h21, hw⟩ := hw
      refine h_getRN C0 hW (host := RX9) (T := TX7) (kf := 0) in_X9_write_RX7 h21 rfl (by decide) (by decide +kernel) rfl dX9_write_32 ?_
      refine lv_iconst (v := 0) hx hb dX9_write_35 (by decide) ?_
      obtain ⟨a22, rfl, hw⟩ := hw
      obtain ⟨h28, k24, n25, h26, h27, hw⟩ := hw
      refine h_gov C0 hW (va_runV (As := [.int 0]) (rest := []) ⟨hx, hb, hml, ho, hts⟩ (k_J4_setLength_d0 (l := l) (u := u) (X := X) (sz := H.size) _ a22 0 S k24 n25 hw) (cwV 1 hts gX9_write_J4_setLength_d00df rfl rfl rfl (by decide +kernel) ⟨Nat.le_of_ble_eq_true rfl, Nat.le_of_ble_eq_true rfl⟩) ⟨h_blind, (h_recv C0 hW (ci := 1) rfl h28), (h_pre C0 hW [.ref a22, .int 0])⟩ rfl rfl hl.1 rfl (lv_room (Nat.le_of_ble_eq_true rfl)) dX9_write_36 ⟨by show _ ≤ MC; omega, by show _ ≤ MS; omega⟩) (fun S29 H locs h30 hW => ?_)
      replace hw := h30
      have hkn : (k + k24) + (mc - k24) ≤ MC ∧ (n + n25) + (ms - n25) ≤ MS := by omega
      refine lv_aload_n hx hb dX9_write_39 rfl (lv_at hl 0 rfl) ?_
      refine lv_aload_n hx hb dX9_write_40 rfl (lv_at hl 1 rfl) ?_
      obtain ⟨o31, h32, hw⟩ := hw
      refine h_getR C0 hW (T := TX9) (kf := 1) in_X9_write_RX9 h32 rfl (by decide) (List.mem_of_getElem? (i := 2) rfl) rfl dX9_write_41 ?_
      obtain ⟨a33, rfl, hw⟩ := hw
      obtain ⟨o34, h35, hw⟩ := hw
      refine h_getRN C0 hW (host := RX9) (T := TX7) (kf := 0) in_X9_write_RX7 h35 rfl (by decide) (by decide +kernel) rfl dX9_write_44 ?_
      obtain ⟨h41, k37, n38, h39, h40, hw⟩ := hw
      refine h_gov C0 hW (va_runV (As := [va_rf o34]) (rest := []) ⟨hx, hb, hml, ho, hts⟩ (k_X3_writeOnto (l := l) (u := u) (X := X) (sz := H.size) _ a10 o34 S29 k37 n38 hw) (cwV 1 hts gX9_write_X3_writeOnto rfl rfl rfl (by decide +kernel) ⟨Nat.le_of_ble_eq_true rfl, Nat.le_of_ble_eq_true rfl⟩) ⟨h_blind, (h_recv C0 hW (ci := 4) rfl h41), (h_pre C0 hW [.ref a10, va_rf o34])⟩ rfl rfl hl.1 rfl (lv_room (Nat.le_of_ble_eq_true rfl)) dX9_write_47 ⟨by show _ ≤ MC; omega, by show _ ≤ MS; omega⟩) (fun S42 H locs h43 hW => ?_)
      replace hw := h43
      have hkn : ((k + k24) + k37) + ((mc - k24) - k37) ≤ MC ∧ ((n + n25) + n38) + ((ms - n25) - n38) ≤ MS := by omega
      refine lv_aload_n hx hb dX9_write_50 rfl (lv_at hl 1 rfl) ?_
      obtain ⟨o44, h45, hw⟩ := hw
      refine h_getR C0 hW (T := TX9) (kf := 1) in_X9_write_RX9 h45 rfl (by decide) (List.mem_of_getElem? (i := 2) rfl) rfl dX9_write_51 ?_
      obtain ⟨a46, rfl, hw⟩ := hw
      obtain ⟨o47, h48, hw⟩ := hw
      refine h_getRN C0 hW (host := RX9) (T := TX7) (kf := 0) in_X9_write_RX7 h48 rfl (by decide) (by decide +kernel) rfl dX9_write_54 ?_
      obtain ⟨a49, rfl, hw⟩ := hw
      obtain ⟨h51, hw⟩ := hw
      refine h_goi C0 hW (va_runV (As := []) (rest := []) ⟨hx, hb, hml, ho, hts⟩ (k_J4_length_8a (l := l) (u := u) (X := X) (sz := H.size) _ a49  S42  hw) (cwV 0 hts gX9_write_J4_length_8abf5 rfl rfl rfl (by decide +kernel) ⟨Nat.le_of_ble_eq_true rfl, Nat.le_of_ble_eq_true rfl⟩) ⟨h_blind, (h_recv C0 hW (ci := 1) rfl h51), (h_pre C0 hW [.ref a49])⟩ rfl rfl hl.1 rfl (lv_room (Nat.le_of_ble_eq_true rfl)) dX9_write_57 ⟨by show _ ≤ MC; omega, by show _ ≤ MS; omega⟩) (fun r50 S52 H locs h53 hW => ?_)
      obtain ⟨h54, hp⟩ := h53
      rw [h54] at hW
      replace hw := hp
      exact hret r50 S42 _ _ _ _ (by omega) (by omega) hw rfl dX9_write_60 _ _ _ hW hl
    · replace hw := hw.2 c16
      refine lv_bipush (v := (-3)) hx hb dX9_write_25 (by decide) ?_
      exact hret (-3) S _ _ _ _ (by omega) (by omega) hw rfl dX9_write_27 _ _ _ hW hl
  · subst c9
    replace hw := hw.1 rfl
    refine lv_iconst (v := (-1)) hx hb dX9_write_13 (by decide) ?_
    exact hret (-1) S _ _ _ _ (by omega) (by omega) hw rfl dX9_write_14 _ _ _ hW hl
set_option maxHeartbeats 4000000 in
set_option maxRecDepth 100000 in
theorem k_X9_write {l : Launch} {D : va_G} {u : hU} {X : va_W} {sz : Nat} (post : Int32 → hS → Prop) (t0 : Nat) (z1 : Int32) (S : hS) (mc ms : Nat) (hw : w_X9_write u post t0 z1 S mc ms) : hMi l yX9_write wsX9_write (rm_X9_write mc ms) D (gt u.2.1) u.1 u.2.2 sz X S [.ref t0, .int z1] post mc ms := by
  refine hMi_of (cc := cX9_write) (nL := 3) (ty := .int) (own := RX9) (by decide) rfl rfl (Nat.le_of_ble_eq_true rfl) ?_
  intro p e s m args below meth c A Q C0 hin hret
  exact t_X9_write_0 C0 t0 post hret z1 S mc ms 0 0 ⟨by omega, by omega⟩ hw
abbrev rm_X9_refuseNull : Room := { frames := 0, cells := 0, slots := 0, locals := 0 }
theorem in_X9_refuseNull_RX9 : ∀ w ∈ wsX90, w ∈ wsX9_refuseNull := fun w hw9 => List.mem_cons_of_mem _ (List.mem_append_right _ hw9)
set_option maxHeartbeats 4000000 in
set_option maxRecDepth 100000 in
theorem t_X9_refuseNull_0 (C0 : hX p s m args c cX9_refuseNull 1 RX9 wsX9_refuseNull D (gt u.2.1) A u.1 u.2.2) (t0 : Nat) (post : Int32 → hS → Prop) (hret : ∀ (r : Int32) (S' : hS) (pc : Nat) (lv : List (Nat × Value)) (k n : Nat), k ≤ 0 → n ≤ 0 → post r S' → narrow .int (.int r) = .int r → decode cX9_refuseNull pc = .ok (.ireturn, 1) → gG p l e (rm_X9_refuseNull) s m args below meth c Q D A 1 k n (hC X S') pc lv [.int r])  : ∀ (S : hS), w_X9_refuseNull u post t0   S → gG p l e (rm_X9_refuseNull) s m args below meth c Q D A 1 0 0 (hC X S) 0 [(0, .ref t0)] [] := by
  obtain ⟨⟨hx, hb, hml, ho, hts, hK, hA⟩, hR⟩ := id C0
  intro  S hw H locs ls hW hl
  rw [w_X9_refuseNull] at hw
  refine lv_aload_n hx hb dX9_refuseNull_0 rfl (lv_at hl 0 rfl) ?_
  refine lv_dup hx hb dX9_refuseNull_1 rfl ?_
  obtain ⟨v1, h2, hw⟩ := hw
  refine h_getI C0 hW (T := TX9) (kf := 7) in_X9_refuseNull_RX9 h2 rfl (by decide) (List.mem_of_getElem? (i := 1) rfl) rfl dX9_refuseNull_2 ?_
  refine lv_iconst (v := 1) hx hb dX9_refuseNull_5 (by decide) ?_
  refine lv_iadd hx hb dX9_refuseNull_6 ?_
  obtain ⟨fs3, h4, h5, hw⟩ := hw
  refine h_put C0 hW (T := TX9) (kf := 7) (ty := .int) in_X9_refuseNull_RX9 h4 rfl (by decide) h5 tyX9 tyX9_ok nmX9 (List.mem_of_getElem? (i := 1) rfl) rfl (Or.inl rfl) (by decide +kernel) rfl rfl dX9_refuseNull_7 rfl (fun H locs hW => ?_)
  obtain ⟨S6, eS6⟩ : ∃ z : hS, z = upS S t0 (.inr (10, fs3.set 7 (.int (v1 + 1)))) := ⟨_, rfl⟩
  rw [← eS6] at hW
  replace hw := hw S6 eS6
  refine lv_bipush (v := (-7)) hx hb dX9_refuseNull_10 (by decide) ?_
  exact hret (-7) S6 _ _ 0 0 (Nat.le_refl _) (Nat.le_refl _) hw rfl dX9_refuseNull_12 _ _ _ hW hl
set_option maxHeartbeats 4000000 in
set_option maxRecDepth 100000 in
theorem k_X9_refuseNull {l : Launch} {D : va_G} {u : hU} {X : va_W} {sz : Nat} (post : Int32 → hS → Prop) (t0 : Nat) (S : hS) (hw : w_X9_refuseNull u post t0  S) : hMi l yX9_refuseNull wsX9_refuseNull rm_X9_refuseNull D (gt u.2.1) u.1 u.2.2 sz X S [.ref t0] post 0 0 := by
  refine hMi_of (cc := cX9_refuseNull) (nL := 1) (ty := .int) (own := RX9) (by decide) rfl rfl (Nat.le_of_ble_eq_true rfl) ?_
  intro p e s m args below meth c A Q C0 hin hret
  exact t_X9_refuseNull_0 C0 t0 post hret  S hw
abbrev rm_X9_get : Room := { frames := 9, cells := 0, slots := 0, locals := 201 }
theorem in_X9_get_RX6 : ∀ w ∈ wsX60, w ∈ wsX9_get := fun w hw9 => List.mem_cons_of_mem _ (List.mem_append_left _ (List.mem_append_left _ (List.mem_append_left _ (List.mem_append_left _ (List.mem_append_right _ hw9)))))
theorem in_X9_get_RX9 : ∀ w ∈ wsX90, w ∈ wsX9_get := fun w hw9 => List.mem_cons_of_mem _ (List.mem_append_left _ (List.mem_append_left _ (List.mem_append_left _ (List.mem_append_left _ (List.mem_append_left _ (List.mem_append_right _ hw9))))))
set_option maxHeartbeats 4000000 in
set_option maxRecDepth 100000 in
theorem t_X9_get_0 (C0 : hX p s m args c cX9_get 7 RX9 wsX9_get D (gt u.2.1) A u.1 u.2.2) (t0 : Nat) (post : Int32 → hS → Prop) (hret : ∀ (r : Int32) (S' : hS) (pc : Nat) (lv : List (Nat × Value)) (k n : Nat), k ≤ 0 → n ≤ 0 → post r S' → narrow .int (.int r) = .int r → decode cX9_get pc = .ok (.ireturn, 1) → gG p l e (rm_X9_get) s m args below meth c Q D A 7 k n (hC X S') pc lv [.int r])  : ∀ (z1 : Int32) (z2 : Int32) (z3 : Int32) (S : hS), w_X9_get u post t0  z1 z2 z3 S → gG p l e (rm_X9_get) s m args below meth c Q D A 7 0 0 (hC X S) 0 [(0, .ref t0), (1, .int z1), (2, .int z2), (3, .int z3)] [] := by
  obtain ⟨⟨hx, hb, hml, ho, hts, hK, hA⟩, hR⟩ := id C0
  intro z1 z2 z3 S hw H locs ls hW hl
  rw [w_X9_get] at hw
  refine lv_aload_n hx hb dX9_get_0 rfl (lv_at hl 0 rfl) ?_
  refine lv_iload_n hx hb dX9_get_1 rfl (lv_at hl 2 rfl) ?_
  obtain ⟨h2, hw⟩ := hw
  refine h_goq C0 hW (va_runV (As := [.int z2]) (rest := []) ⟨hx, hb, hml, ho, hts⟩ (k_X9_slotAt (l := l) (u := u) (X := X) (sz := H.size) _ t0 z2 S  hw) (cwV 1 hts gX9_get_X9_slotAt rfl rfl rfl (by decide +kernel) ⟨Nat.le_of_ble_eq_true rfl, Nat.le_of_ble_eq_true rfl⟩) ⟨h_blind, (h_recv C0 hW (ci := 10) rfl h2), (h_pre C0 hW [.ref t0, .int z2])⟩ rfl rfl hl.1 rfl (lv_room (Nat.le_of_ble_eq_true rfl)) dX9_get_2 ⟨Nat.le_refl _, Nat.le_refl _⟩) (fun r1 S3 H locs h4 hW => ?_)
  obtain ⟨h5, hp⟩ := h4
  rw [h5] at hW
  replace hw := hp
  refine lv_astoreV (i := 4) (lv' := [(4, va_rf r1), (0, .ref t0), (1, .int z1), (2, .int z2), (3, .int z3)]) hx hb dX9_get_5 hl (by decide) rfl (fun ls hl9 => ?_)
  replace hl := hl9
  refine lv_aload_n hx hb dX9_get_7 rfl (lv_at hl 1 rfl) ?_
  refine lv_iload_n hx hb dX9_get_8 rfl (lv_at hl 4 rfl) ?_
  obtain ⟨h7, hw⟩ := hw
  refine h_goq C0 hW (va_runV (As := [.int z3]) (rest := []) ⟨hx, hb, hml, ho, hts⟩ (k_X9_slotAt (l := l) (u := u) (X := X) (sz := H.size) _ t0 z3 S  hw) (cwV 1 hts gX9_get_X9_slotAt rfl rfl rfl (by decide +kernel) ⟨Nat.le_of_ble_eq_true rfl, Nat.le_of_ble_eq_true rfl⟩) ⟨h_blind, (h_recv C0 hW (ci := 10) rfl h7), (h_pre C0 hW [.ref t0, .int z3])⟩ rfl rfl hl.1 rfl (lv_room (Nat.le_of_ble_eq_true rfl)) dX9_get_9 ⟨Nat.le_refl _, Nat.le_refl _⟩) (fun r6 S8 H locs h9 hW => ?_)
  obtain ⟨h10, hp⟩ := h9
  rw [h10] at hW
  replace hw := hp
  refine lv_astoreV (i := 5) (lv' := [(5, va_rf r6), (4, va_rf r1), (0, .ref t0), (1, .int z1), (2, .int z2), (3, .int z3)]) hx hb dX9_get_12 hl (by decide) (by show (5, va_rf r6) :: List.filter (fun q : Nat × Value => !(q.1 == 5) && !(q.1 + 1 == 5 && q.2.category == 2)) [(4, va_rf r1), (0, .ref t0), (1, .int z1), (2, .int z2), (3, .int z3)] = [(5, va_rf r6), (4, va_rf r1), (0, .ref t0), (1, .int z1), (2, .int z2), (3, .int z3)]; simp [va_rf_cat, va_c_ref, va_c_int, va_c_null]) (fun ls hl9 => ?_)
  replace hl := hl9
  refine lv_aload_n hx hb dX9_get_14 rfl (lv_at hl 2 rfl) ?_
  obtain ⟨o11, h12, hw⟩ := hw
  refine h_getR C0 hW (T := TX9) (kf := 2) in_X9_get_RX9 h12 rfl (by decide) (List.mem_of_getElem? (i := 1) rfl) rfl dX9_get_15 ?_
  refine lv_iload_n hx hb dX9_get_18 rfl (lv_at hl 3 rfl) ?_
  obtain ⟨a13, rfl, hw⟩ := hw
  obtain ⟨h15, hw⟩ := hw
  refine h_goq C0 hW (va_runV (As := [.int z1]) (rest := []) ⟨hx, hb, hml, ho, hts⟩ (k_X4_layerAt (l := l) (u := u) (X := X) (sz := H.size) _ a13 z1 S  hw) (cwV 1 hts gX9_get_X4_layerAt rfl rfl rfl (by decide +kernel) ⟨Nat.le_of_ble_eq_true rfl, Nat.le_of_ble_eq_true rfl⟩) ⟨h_blind, (h_recv C0 hW (ci := 5) rfl h15), (h_pre C0 hW [.ref a13, .int z1])⟩ rfl rfl hl.1 rfl (lv_room (Nat.le_of_ble_eq_true rfl)) dX9_get_19 ⟨Nat.le_refl _, Nat.le_refl _⟩) (fun r14 S16 H locs h17 hW => ?_)
  obtain ⟨h18, hp⟩ := h17
  rw [h18] at hW
  replace hw := hp
  refine lv_ifnullV (tgt := 35) hx hb dX9_get_22 (by decide) (fun c19 => ?_) (fun a20 c19 => ?_)
  · subst c19
    replace hw := hw.1 rfl
    refine lv_iconst (v := (-1)) hx hb dX9_get_35 (by decide) ?_
    exact hret (-1) S _ _ 0 0 (Nat.le_refl _) (Nat.le_refl _) hw rfl dX9_get_36 _ _ _ hW hl
  · subst c19
    replace hw := hw.2 a20 rfl
    refine lv_aloadV hx hb dX9_get_25 (lv_at hl 1 rfl) ?_
    refine lv_ifnullV (tgt := 35) hx hb dX9_get_27 (by decide) (fun c21 => ?_) (fun a22 c21 => ?_)
    · subst c21
      replace hw := hw.1 rfl
      refine lv_iconst (v := (-1)) hx hb dX9_get_35 (by decide) ?_
      exact hret (-1) S _ _ 0 0 (Nat.le_refl _) (Nat.le_refl _) hw rfl dX9_get_36 _ _ _ hW hl
    · subst c21
      replace hw := hw.2 a22 rfl
      refine lv_aloadV hx hb dX9_get_30 (lv_at hl 0 rfl) ?_
      refine lv_ifnonnullV (tgt := 37) hx hb dX9_get_32 (by decide) (fun a24 c23 => ?_) (fun c23 => ?_)
      · subst c23
        replace hw := hw.2 a24 rfl
        refine lv_aload hx hb dX9_get_37 (lv_at hl 1 rfl) ?_
        obtain ⟨o25, h26, hw⟩ := hw
        refine h_getRN C0 hW (host := RX9) (T := TX6) (kf := 0) in_X9_get_RX6 h26 rfl (by decide) (by decide +kernel) rfl dX9_get_39 ?_
        refine lv_ifnonnullV (tgt := 50) hx hb dX9_get_42 (by decide) (fun a28 c27 => ?_) (fun c27 => ?_)
        · subst c27
          replace hw := hw.2 a28 rfl
          refine lv_aload_n hx hb dX9_get_50 rfl (lv_at hl 2 rfl) ?_
          obtain ⟨o33, h34, hw⟩ := hw
          refine h_getR C0 hW (T := TX9) (kf := 2) in_X9_get_RX9 h34 rfl (by decide) (List.mem_of_getElem? (i := 1) rfl) rfl dX9_get_51 ?_
          refine lv_iload_n hx hb dX9_get_54 rfl (lv_at hl 3 rfl) ?_
          refine lv_aload hx hb dX9_get_55 (lv_at hl 1 rfl) ?_
          obtain ⟨o35, h36, hw⟩ := hw
          refine h_getRN C0 hW (host := RX9) (T := TX6) (kf := 0) in_X9_get_RX6 h36 rfl (by decide) (by decide +kernel) rfl dX9_get_57 ?_
          obtain ⟨a37, rfl, hw⟩ := hw
          obtain ⟨h39, hw⟩ := hw
          refine h_goq C0 hW (va_runV (As := [.int z1, va_rf o35]) (rest := []) ⟨hx, hb, hml, ho, hts⟩ (k_X4_lookUp (l := l) (u := u) (X := X) (sz := H.size) _ a37 z1 o35 S  hw) (cwV 2 hts gX9_get_X4_lookUp rfl rfl rfl (by decide +kernel) ⟨Nat.le_of_ble_eq_true rfl, Nat.le_of_ble_eq_true rfl⟩) ⟨h_blind, (h_recv C0 hW (ci := 5) rfl h39), (h_pre C0 hW [.ref a37, .int z1, va_rf o35])⟩ rfl rfl hl.1 rfl (lv_room (Nat.le_of_ble_eq_true rfl)) dX9_get_60 ⟨Nat.le_refl _, Nat.le_refl _⟩) (fun r38 S40 H locs h41 hW => ?_)
          obtain ⟨h42, hp⟩ := h41
          rw [h42] at hW
          replace hw := hp
          refine lv_astoreV (i := 6) (lv' := [(6, va_rf r38), (5, .ref a24), (4, .ref a22), (0, .ref t0), (1, .int z1), (2, .int z2), (3, .int z3)]) hx hb dX9_get_63 hl (by decide) rfl (fun ls hl9 => ?_)
          replace hl := hl9
          refine lv_aloadV hx hb dX9_get_65 (lv_at hl 0 rfl) ?_
          refine lv_ifnonnullV (tgt := 73) hx hb dX9_get_67 (by decide) (fun a44 c43 => ?_) (fun c43 => ?_)
          · subst c43
            replace hw := hw.2 a44 rfl
            refine lv_aload hx hb dX9_get_73 (lv_at hl 1 rfl) ?_
            refine lv_aload hx hb dX9_get_75 (lv_at hl 0 rfl) ?_
            refine h_goi C0 hW (va_runS (As := [.ref a24, .ref a44]) (rest := []) ⟨hx, hb, hml, ho, hts⟩ (k_X9_putInto (l := l) (u := u) (X := X) (sz := H.size) _ (some a24) (some a44) S  hw) (va_cwS 2 hts gX9_get_X9_putInto rfl rfl rfl (by decide +kernel) ⟨Nat.le_of_ble_eq_true rfl, Nat.le_of_ble_eq_true rfl⟩) ⟨h_blind, (h_pre C0 hW [.ref a24, .ref a44])⟩ rfl rfl hl.1 rfl (lv_room (Nat.le_of_ble_eq_true rfl)) dX9_get_77 ⟨Nat.le_refl _, Nat.le_refl _⟩) (fun r45 S46 H locs h47 hW => ?_)
            replace hw := h47
            exact hret r45 S46 _ _ 0 0 (Nat.le_refl _) (Nat.le_refl _) hw rfl dX9_get_80 _ _ _ hW hl
          · subst c43
            replace hw := hw.1 rfl
            refine lv_bipush (v := (-5)) hx hb dX9_get_70 (by decide) ?_
            exact hret (-5) S _ _ 0 0 (Nat.le_refl _) (Nat.le_refl _) hw rfl dX9_get_72 _ _ _ hW hl
        · subst c27
          replace hw := hw.1 rfl
          refine lv_aload_n hx hb dX9_get_45 rfl (lv_at hl 2 rfl) ?_
          obtain ⟨h30, hw⟩ := hw
          refine h_goi C0 hW (va_runV (As := []) (rest := []) ⟨hx, hb, hml, ho, hts⟩ (k_X9_refuseNull (l := l) (u := u) (X := X) (sz := H.size) _ t0  S  hw) (cwV 0 hts gX9_get_X9_refuseNull rfl rfl rfl (by decide +kernel) ⟨Nat.le_of_ble_eq_true rfl, Nat.le_of_ble_eq_true rfl⟩) ⟨h_blind, (h_recv C0 hW (ci := 10) rfl h30), (h_pre C0 hW [.ref t0])⟩ rfl rfl hl.1 rfl (lv_room (Nat.le_of_ble_eq_true rfl)) dX9_get_46 ⟨Nat.le_refl _, Nat.le_refl _⟩) (fun r29 S31 H locs h32 hW => ?_)
          replace hw := h32
          exact hret r29 S31 _ _ 0 0 (Nat.le_refl _) (Nat.le_refl _) hw rfl dX9_get_49 _ _ _ hW hl
      · subst c23
        replace hw := hw.1 rfl
        refine lv_iconst (v := (-1)) hx hb dX9_get_35 (by decide) ?_
        exact hret (-1) S _ _ 0 0 (Nat.le_refl _) (Nat.le_refl _) hw rfl dX9_get_36 _ _ _ hW hl
set_option maxHeartbeats 4000000 in
set_option maxRecDepth 100000 in
theorem k_X9_get {l : Launch} {D : va_G} {u : hU} {X : va_W} {sz : Nat} (post : Int32 → hS → Prop) (t0 : Nat) (z1 : Int32) (z2 : Int32) (z3 : Int32) (S : hS) (hw : w_X9_get u post t0 z1 z2 z3 S) : hMi l yX9_get wsX9_get rm_X9_get D (gt u.2.1) u.1 u.2.2 sz X S [.ref t0, .int z1, .int z2, .int z3] post 0 0 := by
  refine hMi_of (cc := cX9_get) (nL := 7) (ty := .int) (own := RX9) (by decide) rfl rfl (Nat.le_of_ble_eq_true rfl) ?_
  intro p e s m args below meth c A Q C0 hin hret
  exact t_X9_get_0 C0 t0 post hret z1 z2 z3 S hw
abbrev rm_X9_getOr : Room := { frames := 9, cells := 0, slots := 0, locals := 201 }
theorem in_X9_getOr_RX6 : ∀ w ∈ wsX60, w ∈ wsX9_getOr := fun w hw9 => List.mem_cons_of_mem _ (List.mem_append_left _ (List.mem_append_left _ (List.mem_append_left _ (List.mem_append_left _ (List.mem_append_right _ hw9)))))
theorem in_X9_getOr_RX9 : ∀ w ∈ wsX90, w ∈ wsX9_getOr := fun w hw9 => List.mem_cons_of_mem _ (List.mem_append_left _ (List.mem_append_left _ (List.mem_append_left _ (List.mem_append_left _ (List.mem_append_left _ (List.mem_append_right _ hw9))))))
set_option maxHeartbeats 4000000 in
set_option maxRecDepth 100000 in
theorem t_X9_getOr_90 (C0 : hX p s m args c cX9_getOr 9 RX9 wsX9_getOr D (gt u.2.1) A u.1 u.2.2) (t0 : Nat) (post : Int32 → hS → Prop) (hret : ∀ (r : Int32) (S' : hS) (pc : Nat) (lv : List (Nat × Value)) (k n : Nat), k ≤ 0 → n ≤ 0 → post r S' → narrow .int (.int r) = .int r → decode cX9_getOr pc = .ok (.ireturn, 1) → gG p l e (rm_X9_getOr) s m args below meth c Q D A 9 k n (hC X S') pc lv [.int r])  : ∀ (x7 : Nat) (x8 : Option Nat) (S : hS), w_X9_getOr_90 u post t0  x7 x8 S → gG p l e (rm_X9_getOr) s m args below meth c Q D A 9 0 0 (hC X S) 90 [(0, .ref t0), (7, .ref x7), (8, va_rf x8)] [] := by
  obtain ⟨⟨hx, hb, hml, ho, hts, hK, hA⟩, hR⟩ := id C0
  intro x7 x8 S hw H locs ls hW hl
  rw [w_X9_getOr_90] at hw
  refine lv_aloadV hx hb dX9_getOr_90 (lv_at hl 2 rfl) ?_
  refine lv_ifnonnullV (tgt := 98) hx hb dX9_getOr_92 (by decide) (fun a55 c54 => ?_) (fun c54 => ?_)
  · subst c54
    replace hw := hw.2 a55 rfl
    refine lv_aload hx hb dX9_getOr_98 (lv_at hl 1 rfl) ?_
    refine lv_aload hx hb dX9_getOr_100 (lv_at hl 2 rfl) ?_
    refine h_goi C0 hW (va_runS (As := [.ref x7, .ref a55]) (rest := []) ⟨hx, hb, hml, ho, hts⟩ (k_X9_putInto (l := l) (u := u) (X := X) (sz := H.size) _ (some x7) (some a55) S  hw) (va_cwS 2 hts gX9_getOr_X9_putInto rfl rfl rfl (by decide +kernel) ⟨Nat.le_of_ble_eq_true rfl, Nat.le_of_ble_eq_true rfl⟩) ⟨h_blind, (h_pre C0 hW [.ref x7, .ref a55])⟩ rfl rfl hl.1 rfl (lv_room (Nat.le_of_ble_eq_true rfl)) dX9_getOr_102 ⟨Nat.le_refl _, Nat.le_refl _⟩) (fun r56 S57 H locs h58 hW => ?_)
    replace hw := h58
    exact hret r56 S57 _ _ 0 0 (Nat.le_refl _) (Nat.le_refl _) hw rfl dX9_getOr_105 _ _ _ hW hl
  · subst c54
    replace hw := hw.1 rfl
    refine lv_bipush (v := (-2)) hx hb dX9_getOr_95 (by decide) ?_
    exact hret (-2) S _ _ 0 0 (Nat.le_refl _) (Nat.le_refl _) hw rfl dX9_getOr_97 _ _ _ hW hl
set_option maxHeartbeats 4000000 in
set_option maxRecDepth 100000 in
theorem t_X9_getOr_0 (C0 : hX p s m args c cX9_getOr 9 RX9 wsX9_getOr D (gt u.2.1) A u.1 u.2.2) (t0 : Nat) (post : Int32 → hS → Prop) (hret : ∀ (r : Int32) (S' : hS) (pc : Nat) (lv : List (Nat × Value)) (k n : Nat), k ≤ 0 → n ≤ 0 → post r S' → narrow .int (.int r) = .int r → decode cX9_getOr pc = .ok (.ireturn, 1) → gG p l e (rm_X9_getOr) s m args below meth c Q D A 9 k n (hC X S') pc lv [.int r])  : ∀ (z1 : Int32) (z2 : Int32) (z3 : Int32) (z4 : Int32) (S : hS), w_X9_getOr u post t0  z1 z2 z3 z4 S → gG p l e (rm_X9_getOr) s m args below meth c Q D A 9 0 0 (hC X S) 0 [(0, .ref t0), (1, .int z1), (2, .int z2), (3, .int z3), (4, .int z4)] [] := by
  obtain ⟨⟨hx, hb, hml, ho, hts, hK, hA⟩, hR⟩ := id C0
  intro z1 z2 z3 z4 S hw H locs ls hW hl
  rw [w_X9_getOr] at hw
  refine lv_aload_n hx hb dX9_getOr_0 rfl (lv_at hl 0 rfl) ?_
  refine lv_iload_n hx hb dX9_getOr_1 rfl (lv_at hl 2 rfl) ?_
  obtain ⟨h2, hw⟩ := hw
  refine h_goq C0 hW (va_runV (As := [.int z2]) (rest := []) ⟨hx, hb, hml, ho, hts⟩ (k_X9_slotAt (l := l) (u := u) (X := X) (sz := H.size) _ t0 z2 S  hw) (cwV 1 hts gX9_getOr_X9_slotAt rfl rfl rfl (by decide +kernel) ⟨Nat.le_of_ble_eq_true rfl, Nat.le_of_ble_eq_true rfl⟩) ⟨h_blind, (h_recv C0 hW (ci := 10) rfl h2), (h_pre C0 hW [.ref t0, .int z2])⟩ rfl rfl hl.1 rfl (lv_room (Nat.le_of_ble_eq_true rfl)) dX9_getOr_2 ⟨Nat.le_refl _, Nat.le_refl _⟩) (fun r1 S3 H locs h4 hW => ?_)
  obtain ⟨h5, hp⟩ := h4
  rw [h5] at hW
  replace hw := hp
  refine lv_astoreV (i := 5) (lv' := [(5, va_rf r1), (0, .ref t0), (1, .int z1), (2, .int z2), (3, .int z3), (4, .int z4)]) hx hb dX9_getOr_5 hl (by decide) rfl (fun ls hl9 => ?_)
  replace hl := hl9
  refine lv_aload_n hx hb dX9_getOr_7 rfl (lv_at hl 1 rfl) ?_
  refine lv_iload_n hx hb dX9_getOr_8 rfl (lv_at hl 4 rfl) ?_
  obtain ⟨h7, hw⟩ := hw
  refine h_goq C0 hW (va_runV (As := [.int z3]) (rest := []) ⟨hx, hb, hml, ho, hts⟩ (k_X9_slotAt (l := l) (u := u) (X := X) (sz := H.size) _ t0 z3 S  hw) (cwV 1 hts gX9_getOr_X9_slotAt rfl rfl rfl (by decide +kernel) ⟨Nat.le_of_ble_eq_true rfl, Nat.le_of_ble_eq_true rfl⟩) ⟨h_blind, (h_recv C0 hW (ci := 10) rfl h7), (h_pre C0 hW [.ref t0, .int z3])⟩ rfl rfl hl.1 rfl (lv_room (Nat.le_of_ble_eq_true rfl)) dX9_getOr_9 ⟨Nat.le_refl _, Nat.le_refl _⟩) (fun r6 S8 H locs h9 hW => ?_)
  obtain ⟨h10, hp⟩ := h9
  rw [h10] at hW
  replace hw := hp
  refine lv_astoreV (i := 6) (lv' := [(6, va_rf r6), (5, va_rf r1), (0, .ref t0), (1, .int z1), (2, .int z2), (3, .int z3), (4, .int z4)]) hx hb dX9_getOr_12 hl (by decide) (by show (6, va_rf r6) :: List.filter (fun q : Nat × Value => !(q.1 == 6) && !(q.1 + 1 == 6 && q.2.category == 2)) [(5, va_rf r1), (0, .ref t0), (1, .int z1), (2, .int z2), (3, .int z3), (4, .int z4)] = [(6, va_rf r6), (5, va_rf r1), (0, .ref t0), (1, .int z1), (2, .int z2), (3, .int z3), (4, .int z4)]; simp [va_rf_cat, va_c_ref, va_c_int, va_c_null]) (fun ls hl9 => ?_)
  replace hl := hl9
  refine lv_aload_n hx hb dX9_getOr_14 rfl (lv_at hl 2 rfl) ?_
  refine lv_iload hx hb dX9_getOr_15 (lv_at hl 6 rfl) ?_
  obtain ⟨h12, hw⟩ := hw
  refine h_goq C0 hW (va_runV (As := [.int z4]) (rest := []) ⟨hx, hb, hml, ho, hts⟩ (k_X9_slotAt (l := l) (u := u) (X := X) (sz := H.size) _ t0 z4 S  hw) (cwV 1 hts gX9_getOr_X9_slotAt rfl rfl rfl (by decide +kernel) ⟨Nat.le_of_ble_eq_true rfl, Nat.le_of_ble_eq_true rfl⟩) ⟨h_blind, (h_recv C0 hW (ci := 10) rfl h12), (h_pre C0 hW [.ref t0, .int z4])⟩ rfl rfl hl.1 rfl (lv_room (Nat.le_of_ble_eq_true rfl)) dX9_getOr_17 ⟨Nat.le_refl _, Nat.le_refl _⟩) (fun r11 S13 H locs h14 hW => ?_)
  obtain ⟨h15, hp⟩ := h14
  rw [h15] at hW
  replace hw := hp
  refine lv_astoreV (i := 7) (lv' := [(7, va_rf r11), (6, va_rf r6), (5, va_rf r1), (0, .ref t0), (1, .int z1), (2, .int z2), (3, .int z3), (4, .int z4)]) hx hb dX9_getOr_20 hl (by decide) (by show (7, va_rf r11) :: List.filter (fun q : Nat × Value => !(q.1 == 7) && !(q.1 + 1 == 7 && q.2.category == 2)) [(6, va_rf r6), (5, va_rf r1), (0, .ref t0), (1, .int z1), (2, .int z2), (3, .int z3), (4, .int z4)] = [(7, va_rf r11), (6, va_rf r6), (5, va_rf r1), (0, .ref t0), (1, .int z1), (2, .int z2), (3, .int z3), (4, .int z4)]; simp [va_rf_cat, va_c_ref, va_c_int, va_c_null]) (fun ls hl9 => ?_)
  replace hl := hl9
  refine lv_aload_n hx hb dX9_getOr_22 rfl (lv_at hl 3 rfl) ?_
  obtain ⟨o16, h17, hw⟩ := hw
  refine h_getR C0 hW (T := TX9) (kf := 2) in_X9_getOr_RX9 h17 rfl (by decide) (List.mem_of_getElem? (i := 1) rfl) rfl dX9_getOr_23 ?_
  refine lv_iload_n hx hb dX9_getOr_26 rfl (lv_at hl 4 rfl) ?_
  obtain ⟨a18, rfl, hw⟩ := hw
  obtain ⟨h20, hw⟩ := hw
  refine h_goq C0 hW (va_runV (As := [.int z1]) (rest := []) ⟨hx, hb, hml, ho, hts⟩ (k_X4_layerAt (l := l) (u := u) (X := X) (sz := H.size) _ a18 z1 S  hw) (cwV 1 hts gX9_getOr_X4_layerAt rfl rfl rfl (by decide +kernel) ⟨Nat.le_of_ble_eq_true rfl, Nat.le_of_ble_eq_true rfl⟩) ⟨h_blind, (h_recv C0 hW (ci := 5) rfl h20), (h_pre C0 hW [.ref a18, .int z1])⟩ rfl rfl hl.1 rfl (lv_room (Nat.le_of_ble_eq_true rfl)) dX9_getOr_27 ⟨Nat.le_refl _, Nat.le_refl _⟩) (fun r19 S21 H locs h22 hW => ?_)
  obtain ⟨h23, hp⟩ := h22
  rw [h23] at hW
  replace hw := hp
  refine lv_ifnullV (tgt := 48) hx hb dX9_getOr_30 (by decide) (fun c24 => ?_) (fun a25 c24 => ?_)
  · subst c24
    replace hw := hw.1 rfl
    refine lv_iconst (v := (-1)) hx hb dX9_getOr_48 (by decide) ?_
    exact hret (-1) S _ _ 0 0 (Nat.le_refl _) (Nat.le_refl _) hw rfl dX9_getOr_49 _ _ _ hW hl
  · subst c24
    replace hw := hw.2 a25 rfl
    refine lv_aloadV hx hb dX9_getOr_33 (lv_at hl 2 rfl) ?_
    refine lv_ifnullV (tgt := 48) hx hb dX9_getOr_35 (by decide) (fun c26 => ?_) (fun a27 c26 => ?_)
    · subst c26
      replace hw := hw.1 rfl
      refine lv_iconst (v := (-1)) hx hb dX9_getOr_48 (by decide) ?_
      exact hret (-1) S _ _ 0 0 (Nat.le_refl _) (Nat.le_refl _) hw rfl dX9_getOr_49 _ _ _ hW hl
    · subst c26
      replace hw := hw.2 a27 rfl
      refine lv_aloadV hx hb dX9_getOr_38 (lv_at hl 1 rfl) ?_
      refine lv_ifnullV (tgt := 48) hx hb dX9_getOr_40 (by decide) (fun c28 => ?_) (fun a29 c28 => ?_)
      · subst c28
        replace hw := hw.1 rfl
        refine lv_iconst (v := (-1)) hx hb dX9_getOr_48 (by decide) ?_
        exact hret (-1) S _ _ 0 0 (Nat.le_refl _) (Nat.le_refl _) hw rfl dX9_getOr_49 _ _ _ hW hl
      · subst c28
        replace hw := hw.2 a29 rfl
        refine lv_aloadV hx hb dX9_getOr_43 (lv_at hl 0 rfl) ?_
        refine lv_ifnonnullV (tgt := 50) hx hb dX9_getOr_45 (by decide) (fun a31 c30 => ?_) (fun c30 => ?_)
        · subst c30
          replace hw := hw.2 a31 rfl
          refine lv_aload hx hb dX9_getOr_50 (lv_at hl 2 rfl) ?_
          obtain ⟨o32, h33, hw⟩ := hw
          refine h_getRN C0 hW (host := RX9) (T := TX6) (kf := 0) in_X9_getOr_RX6 h33 rfl (by decide) (by decide +kernel) rfl dX9_getOr_52 ?_
          refine lv_ifnonnullV (tgt := 63) hx hb dX9_getOr_55 (by decide) (fun a35 c34 => ?_) (fun c34 => ?_)
          · subst c34
            replace hw := hw.2 a35 rfl
            refine lv_aload_n hx hb dX9_getOr_63 rfl (lv_at hl 3 rfl) ?_
            obtain ⟨o40, h41, hw⟩ := hw
            refine h_getR C0 hW (T := TX9) (kf := 2) in_X9_getOr_RX9 h41 rfl (by decide) (List.mem_of_getElem? (i := 1) rfl) rfl dX9_getOr_64 ?_
            refine lv_iload_n hx hb dX9_getOr_67 rfl (lv_at hl 4 rfl) ?_
            refine lv_aload hx hb dX9_getOr_68 (lv_at hl 2 rfl) ?_
            obtain ⟨o42, h43, hw⟩ := hw
            refine h_getRN C0 hW (host := RX9) (T := TX6) (kf := 0) in_X9_getOr_RX6 h43 rfl (by decide) (by decide +kernel) rfl dX9_getOr_70 ?_
            obtain ⟨a44, rfl, hw⟩ := hw
            obtain ⟨h46, hw⟩ := hw
            refine h_goq C0 hW (va_runV (As := [.int z1, va_rf o42]) (rest := []) ⟨hx, hb, hml, ho, hts⟩ (k_X4_lookUp (l := l) (u := u) (X := X) (sz := H.size) _ a44 z1 o42 S  hw) (cwV 2 hts gX9_getOr_X4_lookUp rfl rfl rfl (by decide +kernel) ⟨Nat.le_of_ble_eq_true rfl, Nat.le_of_ble_eq_true rfl⟩) ⟨h_blind, (h_recv C0 hW (ci := 5) rfl h46), (h_pre C0 hW [.ref a44, .int z1, va_rf o42])⟩ rfl rfl hl.1 rfl (lv_room (Nat.le_of_ble_eq_true rfl)) dX9_getOr_73 ⟨Nat.le_refl _, Nat.le_refl _⟩) (fun r45 S47 H locs h48 hW => ?_)
            obtain ⟨h49, hp⟩ := h48
            rw [h49] at hW
            replace hw := hp
            refine lv_astoreV (i := 8) (lv' := [(8, va_rf r45), (7, .ref a31), (6, .ref a29), (5, .ref a27), (0, .ref t0), (1, .int z1), (2, .int z2), (3, .int z3), (4, .int z4)]) hx hb dX9_getOr_76 hl (by decide) rfl (fun ls hl9 => ?_)
            replace hl := hl9
            refine lv_aloadV hx hb dX9_getOr_78 (lv_at hl 0 rfl) ?_
            refine lv_ifnonnullV (tgt := 90) hx hb dX9_getOr_80 (by decide) (fun a51 c50 => ?_) (fun c50 => ?_)
            · subst c50
              replace hw := hw.2 a51 rfl
              exact t_X9_getOr_90 C0 t0 post hret  a31 (some a51) S  hw _ _ _ hW (lv_sub hl [4, 1, 0] rfl)
            · subst c50
              replace hw := hw.1 rfl
              refine lv_aload hx hb dX9_getOr_83 (lv_at hl 2 rfl) ?_
              obtain ⟨o52, h53, hw⟩ := hw
              refine h_getRN C0 hW (host := RX9) (T := TX6) (kf := 0) in_X9_getOr_RX6 h53 rfl (by decide) (by decide +kernel) rfl dX9_getOr_85 ?_
              refine lv_astoreV (i := 8) (lv' := [(8, va_rf o52), (7, .ref a31), (6, .ref a29), (5, .ref a27), (0, .ref t0), (1, .int z1), (2, .int z2), (3, .int z3), (4, .int z4)]) hx hb dX9_getOr_88 hl (by decide) rfl (fun ls hl9 => ?_)
              replace hl := hl9
              exact t_X9_getOr_90 C0 t0 post hret  a31 o52 S  hw _ _ _ hW (lv_sub hl [4, 1, 0] rfl)
          · subst c34
            replace hw := hw.1 rfl
            refine lv_aload_n hx hb dX9_getOr_58 rfl (lv_at hl 3 rfl) ?_
            obtain ⟨h37, hw⟩ := hw
            refine h_goi C0 hW (va_runV (As := []) (rest := []) ⟨hx, hb, hml, ho, hts⟩ (k_X9_refuseNull (l := l) (u := u) (X := X) (sz := H.size) _ t0  S  hw) (cwV 0 hts gX9_getOr_X9_refuseNull rfl rfl rfl (by decide +kernel) ⟨Nat.le_of_ble_eq_true rfl, Nat.le_of_ble_eq_true rfl⟩) ⟨h_blind, (h_recv C0 hW (ci := 10) rfl h37), (h_pre C0 hW [.ref t0])⟩ rfl rfl hl.1 rfl (lv_room (Nat.le_of_ble_eq_true rfl)) dX9_getOr_59 ⟨Nat.le_refl _, Nat.le_refl _⟩) (fun r36 S38 H locs h39 hW => ?_)
            replace hw := h39
            exact hret r36 S38 _ _ 0 0 (Nat.le_refl _) (Nat.le_refl _) hw rfl dX9_getOr_62 _ _ _ hW hl
        · subst c30
          replace hw := hw.1 rfl
          refine lv_iconst (v := (-1)) hx hb dX9_getOr_48 (by decide) ?_
          exact hret (-1) S _ _ 0 0 (Nat.le_refl _) (Nat.le_refl _) hw rfl dX9_getOr_49 _ _ _ hW hl
set_option maxHeartbeats 4000000 in
set_option maxRecDepth 100000 in
theorem k_X9_getOr {l : Launch} {D : va_G} {u : hU} {X : va_W} {sz : Nat} (post : Int32 → hS → Prop) (t0 : Nat) (z1 : Int32) (z2 : Int32) (z3 : Int32) (z4 : Int32) (S : hS) (hw : w_X9_getOr u post t0 z1 z2 z3 z4 S) : hMi l yX9_getOr wsX9_getOr rm_X9_getOr D (gt u.2.1) u.1 u.2.2 sz X S [.ref t0, .int z1, .int z2, .int z3, .int z4] post 0 0 := by
  refine hMi_of (cc := cX9_getOr) (nL := 9) (ty := .int) (own := RX9) (by decide) rfl rfl (Nat.le_of_ble_eq_true rfl) ?_
  intro p e s m args below meth c A Q C0 hin hret
  exact t_X9_getOr_0 C0 t0 post hret z1 z2 z3 z4 S hw
abbrev rm_X9_has : Room := { frames := 7, cells := 0, slots := 0, locals := 154 }
theorem in_X9_has_RX6 : ∀ w ∈ wsX60, w ∈ wsX9_has := fun w hw9 => List.mem_cons_of_mem _ (List.mem_append_left _ (List.mem_append_left _ (List.mem_append_left _ (List.mem_append_left _ (List.mem_append_right _ hw9)))))
theorem in_X9_has_RX9 : ∀ w ∈ wsX90, w ∈ wsX9_has := fun w hw9 => List.mem_cons_of_mem _ (List.mem_append_left _ (List.mem_append_left _ (List.mem_append_left _ (List.mem_append_left _ (List.mem_append_left _ (List.mem_append_right _ hw9))))))
set_option maxHeartbeats 4000000 in
set_option maxRecDepth 100000 in
theorem t_X9_has_0 (C0 : hX p s m args c cX9_has 5 RX9 wsX9_has D (gt u.2.1) A u.1 u.2.2) (t0 : Nat) (post : Int32 → hS → Prop) (hret : ∀ (r : Int32) (S' : hS) (pc : Nat) (lv : List (Nat × Value)) (k n : Nat), k ≤ 0 → n ≤ 0 → post r S' → narrow .int (.int r) = .int r → decode cX9_has pc = .ok (.ireturn, 1) → gG p l e (rm_X9_has) s m args below meth c Q D A 5 k n (hC X S') pc lv [.int r])  : ∀ (z1 : Int32) (z2 : Int32) (S : hS), w_X9_has u post t0  z1 z2 S → gG p l e (rm_X9_has) s m args below meth c Q D A 5 0 0 (hC X S) 0 [(0, .ref t0), (1, .int z1), (2, .int z2)] [] := by
  obtain ⟨⟨hx, hb, hml, ho, hts, hK, hA⟩, hR⟩ := id C0
  intro z1 z2 S hw H locs ls hW hl
  rw [w_X9_has] at hw
  refine lv_aload_n hx hb dX9_has_0 rfl (lv_at hl 0 rfl) ?_
  obtain ⟨o1, h2, hw⟩ := hw
  refine h_getR C0 hW (T := TX9) (kf := 2) in_X9_has_RX9 h2 rfl (by decide) (List.mem_of_getElem? (i := 1) rfl) rfl dX9_has_1 ?_
  refine lv_iload_n hx hb dX9_has_4 rfl (lv_at hl 1 rfl) ?_
  obtain ⟨a3, rfl, hw⟩ := hw
  obtain ⟨h5, hw⟩ := hw
  refine h_goq C0 hW (va_runV (As := [.int z1]) (rest := []) ⟨hx, hb, hml, ho, hts⟩ (k_X4_layerAt (l := l) (u := u) (X := X) (sz := H.size) _ a3 z1 S  hw) (cwV 1 hts gX9_has_X4_layerAt rfl rfl rfl (by decide +kernel) ⟨Nat.le_of_ble_eq_true rfl, Nat.le_of_ble_eq_true rfl⟩) ⟨h_blind, (h_recv C0 hW (ci := 5) rfl h5), (h_pre C0 hW [.ref a3, .int z1])⟩ rfl rfl hl.1 rfl (lv_room (Nat.le_of_ble_eq_true rfl)) dX9_has_5 ⟨Nat.le_refl _, Nat.le_refl _⟩) (fun r4 S6 H locs h7 hW => ?_)
  obtain ⟨h8, hp⟩ := h7
  rw [h8] at hW
  replace hw := hp
  refine lv_astoreV_n (i := 3) (lv' := [(3, va_rf r4), (0, .ref t0), (1, .int z1), (2, .int z2)]) hx hb dX9_has_8 rfl hl (by decide) rfl (fun ls hl9 => ?_)
  replace hl := hl9
  refine lv_aload_n hx hb dX9_has_9 rfl (lv_at hl 1 rfl) ?_
  refine lv_iload_n hx hb dX9_has_10 rfl (lv_at hl 3 rfl) ?_
  obtain ⟨h10, hw⟩ := hw
  refine h_goq C0 hW (va_runV (As := [.int z2]) (rest := []) ⟨hx, hb, hml, ho, hts⟩ (k_X9_slotAt (l := l) (u := u) (X := X) (sz := H.size) _ t0 z2 S  hw) (cwV 1 hts gX9_has_X9_slotAt rfl rfl rfl (by decide +kernel) ⟨Nat.le_of_ble_eq_true rfl, Nat.le_of_ble_eq_true rfl⟩) ⟨h_blind, (h_recv C0 hW (ci := 10) rfl h10), (h_pre C0 hW [.ref t0, .int z2])⟩ rfl rfl hl.1 rfl (lv_room (Nat.le_of_ble_eq_true rfl)) dX9_has_11 ⟨Nat.le_refl _, Nat.le_refl _⟩) (fun r9 S11 H locs h12 hW => ?_)
  obtain ⟨h13, hp⟩ := h12
  rw [h13] at hW
  replace hw := hp
  refine lv_astoreV (i := 4) (lv' := [(4, va_rf r9), (3, va_rf r4), (0, .ref t0), (1, .int z1), (2, .int z2)]) hx hb dX9_has_14 hl (by decide) (by show (4, va_rf r9) :: List.filter (fun q : Nat × Value => !(q.1 == 4) && !(q.1 + 1 == 4 && q.2.category == 2)) [(3, va_rf r4), (0, .ref t0), (1, .int z1), (2, .int z2)] = [(4, va_rf r9), (3, va_rf r4), (0, .ref t0), (1, .int z1), (2, .int z2)]; simp [va_rf_cat, va_c_ref, va_c_int, va_c_null]) (fun ls hl9 => ?_)
  replace hl := hl9
  refine lv_aloadV_n hx hb dX9_has_16 rfl (lv_at hl 1 rfl) ?_
  refine lv_ifnullV (tgt := 25) hx hb dX9_has_17 (by decide) (fun c14 => ?_) (fun a15 c14 => ?_)
  · subst c14
    replace hw := hw.1 rfl
    refine lv_iconst (v := (-1)) hx hb dX9_has_25 (by decide) ?_
    exact hret (-1) S _ _ 0 0 (Nat.le_refl _) (Nat.le_refl _) hw rfl dX9_has_26 _ _ _ hW hl
  · subst c14
    replace hw := hw.2 a15 rfl
    refine lv_aloadV hx hb dX9_has_20 (lv_at hl 0 rfl) ?_
    refine lv_ifnonnullV (tgt := 27) hx hb dX9_has_22 (by decide) (fun a17 c16 => ?_) (fun c16 => ?_)
    · subst c16
      replace hw := hw.2 a17 rfl
      refine lv_aload hx hb dX9_has_27 (lv_at hl 0 rfl) ?_
      obtain ⟨o18, h19, hw⟩ := hw
      refine h_getRN C0 hW (host := RX9) (T := TX6) (kf := 0) in_X9_has_RX6 h19 rfl (by decide) (by decide +kernel) rfl dX9_has_29 ?_
      refine lv_ifnonnullV (tgt := 40) hx hb dX9_has_32 (by decide) (fun a21 c20 => ?_) (fun c20 => ?_)
      · subst c20
        replace hw := hw.2 a21 rfl
        refine lv_aload_n hx hb dX9_has_40 rfl (lv_at hl 1 rfl) ?_
        refine lv_aload hx hb dX9_has_41 (lv_at hl 0 rfl) ?_
        obtain ⟨o26, h27, hw⟩ := hw
        refine h_getRN C0 hW (host := RX9) (T := TX6) (kf := 0) in_X9_has_RX6 h27 rfl (by decide) (by decide +kernel) rfl dX9_has_43 ?_
        obtain ⟨h29, hw⟩ := hw
        refine h_goq C0 hW (va_runV (As := [va_rf o26]) (rest := []) ⟨hx, hb, hml, ho, hts⟩ (k_X3_valueOf (l := l) (u := u) (X := X) (sz := H.size) _ a15 o26 S  hw) (cwV 1 hts gX9_has_X3_valueOf rfl rfl rfl (by decide +kernel) ⟨Nat.le_of_ble_eq_true rfl, Nat.le_of_ble_eq_true rfl⟩) ⟨h_blind, (h_recv C0 hW (ci := 4) rfl h29), (h_pre C0 hW [.ref a15, va_rf o26])⟩ rfl rfl hl.1 rfl (lv_room (Nat.le_of_ble_eq_true rfl)) dX9_has_46 ⟨Nat.le_refl _, Nat.le_refl _⟩) (fun r28 S30 H locs h31 hW => ?_)
        obtain ⟨h32, hp⟩ := h31
        rw [h32] at hW
        replace hw := hp
        refine lv_ifnullV (tgt := 56) hx hb dX9_has_49 (by decide) (fun c33 => ?_) (fun a34 c33 => ?_)
        · subst c33
          replace hw := hw.1 rfl
          refine lv_iconst (v := 0) hx hb dX9_has_56 (by decide) ?_
          exact hret 0 S _ _ 0 0 (Nat.le_refl _) (Nat.le_refl _) hw rfl dX9_has_57 _ _ _ hW hl
        · subst c33
          replace hw := hw.2 a34 rfl
          refine lv_iconst (v := 1) hx hb dX9_has_52 (by decide) ?_
          refine lv_goto (tgt := 57) hx hb dX9_has_53 (by decide) ?_
          exact hret 1 S _ _ 0 0 (Nat.le_refl _) (Nat.le_refl _) hw rfl dX9_has_57 _ _ _ hW hl
      · subst c20
        replace hw := hw.1 rfl
        refine lv_aload_n hx hb dX9_has_35 rfl (lv_at hl 2 rfl) ?_
        obtain ⟨h23, hw⟩ := hw
        refine h_goi C0 hW (va_runV (As := []) (rest := []) ⟨hx, hb, hml, ho, hts⟩ (k_X9_refuseNull (l := l) (u := u) (X := X) (sz := H.size) _ t0  S  hw) (cwV 0 hts gX9_has_X9_refuseNull rfl rfl rfl (by decide +kernel) ⟨Nat.le_of_ble_eq_true rfl, Nat.le_of_ble_eq_true rfl⟩) ⟨h_blind, (h_recv C0 hW (ci := 10) rfl h23), (h_pre C0 hW [.ref t0])⟩ rfl rfl hl.1 rfl (lv_room (Nat.le_of_ble_eq_true rfl)) dX9_has_36 ⟨Nat.le_refl _, Nat.le_refl _⟩) (fun r22 S24 H locs h25 hW => ?_)
        replace hw := h25
        exact hret r22 S24 _ _ 0 0 (Nat.le_refl _) (Nat.le_refl _) hw rfl dX9_has_39 _ _ _ hW hl
    · subst c16
      replace hw := hw.1 rfl
      refine lv_iconst (v := (-1)) hx hb dX9_has_25 (by decide) ?_
      exact hret (-1) S _ _ 0 0 (Nat.le_refl _) (Nat.le_refl _) hw rfl dX9_has_26 _ _ _ hW hl
set_option maxHeartbeats 4000000 in
set_option maxRecDepth 100000 in
theorem k_X9_has {l : Launch} {D : va_G} {u : hU} {X : va_W} {sz : Nat} (post : Int32 → hS → Prop) (t0 : Nat) (z1 : Int32) (z2 : Int32) (S : hS) (hw : w_X9_has u post t0 z1 z2 S) : hMi l yX9_has wsX9_has rm_X9_has D (gt u.2.1) u.1 u.2.2 sz X S [.ref t0, .int z1, .int z2] post 0 0 := by
  refine hMi_of (cc := cX9_has) (nL := 5) (ty := .int) (own := RX9) (by decide) rfl rfl (Nat.le_of_ble_eq_true rfl) ?_
  intro p e s m args below meth c A Q C0 hin hret
  exact t_X9_has_0 C0 t0 post hret z1 z2 S hw
abbrev rm_X9_layerOf : Room := { frames := 8, cells := 0, slots := 0, locals := 178 }
theorem in_X9_layerOf_RX6 : ∀ w ∈ wsX60, w ∈ wsX9_layerOf := fun w hw9 => List.mem_cons_of_mem _ (List.mem_append_left _ (List.mem_append_left _ (List.mem_append_left _ (List.mem_append_left _ (List.mem_append_right _ hw9)))))
theorem in_X9_layerOf_RX9 : ∀ w ∈ wsX90, w ∈ wsX9_layerOf := fun w hw9 => List.mem_cons_of_mem _ (List.mem_append_left _ (List.mem_append_left _ (List.mem_append_left _ (List.mem_append_left _ (List.mem_append_left _ (List.mem_append_right _ hw9))))))
set_option maxHeartbeats 4000000 in
set_option maxRecDepth 100000 in
theorem t_X9_layerOf_0 (C0 : hX p s m args c cX9_layerOf 4 RX9 wsX9_layerOf D (gt u.2.1) A u.1 u.2.2) (t0 : Nat) (post : Int32 → hS → Prop) (hret : ∀ (r : Int32) (S' : hS) (pc : Nat) (lv : List (Nat × Value)) (k n : Nat), k ≤ 0 → n ≤ 0 → post r S' → narrow .int (.int r) = .int r → decode cX9_layerOf pc = .ok (.ireturn, 1) → gG p l e (rm_X9_layerOf) s m args below meth c Q D A 4 k n (hC X S') pc lv [.int r])  : ∀ (z1 : Int32) (z2 : Int32) (S : hS), w_X9_layerOf u post t0  z1 z2 S → gG p l e (rm_X9_layerOf) s m args below meth c Q D A 4 0 0 (hC X S) 0 [(0, .ref t0), (1, .int z1), (2, .int z2)] [] := by
  obtain ⟨⟨hx, hb, hml, ho, hts, hK, hA⟩, hR⟩ := id C0
  intro z1 z2 S hw H locs ls hW hl
  rw [w_X9_layerOf] at hw
  refine lv_aload_n hx hb dX9_layerOf_0 rfl (lv_at hl 0 rfl) ?_
  refine lv_iload_n hx hb dX9_layerOf_1 rfl (lv_at hl 2 rfl) ?_
  obtain ⟨h2, hw⟩ := hw
  refine h_goq C0 hW (va_runV (As := [.int z2]) (rest := []) ⟨hx, hb, hml, ho, hts⟩ (k_X9_slotAt (l := l) (u := u) (X := X) (sz := H.size) _ t0 z2 S  hw) (cwV 1 hts gX9_layerOf_X9_slotAt rfl rfl rfl (by decide +kernel) ⟨Nat.le_of_ble_eq_true rfl, Nat.le_of_ble_eq_true rfl⟩) ⟨h_blind, (h_recv C0 hW (ci := 10) rfl h2), (h_pre C0 hW [.ref t0, .int z2])⟩ rfl rfl hl.1 rfl (lv_room (Nat.le_of_ble_eq_true rfl)) dX9_layerOf_2 ⟨Nat.le_refl _, Nat.le_refl _⟩) (fun r1 S3 H locs h4 hW => ?_)
  obtain ⟨h5, hp⟩ := h4
  rw [h5] at hW
  replace hw := hp
  refine lv_astoreV_n (i := 3) (lv' := [(3, va_rf r1), (0, .ref t0), (1, .int z1), (2, .int z2)]) hx hb dX9_layerOf_5 rfl hl (by decide) rfl (fun ls hl9 => ?_)
  replace hl := hl9
  refine lv_aload_n hx hb dX9_layerOf_6 rfl (lv_at hl 1 rfl) ?_
  obtain ⟨o6, h7, hw⟩ := hw
  refine h_getR C0 hW (T := TX9) (kf := 2) in_X9_layerOf_RX9 h7 rfl (by decide) (List.mem_of_getElem? (i := 1) rfl) rfl dX9_layerOf_7 ?_
  refine lv_iload_n hx hb dX9_layerOf_10 rfl (lv_at hl 2 rfl) ?_
  obtain ⟨a8, rfl, hw⟩ := hw
  obtain ⟨h10, hw⟩ := hw
  refine h_goq C0 hW (va_runV (As := [.int z1]) (rest := []) ⟨hx, hb, hml, ho, hts⟩ (k_X4_layerAt (l := l) (u := u) (X := X) (sz := H.size) _ a8 z1 S  hw) (cwV 1 hts gX9_layerOf_X4_layerAt rfl rfl rfl (by decide +kernel) ⟨Nat.le_of_ble_eq_true rfl, Nat.le_of_ble_eq_true rfl⟩) ⟨h_blind, (h_recv C0 hW (ci := 5) rfl h10), (h_pre C0 hW [.ref a8, .int z1])⟩ rfl rfl hl.1 rfl (lv_room (Nat.le_of_ble_eq_true rfl)) dX9_layerOf_11 ⟨Nat.le_refl _, Nat.le_refl _⟩) (fun r9 S11 H locs h12 hW => ?_)
  obtain ⟨h13, hp⟩ := h12
  rw [h13] at hW
  replace hw := hp
  refine lv_ifnullV (tgt := 21) hx hb dX9_layerOf_14 (by decide) (fun c14 => ?_) (fun a15 c14 => ?_)
  · subst c14
    replace hw := hw.1 rfl
    refine lv_iconst (v := (-1)) hx hb dX9_layerOf_21 (by decide) ?_
    exact hret (-1) S _ _ 0 0 (Nat.le_refl _) (Nat.le_refl _) hw rfl dX9_layerOf_22 _ _ _ hW hl
  · subst c14
    replace hw := hw.2 a15 rfl
    refine lv_aloadV_n hx hb dX9_layerOf_17 rfl (lv_at hl 0 rfl) ?_
    refine lv_ifnonnullV (tgt := 23) hx hb dX9_layerOf_18 (by decide) (fun a17 c16 => ?_) (fun c16 => ?_)
    · subst c16
      replace hw := hw.2 a17 rfl
      refine lv_aload_n hx hb dX9_layerOf_23 rfl (lv_at hl 0 rfl) ?_
      obtain ⟨o18, h19, hw⟩ := hw
      refine h_getRN C0 hW (host := RX9) (T := TX6) (kf := 0) in_X9_layerOf_RX6 h19 rfl (by decide) (by decide +kernel) rfl dX9_layerOf_24 ?_
      refine lv_ifnonnullV (tgt := 35) hx hb dX9_layerOf_27 (by decide) (fun a21 c20 => ?_) (fun c20 => ?_)
      · subst c20
        replace hw := hw.2 a21 rfl
        refine lv_aload_n hx hb dX9_layerOf_35 rfl (lv_at hl 1 rfl) ?_
        obtain ⟨o26, h27, hw⟩ := hw
        refine h_getR C0 hW (T := TX9) (kf := 2) in_X9_layerOf_RX9 h27 rfl (by decide) (List.mem_of_getElem? (i := 1) rfl) rfl dX9_layerOf_36 ?_
        refine lv_iload_n hx hb dX9_layerOf_39 rfl (lv_at hl 2 rfl) ?_
        refine lv_aload_n hx hb dX9_layerOf_40 rfl (lv_at hl 0 rfl) ?_
        obtain ⟨o28, h29, hw⟩ := hw
        refine h_getRN C0 hW (host := RX9) (T := TX6) (kf := 0) in_X9_layerOf_RX6 h29 rfl (by decide) (by decide +kernel) rfl dX9_layerOf_41 ?_
        obtain ⟨a30, rfl, hw⟩ := hw
        obtain ⟨h32, hw⟩ := hw
        refine h_goi C0 hW (va_runV (As := [.int z1, va_rf o28]) (rest := []) ⟨hx, hb, hml, ho, hts⟩ (k_X4_layerHaving (l := l) (u := u) (X := X) (sz := H.size) _ a30 z1 o28 S  hw) (cwV 2 hts gX9_layerOf_X4_layerHaving rfl rfl rfl (by decide +kernel) ⟨Nat.le_of_ble_eq_true rfl, Nat.le_of_ble_eq_true rfl⟩) ⟨h_blind, (h_recv C0 hW (ci := 5) rfl h32), (h_pre C0 hW [.ref a30, .int z1, va_rf o28])⟩ rfl rfl hl.1 rfl (lv_room (Nat.le_of_ble_eq_true rfl)) dX9_layerOf_44 ⟨Nat.le_refl _, Nat.le_refl _⟩) (fun r31 S33 H locs h34 hW => ?_)
        obtain ⟨h35, hp⟩ := h34
        rw [h35] at hW
        replace hw := hp
        exact hret r31 S _ _ 0 0 (Nat.le_refl _) (Nat.le_refl _) hw rfl dX9_layerOf_47 _ _ _ hW hl
      · subst c20
        replace hw := hw.1 rfl
        refine lv_aload_n hx hb dX9_layerOf_30 rfl (lv_at hl 1 rfl) ?_
        obtain ⟨h23, hw⟩ := hw
        refine h_goi C0 hW (va_runV (As := []) (rest := []) ⟨hx, hb, hml, ho, hts⟩ (k_X9_refuseNull (l := l) (u := u) (X := X) (sz := H.size) _ t0  S  hw) (cwV 0 hts gX9_layerOf_X9_refuseNull rfl rfl rfl (by decide +kernel) ⟨Nat.le_of_ble_eq_true rfl, Nat.le_of_ble_eq_true rfl⟩) ⟨h_blind, (h_recv C0 hW (ci := 10) rfl h23), (h_pre C0 hW [.ref t0])⟩ rfl rfl hl.1 rfl (lv_room (Nat.le_of_ble_eq_true rfl)) dX9_layerOf_31 ⟨Nat.le_refl _, Nat.le_refl _⟩) (fun r22 S24 H locs h25 hW => ?_)
        replace hw := h25
        exact hret r22 S24 _ _ 0 0 (Nat.le_refl _) (Nat.le_refl _) hw rfl dX9_layerOf_34 _ _ _ hW hl
    · subst c16
      replace hw := hw.1 rfl
      refine lv_iconst (v := (-1)) hx hb dX9_layerOf_21 (by decide) ?_
      exact hret (-1) S _ _ 0 0 (Nat.le_refl _) (Nat.le_refl _) hw rfl dX9_layerOf_22 _ _ _ hW hl
set_option maxHeartbeats 4000000 in
set_option maxRecDepth 100000 in
theorem k_X9_layerOf {l : Launch} {D : va_G} {u : hU} {X : va_W} {sz : Nat} (post : Int32 → hS → Prop) (t0 : Nat) (z1 : Int32) (z2 : Int32) (S : hS) (hw : w_X9_layerOf u post t0 z1 z2 S) : hMi l yX9_layerOf wsX9_layerOf rm_X9_layerOf D (gt u.2.1) u.1 u.2.2 sz X S [.ref t0, .int z1, .int z2] post 0 0 := by
  refine hMi_of (cc := cX9_layerOf) (nL := 4) (ty := .int) (own := RX9) (by decide) rfl rfl (Nat.le_of_ble_eq_true rfl) ?_
  intro p e s m args below meth c A Q C0 hin hret
  exact t_X9_layerOf_0 C0 t0 post hret z1 z2 S hw
abbrev rm_X9_set (MC MS : Nat) : Room := { frames := 7, cells := MC, slots := MS, locals := 157 }
theorem in_X9_set_RX6 : ∀ w ∈ wsX60, w ∈ wsX9_set := fun w hw9 => List.mem_cons_of_mem _ (List.mem_append_left _ (List.mem_append_left _ (List.mem_append_left _ (List.mem_append_left _ (List.mem_append_right _ hw9)))))
theorem in_X9_set_RX9 : ∀ w ∈ wsX90, w ∈ wsX9_set := fun w hw9 => List.mem_cons_of_mem _ (List.mem_append_left _ (List.mem_append_left _ (List.mem_append_left _ (List.mem_append_left _ (List.mem_append_left _ (List.mem_append_right _ hw9))))))
set_option maxHeartbeats 4000000 in
set_option maxRecDepth 100000 in
theorem t_X9_set_0 (C0 : hX p s m args c cX9_set 10 RX9 wsX9_set D (gt u.2.1) A u.1 u.2.2) (t0 : Nat) (post : Int32 → hS → Prop) (hret : ∀ (r : Int32) (S' : hS) (pc : Nat) (lv : List (Nat × Value)) (k n : Nat), k ≤ MC → n ≤ MS → post r S' → narrow .int (.int r) = .int r → decode cX9_set pc = .ok (.ireturn, 1) → gG p l e (rm_X9_set MC MS) s m args below meth c Q D A 10 k n (hC X S') pc lv [.int r])  : ∀ (z1 : Int32) (z2 : Int32) (z3 : Int32) (z4 : Int32) (S : hS) (mc ms k n : Nat), k + mc ≤ MC ∧ n + ms ≤ MS → w_X9_set u post t0  z1 z2 z3 z4 S mc ms → gG p l e (rm_X9_set MC MS) s m args below meth c Q D A 10 k n (hC X S) 0 [(0, .ref t0), (1, .int z1), (2, .int z2), (3, .int z3), (4, .int z4)] [] := by
  obtain ⟨⟨hx, hb, hml, ho, hts, hK, hA⟩, hR⟩ := id C0
  intro z1 z2 z3 z4 S mc ms k n hkn hw H locs ls hW hl
  rw [w_X9_set] at hw
  refine lv_aload_n hx hb dX9_set_0 rfl (lv_at hl 0 rfl) ?_
  obtain ⟨o1, h2, hw⟩ := hw
  refine h_getR C0 hW (T := TX9) (kf := 2) in_X9_set_RX9 h2 rfl (by decide) (List.mem_of_getElem? (i := 1) rfl) rfl dX9_set_1 ?_
  refine lv_iload_n hx hb dX9_set_4 rfl (lv_at hl 1 rfl) ?_
  obtain ⟨a3, rfl, hw⟩ := hw
  obtain ⟨h5, hw⟩ := hw
  refine h_goq C0 hW (va_runV (As := [.int z1]) (rest := []) ⟨hx, hb, hml, ho, hts⟩ (k_X4_layerAt (l := l) (u := u) (X := X) (sz := H.size) _ a3 z1 S  hw) (cwV 1 hts gX9_set_X4_layerAt rfl rfl rfl (by decide +kernel) ⟨Nat.le_of_ble_eq_true rfl, Nat.le_of_ble_eq_true rfl⟩) ⟨h_blind, (h_recv C0 hW (ci := 5) rfl h5), (h_pre C0 hW [.ref a3, .int z1])⟩ rfl rfl hl.1 rfl (lv_room (Nat.le_of_ble_eq_true rfl)) dX9_set_5 ⟨by show _ ≤ MC; omega, by show _ ≤ MS; omega⟩) (fun r4 S6 H locs h7 hW => ?_)
  obtain ⟨h8, hp⟩ := h7
  rw [h8] at hW
  replace hw := hp
  refine lv_astoreV (i := 5) (lv' := [(5, va_rf r4), (0, .ref t0), (1, .int z1), (2, .int z2), (3, .int z3), (4, .int z4)]) hx hb dX9_set_8 hl (by decide) rfl (fun ls hl9 => ?_)
  replace hl := hl9
  refine lv_aload_n hx hb dX9_set_10 rfl (lv_at hl 1 rfl) ?_
  refine lv_iload_n hx hb dX9_set_11 rfl (lv_at hl 3 rfl) ?_
  obtain ⟨h10, hw⟩ := hw
  refine h_goq C0 hW (va_runV (As := [.int z2]) (rest := []) ⟨hx, hb, hml, ho, hts⟩ (k_X9_slotAt (l := l) (u := u) (X := X) (sz := H.size) _ t0 z2 S  hw) (cwV 1 hts gX9_set_X9_slotAt rfl rfl rfl (by decide +kernel) ⟨Nat.le_of_ble_eq_true rfl, Nat.le_of_ble_eq_true rfl⟩) ⟨h_blind, (h_recv C0 hW (ci := 10) rfl h10), (h_pre C0 hW [.ref t0, .int z2])⟩ rfl rfl hl.1 rfl (lv_room (Nat.le_of_ble_eq_true rfl)) dX9_set_12 ⟨by show _ ≤ MC; omega, by show _ ≤ MS; omega⟩) (fun r9 S11 H locs h12 hW => ?_)
  obtain ⟨h13, hp⟩ := h12
  rw [h13] at hW
  replace hw := hp
  refine lv_astoreV (i := 6) (lv' := [(6, va_rf r9), (5, va_rf r4), (0, .ref t0), (1, .int z1), (2, .int z2), (3, .int z3), (4, .int z4)]) hx hb dX9_set_15 hl (by decide) (by show (6, va_rf r9) :: List.filter (fun q : Nat × Value => !(q.1 == 6) && !(q.1 + 1 == 6 && q.2.category == 2)) [(5, va_rf r4), (0, .ref t0), (1, .int z1), (2, .int z2), (3, .int z3), (4, .int z4)] = [(6, va_rf r9), (5, va_rf r4), (0, .ref t0), (1, .int z1), (2, .int z2), (3, .int z3), (4, .int z4)]; simp [va_rf_cat, va_c_ref, va_c_int, va_c_null]) (fun ls hl9 => ?_)
  replace hl := hl9
  refine lv_aload_n hx hb dX9_set_17 rfl (lv_at hl 2 rfl) ?_
  refine lv_iload_n hx hb dX9_set_18 rfl (lv_at hl 5 rfl) ?_
  obtain ⟨h15, hw⟩ := hw
  refine h_goq C0 hW (va_runV (As := [.int z3]) (rest := []) ⟨hx, hb, hml, ho, hts⟩ (k_X9_slotAt (l := l) (u := u) (X := X) (sz := H.size) _ t0 z3 S  hw) (cwV 1 hts gX9_set_X9_slotAt rfl rfl rfl (by decide +kernel) ⟨Nat.le_of_ble_eq_true rfl, Nat.le_of_ble_eq_true rfl⟩) ⟨h_blind, (h_recv C0 hW (ci := 10) rfl h15), (h_pre C0 hW [.ref t0, .int z3])⟩ rfl rfl hl.1 rfl (lv_room (Nat.le_of_ble_eq_true rfl)) dX9_set_19 ⟨by show _ ≤ MC; omega, by show _ ≤ MS; omega⟩) (fun r14 S16 H locs h17 hW => ?_)
  obtain ⟨h18, hp⟩ := h17
  rw [h18] at hW
  replace hw := hp
  refine lv_astoreV (i := 7) (lv' := [(7, va_rf r14), (6, va_rf r9), (5, va_rf r4), (0, .ref t0), (1, .int z1), (2, .int z2), (3, .int z3), (4, .int z4)]) hx hb dX9_set_22 hl (by decide) (by show (7, va_rf r14) :: List.filter (fun q : Nat × Value => !(q.1 == 7) && !(q.1 + 1 == 7 && q.2.category == 2)) [(6, va_rf r9), (5, va_rf r4), (0, .ref t0), (1, .int z1), (2, .int z2), (3, .int z3), (4, .int z4)] = [(7, va_rf r14), (6, va_rf r9), (5, va_rf r4), (0, .ref t0), (1, .int z1), (2, .int z2), (3, .int z3), (4, .int z4)]; simp [va_rf_cat, va_c_ref, va_c_int, va_c_null]) (fun ls hl9 => ?_)
  replace hl := hl9
  refine lv_aload_n hx hb dX9_set_24 rfl (lv_at hl 3 rfl) ?_
  refine lv_iload hx hb dX9_set_25 (lv_at hl 7 rfl) ?_
  obtain ⟨h20, hw⟩ := hw
  refine h_goq C0 hW (va_runV (As := [.int z4]) (rest := []) ⟨hx, hb, hml, ho, hts⟩ (k_X9_slotAt (l := l) (u := u) (X := X) (sz := H.size) _ t0 z4 S  hw) (cwV 1 hts gX9_set_X9_slotAt rfl rfl rfl (by decide +kernel) ⟨Nat.le_of_ble_eq_true rfl, Nat.le_of_ble_eq_true rfl⟩) ⟨h_blind, (h_recv C0 hW (ci := 10) rfl h20), (h_pre C0 hW [.ref t0, .int z4])⟩ rfl rfl hl.1 rfl (lv_room (Nat.le_of_ble_eq_true rfl)) dX9_set_27 ⟨by show _ ≤ MC; omega, by show _ ≤ MS; omega⟩) (fun r19 S21 H locs h22 hW => ?_)
  obtain ⟨h23, hp⟩ := h22
  rw [h23] at hW
  replace hw := hp
  refine lv_astoreV (i := 8) (lv' := [(8, va_rf r19), (7, va_rf r14), (6, va_rf r9), (5, va_rf r4), (0, .ref t0), (1, .int z1), (2, .int z2), (3, .int z3), (4, .int z4)]) hx hb dX9_set_30 hl (by decide) (by show (8, va_rf r19) :: List.filter (fun q : Nat × Value => !(q.1 == 8) && !(q.1 + 1 == 8 && q.2.category == 2)) [(7, va_rf r14), (6, va_rf r9), (5, va_rf r4), (0, .ref t0), (1, .int z1), (2, .int z2), (3, .int z3), (4, .int z4)] = [(8, va_rf r19), (7, va_rf r14), (6, va_rf r9), (5, va_rf r4), (0, .ref t0), (1, .int z1), (2, .int z2), (3, .int z3), (4, .int z4)]; simp [va_rf_cat, va_c_ref, va_c_int, va_c_null]) (fun ls hl9 => ?_)
  replace hl := hl9
  refine lv_aloadV hx hb dX9_set_32 (lv_at hl 3 rfl) ?_
  refine lv_ifnullV (tgt := 52) hx hb dX9_set_34 (by decide) (fun c24 => ?_) (fun a25 c24 => ?_)
  · subst c24
    replace hw := hw.1 rfl
    refine lv_iconst (v := (-1)) hx hb dX9_set_52 (by decide) ?_
    exact hret (-1) S _ _ _ _ (by omega) (by omega) hw rfl dX9_set_53 _ _ _ hW hl
  · subst c24
    replace hw := hw.2 a25 rfl
    refine lv_aloadV hx hb dX9_set_37 (lv_at hl 2 rfl) ?_
    refine lv_ifnullV (tgt := 52) hx hb dX9_set_39 (by decide) (fun c26 => ?_) (fun a27 c26 => ?_)
    · subst c26
      replace hw := hw.1 rfl
      refine lv_iconst (v := (-1)) hx hb dX9_set_52 (by decide) ?_
      exact hret (-1) S _ _ _ _ (by omega) (by omega) hw rfl dX9_set_53 _ _ _ hW hl
    · subst c26
      replace hw := hw.2 a27 rfl
      refine lv_aloadV hx hb dX9_set_42 (lv_at hl 1 rfl) ?_
      refine lv_ifnullV (tgt := 52) hx hb dX9_set_44 (by decide) (fun c28 => ?_) (fun a29 c28 => ?_)
      · subst c28
        replace hw := hw.1 rfl
        refine lv_iconst (v := (-1)) hx hb dX9_set_52 (by decide) ?_
        exact hret (-1) S _ _ _ _ (by omega) (by omega) hw rfl dX9_set_53 _ _ _ hW hl
      · subst c28
        replace hw := hw.2 a29 rfl
        refine lv_aloadV hx hb dX9_set_47 (lv_at hl 0 rfl) ?_
        refine lv_ifnonnullV (tgt := 54) hx hb dX9_set_49 (by decide) (fun a31 c30 => ?_) (fun c30 => ?_)
        · subst c30
          replace hw := hw.2 a31 rfl
          refine lv_aload hx hb dX9_set_54 (lv_at hl 1 rfl) ?_
          obtain ⟨o32, h33, hw⟩ := hw
          refine h_getRN C0 hW (host := RX9) (T := TX6) (kf := 0) in_X9_set_RX6 h33 rfl (by decide) (by decide +kernel) rfl dX9_set_56 ?_
          refine lv_ifnonnullV (tgt := 65) hx hb dX9_set_59 (by decide) (fun a35 c34 => ?_) (fun c34 => ?_)
          · subst c34
            replace hw := hw.2 a35 rfl
            refine lv_aload hx hb dX9_set_65 (lv_at hl 2 rfl) ?_
            obtain ⟨o36, h37, hw⟩ := hw
            refine h_getRN C0 hW (host := RX9) (T := TX6) (kf := 0) in_X9_set_RX6 h37 rfl (by decide) (by decide +kernel) rfl dX9_set_67 ?_
            refine lv_ifnonnullV (tgt := 78) hx hb dX9_set_70 (by decide) (fun a39 c38 => ?_) (fun c38 => ?_)
            · subst c38
              replace hw := hw.2 a39 rfl
              refine lv_aload hx hb dX9_set_78 (lv_at hl 3 rfl) ?_
              refine lv_aload hx hb dX9_set_80 (lv_at hl 2 rfl) ?_
              obtain ⟨o44, h45, hw⟩ := hw
              refine h_getRN C0 hW (host := RX9) (T := TX6) (kf := 0) in_X9_set_RX6 h45 rfl (by decide) (by decide +kernel) rfl dX9_set_82 ?_
              obtain ⟨h47, hw⟩ := hw
              refine h_goq C0 hW (va_runV (As := [va_rf o44]) (rest := []) ⟨hx, hb, hml, ho, hts⟩ (k_X3_valueOf (l := l) (u := u) (X := X) (sz := H.size) _ a25 o44 S  hw) (cwV 1 hts gX9_set_X3_valueOf rfl rfl rfl (by decide +kernel) ⟨Nat.le_of_ble_eq_true rfl, Nat.le_of_ble_eq_true rfl⟩) ⟨h_blind, (h_recv C0 hW (ci := 4) rfl h47), (h_pre C0 hW [.ref a25, va_rf o44])⟩ rfl rfl hl.1 rfl (lv_room (Nat.le_of_ble_eq_true rfl)) dX9_set_85 ⟨by show _ ≤ MC; omega, by show _ ≤ MS; omega⟩) (fun r46 S48 H locs h49 hW => ?_)
              obtain ⟨h50, hp⟩ := h49
              rw [h50] at hW
              replace hw := hp
              refine lv_astoreV (i := 9) (lv' := [(9, va_rf r46), (8, .ref a31), (7, .ref a29), (6, .ref a27), (5, .ref a25), (0, .ref t0), (1, .int z1), (2, .int z2), (3, .int z3), (4, .int z4)]) hx hb dX9_set_88 hl (by decide) rfl (fun ls hl9 => ?_)
              replace hl := hl9
              refine lv_aload hx hb dX9_set_90 (lv_at hl 4 rfl) ?_
              refine lv_aload hx hb dX9_set_92 (lv_at hl 3 rfl) ?_
              obtain ⟨o51, h52, hw⟩ := hw
              refine h_getRN C0 hW (host := RX9) (T := TX6) (kf := 0) in_X9_set_RX6 h52 rfl (by decide) (by decide +kernel) rfl dX9_set_94 ?_
              refine lv_aload hx hb dX9_set_97 (lv_at hl 2 rfl) ?_
              obtain ⟨o53, h54, hw⟩ := hw
              refine h_getRN C0 hW (host := RX9) (T := TX6) (kf := 0) in_X9_set_RX6 h54 rfl (by decide) (by decide +kernel) rfl dX9_set_99 ?_
              obtain ⟨h60, k56, n57, h58, h59, hw⟩ := hw
              refine h_goi C0 hW (va_runV (As := [va_rf o51, va_rf o53]) (rest := []) ⟨hx, hb, hml, ho, hts⟩ (k_X3_put (l := l) (u := u) (X := X) (sz := H.size) _ a25 o51 o53 S k56 n57 hw) (cwV 2 hts gX9_set_X3_put rfl rfl rfl (by decide +kernel) ⟨Nat.le_of_ble_eq_true rfl, Nat.le_of_ble_eq_true rfl⟩) ⟨h_blind, (h_recv C0 hW (ci := 4) rfl h60), (h_pre C0 hW [.ref a25, va_rf o51, va_rf o53])⟩ rfl rfl hl.1 rfl (lv_room (Nat.le_of_ble_eq_true rfl)) dX9_set_102 ⟨by show _ ≤ MC; omega, by show _ ≤ MS; omega⟩) (fun r55 S61 H locs h62 hW => ?_)
              replace hw := h62
              have hkn : (k + k56) + (mc - k56) ≤ MC ∧ (n + n57) + (ms - n57) ≤ MS := by omega
              refine lv_if_ne (tgt := 111) hx hb dX9_set_105 (by decide) (fun c63 => ?_) (fun c63 => ?_)
              · replace hw := hw.1 c63
                refine lv_aload hx hb dX9_set_111 (lv_at hl 1 rfl) ?_
                refine lv_aloadV hx hb dX9_set_113 (lv_at hl 0 rfl) ?_
                obtain ⟨fs64, h65, h66, hw⟩ := hw
                refine h_putN C0 hW (host := RX9) (T := TX6) (kf := 0) (ty := .object "java/lang/String") in_X9_set_RX6 h65 rfl (by decide) h66 tyX6 tyX6_ok nmX6 (by decide +kernel) rfl rfl (by decide +kernel) (by cases r46 <;> rfl) (by cases r46 <;> rfl) dX9_set_115 (fun H locs hW => ?_)
                obtain ⟨S67, eS67⟩ : ∃ z : hS, z = upS S61 a31 (.inr (7, fs64.set 0 (va_rf r46))) := ⟨_, rfl⟩
                rw [← eS67] at hW
                replace hw := hw S67 eS67
                refine lv_aload hx hb dX9_set_118 (lv_at hl 4 rfl) ?_
                obtain ⟨h69, hw⟩ := hw
                refine h_goi C0 hW (va_runV (As := []) (rest := []) ⟨hx, hb, hml, ho, hts⟩ (k_X3_entryCount (l := l) (u := u) (X := X) (sz := H.size) _ a25  S67  hw) (cwV 0 hts gX9_set_X3_entryCount rfl rfl rfl (by decide +kernel) ⟨Nat.le_of_ble_eq_true rfl, Nat.le_of_ble_eq_true rfl⟩) ⟨h_blind, (h_recv C0 hW (ci := 4) rfl h69), (h_pre C0 hW [.ref a25])⟩ rfl rfl hl.1 rfl (lv_room (Nat.le_of_ble_eq_true rfl)) dX9_set_120 ⟨by show _ ≤ MC; omega, by show _ ≤ MS; omega⟩) (fun r68 S70 H locs h71 hW => ?_)
                obtain ⟨h72, hp⟩ := h71
                rw [h72] at hW
                replace hw := hp
                exact hret r68 S67 _ _ _ _ (by omega) (by omega) hw rfl dX9_set_123 _ _ _ hW hl
              · replace hw := hw.2 c63
                refine lv_bipush (v := (-3)) hx hb dX9_set_108 (by decide) ?_
                exact hret (-3) S61 _ _ _ _ (by omega) (by omega) hw rfl dX9_set_110 _ _ _ hW hl
            · subst c38
              replace hw := hw.1 rfl
              refine lv_aload_n hx hb dX9_set_73 rfl (lv_at hl 4 rfl) ?_
              obtain ⟨h41, hw⟩ := hw
              refine h_goi C0 hW (va_runV (As := []) (rest := []) ⟨hx, hb, hml, ho, hts⟩ (k_X9_refuseNull (l := l) (u := u) (X := X) (sz := H.size) _ t0  S  hw) (cwV 0 hts gX9_set_X9_refuseNull rfl rfl rfl (by decide +kernel) ⟨Nat.le_of_ble_eq_true rfl, Nat.le_of_ble_eq_true rfl⟩) ⟨h_blind, (h_recv C0 hW (ci := 10) rfl h41), (h_pre C0 hW [.ref t0])⟩ rfl rfl hl.1 rfl (lv_room (Nat.le_of_ble_eq_true rfl)) dX9_set_74 ⟨by show _ ≤ MC; omega, by show _ ≤ MS; omega⟩) (fun r40 S42 H locs h43 hW => ?_)
              replace hw := h43
              exact hret r40 S42 _ _ _ _ (by omega) (by omega) hw rfl dX9_set_77 _ _ _ hW hl
          · subst c34
            replace hw := hw.1 rfl
            refine lv_bipush (v := (-2)) hx hb dX9_set_62 (by decide) ?_
            exact hret (-2) S _ _ _ _ (by omega) (by omega) hw rfl dX9_set_64 _ _ _ hW hl
        · subst c30
          replace hw := hw.1 rfl
          refine lv_iconst (v := (-1)) hx hb dX9_set_52 (by decide) ?_
          exact hret (-1) S _ _ _ _ (by omega) (by omega) hw rfl dX9_set_53 _ _ _ hW hl
set_option maxHeartbeats 4000000 in
set_option maxRecDepth 100000 in
theorem k_X9_set {l : Launch} {D : va_G} {u : hU} {X : va_W} {sz : Nat} (post : Int32 → hS → Prop) (t0 : Nat) (z1 : Int32) (z2 : Int32) (z3 : Int32) (z4 : Int32) (S : hS) (mc ms : Nat) (hw : w_X9_set u post t0 z1 z2 z3 z4 S mc ms) : hMi l yX9_set wsX9_set (rm_X9_set mc ms) D (gt u.2.1) u.1 u.2.2 sz X S [.ref t0, .int z1, .int z2, .int z3, .int z4] post mc ms := by
  refine hMi_of (cc := cX9_set) (nL := 10) (ty := .int) (own := RX9) (by decide) rfl rfl (Nat.le_of_ble_eq_true rfl) ?_
  intro p e s m args below meth c A Q C0 hin hret
  exact t_X9_set_0 C0 t0 post hret z1 z2 z3 z4 S mc ms 0 0 ⟨by omega, by omega⟩ hw
abbrev rm_X9_drop : Room := { frames := 7, cells := 0, slots := 0, locals := 156 }
theorem in_X9_drop_RX6 : ∀ w ∈ wsX60, w ∈ wsX9_drop := fun w hw9 => List.mem_cons_of_mem _ (List.mem_append_left _ (List.mem_append_left _ (List.mem_append_left _ (List.mem_append_left _ (List.mem_append_right _ hw9)))))
theorem in_X9_drop_RX9 : ∀ w ∈ wsX90, w ∈ wsX9_drop := fun w hw9 => List.mem_cons_of_mem _ (List.mem_append_left _ (List.mem_append_left _ (List.mem_append_left _ (List.mem_append_left _ (List.mem_append_left _ (List.mem_append_right _ hw9))))))
set_option maxHeartbeats 4000000 in
set_option maxRecDepth 100000 in
theorem t_X9_drop_0 (C0 : hX p s m args c cX9_drop 8 RX9 wsX9_drop D (gt u.2.1) A u.1 u.2.2) (t0 : Nat) (post : Int32 → hS → Prop) (hret : ∀ (r : Int32) (S' : hS) (pc : Nat) (lv : List (Nat × Value)) (k n : Nat), k ≤ 0 → n ≤ 0 → post r S' → narrow .int (.int r) = .int r → decode cX9_drop pc = .ok (.ireturn, 1) → gG p l e (rm_X9_drop) s m args below meth c Q D A 8 k n (hC X S') pc lv [.int r])  : ∀ (z1 : Int32) (z2 : Int32) (z3 : Int32) (S : hS), w_X9_drop u post t0  z1 z2 z3 S → gG p l e (rm_X9_drop) s m args below meth c Q D A 8 0 0 (hC X S) 0 [(0, .ref t0), (1, .int z1), (2, .int z2), (3, .int z3)] [] := by
  obtain ⟨⟨hx, hb, hml, ho, hts, hK, hA⟩, hR⟩ := id C0
  intro z1 z2 z3 S hw H locs ls hW hl
  rw [w_X9_drop] at hw
  refine lv_aload_n hx hb dX9_drop_0 rfl (lv_at hl 0 rfl) ?_
  obtain ⟨o1, h2, hw⟩ := hw
  refine h_getR C0 hW (T := TX9) (kf := 2) in_X9_drop_RX9 h2 rfl (by decide) (List.mem_of_getElem? (i := 1) rfl) rfl dX9_drop_1 ?_
  refine lv_iload_n hx hb dX9_drop_4 rfl (lv_at hl 1 rfl) ?_
  obtain ⟨a3, rfl, hw⟩ := hw
  obtain ⟨h5, hw⟩ := hw
  refine h_goq C0 hW (va_runV (As := [.int z1]) (rest := []) ⟨hx, hb, hml, ho, hts⟩ (k_X4_layerAt (l := l) (u := u) (X := X) (sz := H.size) _ a3 z1 S  hw) (cwV 1 hts gX9_drop_X4_layerAt rfl rfl rfl (by decide +kernel) ⟨Nat.le_of_ble_eq_true rfl, Nat.le_of_ble_eq_true rfl⟩) ⟨h_blind, (h_recv C0 hW (ci := 5) rfl h5), (h_pre C0 hW [.ref a3, .int z1])⟩ rfl rfl hl.1 rfl (lv_room (Nat.le_of_ble_eq_true rfl)) dX9_drop_5 ⟨Nat.le_refl _, Nat.le_refl _⟩) (fun r4 S6 H locs h7 hW => ?_)
  obtain ⟨h8, hp⟩ := h7
  rw [h8] at hW
  replace hw := hp
  refine lv_astoreV (i := 4) (lv' := [(4, va_rf r4), (0, .ref t0), (1, .int z1), (2, .int z2), (3, .int z3)]) hx hb dX9_drop_8 hl (by decide) rfl (fun ls hl9 => ?_)
  replace hl := hl9
  refine lv_aload_n hx hb dX9_drop_10 rfl (lv_at hl 1 rfl) ?_
  refine lv_iload_n hx hb dX9_drop_11 rfl (lv_at hl 3 rfl) ?_
  obtain ⟨h10, hw⟩ := hw
  refine h_goq C0 hW (va_runV (As := [.int z2]) (rest := []) ⟨hx, hb, hml, ho, hts⟩ (k_X9_slotAt (l := l) (u := u) (X := X) (sz := H.size) _ t0 z2 S  hw) (cwV 1 hts gX9_drop_X9_slotAt rfl rfl rfl (by decide +kernel) ⟨Nat.le_of_ble_eq_true rfl, Nat.le_of_ble_eq_true rfl⟩) ⟨h_blind, (h_recv C0 hW (ci := 10) rfl h10), (h_pre C0 hW [.ref t0, .int z2])⟩ rfl rfl hl.1 rfl (lv_room (Nat.le_of_ble_eq_true rfl)) dX9_drop_12 ⟨Nat.le_refl _, Nat.le_refl _⟩) (fun r9 S11 H locs h12 hW => ?_)
  obtain ⟨h13, hp⟩ := h12
  rw [h13] at hW
  replace hw := hp
  refine lv_astoreV (i := 5) (lv' := [(5, va_rf r9), (4, va_rf r4), (0, .ref t0), (1, .int z1), (2, .int z2), (3, .int z3)]) hx hb dX9_drop_15 hl (by decide) (by show (5, va_rf r9) :: List.filter (fun q : Nat × Value => !(q.1 == 5) && !(q.1 + 1 == 5 && q.2.category == 2)) [(4, va_rf r4), (0, .ref t0), (1, .int z1), (2, .int z2), (3, .int z3)] = [(5, va_rf r9), (4, va_rf r4), (0, .ref t0), (1, .int z1), (2, .int z2), (3, .int z3)]; simp [va_rf_cat, va_c_ref, va_c_int, va_c_null]) (fun ls hl9 => ?_)
  replace hl := hl9
  refine lv_aload_n hx hb dX9_drop_17 rfl (lv_at hl 2 rfl) ?_
  refine lv_iload_n hx hb dX9_drop_18 rfl (lv_at hl 5 rfl) ?_
  obtain ⟨h15, hw⟩ := hw
  refine h_goq C0 hW (va_runV (As := [.int z3]) (rest := []) ⟨hx, hb, hml, ho, hts⟩ (k_X9_slotAt (l := l) (u := u) (X := X) (sz := H.size) _ t0 z3 S  hw) (cwV 1 hts gX9_drop_X9_slotAt rfl rfl rfl (by decide +kernel) ⟨Nat.le_of_ble_eq_true rfl, Nat.le_of_ble_eq_true rfl⟩) ⟨h_blind, (h_recv C0 hW (ci := 10) rfl h15), (h_pre C0 hW [.ref t0, .int z3])⟩ rfl rfl hl.1 rfl (lv_room (Nat.le_of_ble_eq_true rfl)) dX9_drop_19 ⟨Nat.le_refl _, Nat.le_refl _⟩) (fun r14 S16 H locs h17 hW => ?_)
  obtain ⟨h18, hp⟩ := h17
  rw [h18] at hW
  replace hw := hp
  refine lv_astoreV (i := 6) (lv' := [(6, va_rf r14), (5, va_rf r9), (4, va_rf r4), (0, .ref t0), (1, .int z1), (2, .int z2), (3, .int z3)]) hx hb dX9_drop_22 hl (by decide) (by show (6, va_rf r14) :: List.filter (fun q : Nat × Value => !(q.1 == 6) && !(q.1 + 1 == 6 && q.2.category == 2)) [(5, va_rf r9), (4, va_rf r4), (0, .ref t0), (1, .int z1), (2, .int z2), (3, .int z3)] = [(6, va_rf r14), (5, va_rf r9), (4, va_rf r4), (0, .ref t0), (1, .int z1), (2, .int z2), (3, .int z3)]; simp [va_rf_cat, va_c_ref, va_c_int, va_c_null]) (fun ls hl9 => ?_)
  replace hl := hl9
  refine lv_aloadV hx hb dX9_drop_24 (lv_at hl 2 rfl) ?_
  refine lv_ifnullV (tgt := 39) hx hb dX9_drop_26 (by decide) (fun c19 => ?_) (fun a20 c19 => ?_)
  · subst c19
    replace hw := hw.1 rfl
    refine lv_iconst (v := (-1)) hx hb dX9_drop_39 (by decide) ?_
    exact hret (-1) S _ _ 0 0 (Nat.le_refl _) (Nat.le_refl _) hw rfl dX9_drop_40 _ _ _ hW hl
  · subst c19
    replace hw := hw.2 a20 rfl
    refine lv_aloadV hx hb dX9_drop_29 (lv_at hl 1 rfl) ?_
    refine lv_ifnullV (tgt := 39) hx hb dX9_drop_31 (by decide) (fun c21 => ?_) (fun a22 c21 => ?_)
    · subst c21
      replace hw := hw.1 rfl
      refine lv_iconst (v := (-1)) hx hb dX9_drop_39 (by decide) ?_
      exact hret (-1) S _ _ 0 0 (Nat.le_refl _) (Nat.le_refl _) hw rfl dX9_drop_40 _ _ _ hW hl
    · subst c21
      replace hw := hw.2 a22 rfl
      refine lv_aloadV hx hb dX9_drop_34 (lv_at hl 0 rfl) ?_
      refine lv_ifnonnullV (tgt := 41) hx hb dX9_drop_36 (by decide) (fun a24 c23 => ?_) (fun c23 => ?_)
      · subst c23
        replace hw := hw.2 a24 rfl
        refine lv_aload hx hb dX9_drop_41 (lv_at hl 1 rfl) ?_
        obtain ⟨o25, h26, hw⟩ := hw
        refine h_getRN C0 hW (host := RX9) (T := TX6) (kf := 0) in_X9_drop_RX6 h26 rfl (by decide) (by decide +kernel) rfl dX9_drop_43 ?_
        refine lv_ifnonnullV (tgt := 54) hx hb dX9_drop_46 (by decide) (fun a28 c27 => ?_) (fun c27 => ?_)
        · subst c27
          replace hw := hw.2 a28 rfl
          refine lv_aload hx hb dX9_drop_54 (lv_at hl 2 rfl) ?_
          refine lv_aload hx hb dX9_drop_56 (lv_at hl 1 rfl) ?_
          obtain ⟨o33, h34, hw⟩ := hw
          refine h_getRN C0 hW (host := RX9) (T := TX6) (kf := 0) in_X9_drop_RX6 h34 rfl (by decide) (by decide +kernel) rfl dX9_drop_58 ?_
          obtain ⟨h36, hw⟩ := hw
          refine h_goq C0 hW (va_runV (As := [va_rf o33]) (rest := []) ⟨hx, hb, hml, ho, hts⟩ (k_X3_valueOf (l := l) (u := u) (X := X) (sz := H.size) _ a20 o33 S  hw) (cwV 1 hts gX9_drop_X3_valueOf rfl rfl rfl (by decide +kernel) ⟨Nat.le_of_ble_eq_true rfl, Nat.le_of_ble_eq_true rfl⟩) ⟨h_blind, (h_recv C0 hW (ci := 4) rfl h36), (h_pre C0 hW [.ref a20, va_rf o33])⟩ rfl rfl hl.1 rfl (lv_room (Nat.le_of_ble_eq_true rfl)) dX9_drop_61 ⟨Nat.le_refl _, Nat.le_refl _⟩) (fun r35 S37 H locs h38 hW => ?_)
          obtain ⟨h39, hp⟩ := h38
          rw [h39] at hW
          replace hw := hp
          refine lv_astoreV (i := 7) (lv' := [(7, va_rf r35), (6, .ref a24), (5, .ref a22), (4, .ref a20), (0, .ref t0), (1, .int z1), (2, .int z2), (3, .int z3)]) hx hb dX9_drop_64 hl (by decide) rfl (fun ls hl9 => ?_)
          replace hl := hl9
          refine lv_aloadV hx hb dX9_drop_66 (lv_at hl 0 rfl) ?_
          refine lv_ifnonnullV (tgt := 74) hx hb dX9_drop_68 (by decide) (fun a41 c40 => ?_) (fun c40 => ?_)
          · subst c40
            replace hw := hw.2 a41 rfl
            refine lv_aload hx hb dX9_drop_74 (lv_at hl 3 rfl) ?_
            refine lv_aload hx hb dX9_drop_76 (lv_at hl 2 rfl) ?_
            obtain ⟨o42, h43, hw⟩ := hw
            refine h_getRN C0 hW (host := RX9) (T := TX6) (kf := 0) in_X9_drop_RX6 h43 rfl (by decide) (by decide +kernel) rfl dX9_drop_78 ?_
            obtain ⟨h45, hw⟩ := hw
            refine h_gov C0 hW (va_runV (As := [va_rf o42]) (rest := []) ⟨hx, hb, hml, ho, hts⟩ (k_X3_remove (l := l) (u := u) (X := X) (sz := H.size) _ a20 o42 S  hw) (cwV 1 hts gX9_drop_X3_remove rfl rfl rfl (by decide +kernel) ⟨Nat.le_of_ble_eq_true rfl, Nat.le_of_ble_eq_true rfl⟩) ⟨h_blind, (h_recv C0 hW (ci := 4) rfl h45), (h_pre C0 hW [.ref a20, va_rf o42])⟩ rfl rfl hl.1 rfl (lv_room (Nat.le_of_ble_eq_true rfl)) dX9_drop_81 ⟨Nat.le_refl _, Nat.le_refl _⟩) (fun S46 H locs h47 hW => ?_)
            replace hw := h47
            refine lv_aload hx hb dX9_drop_84 (lv_at hl 1 rfl) ?_
            refine lv_aload hx hb dX9_drop_86 (lv_at hl 0 rfl) ?_
            obtain ⟨fs48, h49, h50, hw⟩ := hw
            refine h_putN C0 hW (host := RX9) (T := TX6) (kf := 0) (ty := .object "java/lang/String") in_X9_drop_RX6 h49 rfl (by decide) h50 tyX6 tyX6_ok nmX6 (by decide +kernel) rfl rfl (by decide +kernel) rfl rfl dX9_drop_88 (fun H locs hW => ?_)
            obtain ⟨S51, eS51⟩ : ∃ z : hS, z = upS S46 a24 (.inr (7, fs48.set 0 (.ref a41))) := ⟨_, rfl⟩
            rw [← eS51] at hW
            replace hw := hw S51 eS51
            refine lv_aload hx hb dX9_drop_91 (lv_at hl 3 rfl) ?_
            obtain ⟨h53, hw⟩ := hw
            refine h_goi C0 hW (va_runV (As := []) (rest := []) ⟨hx, hb, hml, ho, hts⟩ (k_X3_entryCount (l := l) (u := u) (X := X) (sz := H.size) _ a20  S51  hw) (cwV 0 hts gX9_drop_X3_entryCount rfl rfl rfl (by decide +kernel) ⟨Nat.le_of_ble_eq_true rfl, Nat.le_of_ble_eq_true rfl⟩) ⟨h_blind, (h_recv C0 hW (ci := 4) rfl h53), (h_pre C0 hW [.ref a20])⟩ rfl rfl hl.1 rfl (lv_room (Nat.le_of_ble_eq_true rfl)) dX9_drop_93 ⟨Nat.le_refl _, Nat.le_refl _⟩) (fun r52 S54 H locs h55 hW => ?_)
            obtain ⟨h56, hp⟩ := h55
            rw [h56] at hW
            replace hw := hp
            exact hret r52 S51 _ _ 0 0 (Nat.le_refl _) (Nat.le_refl _) hw rfl dX9_drop_96 _ _ _ hW hl
          · subst c40
            replace hw := hw.1 rfl
            refine lv_bipush (v := (-5)) hx hb dX9_drop_71 (by decide) ?_
            exact hret (-5) S _ _ 0 0 (Nat.le_refl _) (Nat.le_refl _) hw rfl dX9_drop_73 _ _ _ hW hl
        · subst c27
          replace hw := hw.1 rfl
          refine lv_aload_n hx hb dX9_drop_49 rfl (lv_at hl 3 rfl) ?_
          obtain ⟨h30, hw⟩ := hw
          refine h_goi C0 hW (va_runV (As := []) (rest := []) ⟨hx, hb, hml, ho, hts⟩ (k_X9_refuseNull (l := l) (u := u) (X := X) (sz := H.size) _ t0  S  hw) (cwV 0 hts gX9_drop_X9_refuseNull rfl rfl rfl (by decide +kernel) ⟨Nat.le_of_ble_eq_true rfl, Nat.le_of_ble_eq_true rfl⟩) ⟨h_blind, (h_recv C0 hW (ci := 10) rfl h30), (h_pre C0 hW [.ref t0])⟩ rfl rfl hl.1 rfl (lv_room (Nat.le_of_ble_eq_true rfl)) dX9_drop_50 ⟨Nat.le_refl _, Nat.le_refl _⟩) (fun r29 S31 H locs h32 hW => ?_)
          replace hw := h32
          exact hret r29 S31 _ _ 0 0 (Nat.le_refl _) (Nat.le_refl _) hw rfl dX9_drop_53 _ _ _ hW hl
      · subst c23
        replace hw := hw.1 rfl
        refine lv_iconst (v := (-1)) hx hb dX9_drop_39 (by decide) ?_
        exact hret (-1) S _ _ 0 0 (Nat.le_refl _) (Nat.le_refl _) hw rfl dX9_drop_40 _ _ _ hW hl
set_option maxHeartbeats 4000000 in
set_option maxRecDepth 100000 in
theorem k_X9_drop {l : Launch} {D : va_G} {u : hU} {X : va_W} {sz : Nat} (post : Int32 → hS → Prop) (t0 : Nat) (z1 : Int32) (z2 : Int32) (z3 : Int32) (S : hS) (hw : w_X9_drop u post t0 z1 z2 z3 S) : hMi l yX9_drop wsX9_drop rm_X9_drop D (gt u.2.1) u.1 u.2.2 sz X S [.ref t0, .int z1, .int z2, .int z3] post 0 0 := by
  refine hMi_of (cc := cX9_drop) (nL := 8) (ty := .int) (own := RX9) (by decide) rfl rfl (Nat.le_of_ble_eq_true rfl) ?_
  intro p e s m args below meth c A Q C0 hin hret
  exact t_X9_drop_0 C0 t0 post hret z1 z2 z3 S hw
abbrev rm_X9_empty : Room := { frames := 2, cells := 0, slots := 0, locals := 42 }
theorem in_X9_empty_RX9 : ∀ w ∈ wsX90, w ∈ wsX9_empty := fun w hw9 => List.mem_cons_of_mem _ (List.mem_append_left _ (List.mem_append_left _ (List.mem_append_right _ hw9)))
set_option maxHeartbeats 4000000 in
set_option maxRecDepth 100000 in
theorem t_X9_empty_0 (C0 : hX p s m args c cX9_empty 4 RX9 wsX9_empty D (gt u.2.1) A u.1 u.2.2) (t0 : Nat) (post : Int32 → hS → Prop) (hret : ∀ (r : Int32) (S' : hS) (pc : Nat) (lv : List (Nat × Value)) (k n : Nat), k ≤ 0 → n ≤ 0 → post r S' → narrow .int (.int r) = .int r → decode cX9_empty pc = .ok (.ireturn, 1) → gG p l e (rm_X9_empty) s m args below meth c Q D A 4 k n (hC X S') pc lv [.int r])  : ∀ (z1 : Int32) (S : hS), w_X9_empty u post t0  z1 S → gG p l e (rm_X9_empty) s m args below meth c Q D A 4 0 0 (hC X S) 0 [(0, .ref t0), (1, .int z1)] [] := by
  obtain ⟨⟨hx, hb, hml, ho, hts, hK, hA⟩, hR⟩ := id C0
  intro z1 S hw H locs ls hW hl
  rw [w_X9_empty] at hw
  refine lv_aload_n hx hb dX9_empty_0 rfl (lv_at hl 0 rfl) ?_
  obtain ⟨o1, h2, hw⟩ := hw
  refine h_getR C0 hW (T := TX9) (kf := 2) in_X9_empty_RX9 h2 rfl (by decide) (List.mem_of_getElem? (i := 1) rfl) rfl dX9_empty_1 ?_
  refine lv_iload_n hx hb dX9_empty_4 rfl (lv_at hl 1 rfl) ?_
  obtain ⟨a3, rfl, hw⟩ := hw
  obtain ⟨h5, hw⟩ := hw
  refine h_goq C0 hW (va_runV (As := [.int z1]) (rest := []) ⟨hx, hb, hml, ho, hts⟩ (k_X4_layerAt (l := l) (u := u) (X := X) (sz := H.size) _ a3 z1 S  hw) (cwV 1 hts gX9_empty_X4_layerAt rfl rfl rfl (by decide +kernel) ⟨Nat.le_of_ble_eq_true rfl, Nat.le_of_ble_eq_true rfl⟩) ⟨h_blind, (h_recv C0 hW (ci := 5) rfl h5), (h_pre C0 hW [.ref a3, .int z1])⟩ rfl rfl hl.1 rfl (lv_room (Nat.le_of_ble_eq_true rfl)) dX9_empty_5 ⟨Nat.le_refl _, Nat.le_refl _⟩) (fun r4 S6 H locs h7 hW => ?_)
  obtain ⟨h8, hp⟩ := h7
  rw [h8] at hW
  replace hw := hp
  refine lv_astoreV_n (i := 2) (lv' := [(2, va_rf r4), (0, .ref t0), (1, .int z1)]) hx hb dX9_empty_8 rfl hl (by decide) rfl (fun ls hl9 => ?_)
  replace hl := hl9
  refine lv_aloadV_n hx hb dX9_empty_9 rfl (lv_at hl 0 rfl) ?_
  refine lv_ifnonnullV (tgt := 15) hx hb dX9_empty_10 (by decide) (fun a10 c9 => ?_) (fun c9 => ?_)
  · subst c9
    replace hw := hw.2 a10 rfl
    refine lv_aload_n hx hb dX9_empty_15 rfl (lv_at hl 0 rfl) ?_
    obtain ⟨h12, hw⟩ := hw
    refine h_goi C0 hW (va_runV (As := []) (rest := []) ⟨hx, hb, hml, ho, hts⟩ (k_X3_entryCount (l := l) (u := u) (X := X) (sz := H.size) _ a10  S  hw) (cwV 0 hts gX9_empty_X3_entryCount rfl rfl rfl (by decide +kernel) ⟨Nat.le_of_ble_eq_true rfl, Nat.le_of_ble_eq_true rfl⟩) ⟨h_blind, (h_recv C0 hW (ci := 4) rfl h12), (h_pre C0 hW [.ref a10])⟩ rfl rfl hl.1 rfl (lv_room (Nat.le_of_ble_eq_true rfl)) dX9_empty_16 ⟨Nat.le_refl _, Nat.le_refl _⟩) (fun r11 S13 H locs h14 hW => ?_)
    obtain ⟨h15, hp⟩ := h14
    rw [h15] at hW
    replace hw := hp
    refine lv_istore_n (lv' := [(3, .int r11), (2, .ref a10), (0, .ref t0), (1, .int z1)]) hx hb dX9_empty_19 rfl hl (by decide) rfl (fun ls hl9 => ?_)
    replace hl := hl9
    refine lv_aload_n hx hb dX9_empty_20 rfl (lv_at hl 1 rfl) ?_
    obtain ⟨h17, hw⟩ := hw
    refine h_gov C0 hW (va_runV (As := []) (rest := []) ⟨hx, hb, hml, ho, hts⟩ (k_X3_removeAll (l := l) (u := u) (X := X) (sz := H.size) _ a10  S  hw) (cwV 0 hts gX9_empty_X3_removeAll rfl rfl rfl (by decide +kernel) ⟨Nat.le_of_ble_eq_true rfl, Nat.le_of_ble_eq_true rfl⟩) ⟨h_blind, (h_recv C0 hW (ci := 4) rfl h17), (h_pre C0 hW [.ref a10])⟩ rfl rfl hl.1 rfl (lv_room (Nat.le_of_ble_eq_true rfl)) dX9_empty_21 ⟨Nat.le_refl _, Nat.le_refl _⟩) (fun S18 H locs h19 hW => ?_)
    replace hw := h19
    refine lv_iload_n hx hb dX9_empty_24 rfl (lv_at hl 0 rfl) ?_
    exact hret r11 S18 _ _ 0 0 (Nat.le_refl _) (Nat.le_refl _) hw rfl dX9_empty_25 _ _ _ hW hl
  · subst c9
    replace hw := hw.1 rfl
    refine lv_iconst (v := (-1)) hx hb dX9_empty_13 (by decide) ?_
    exact hret (-1) S _ _ 0 0 (Nat.le_refl _) (Nat.le_refl _) hw rfl dX9_empty_14 _ _ _ hW hl
set_option maxHeartbeats 4000000 in
set_option maxRecDepth 100000 in
theorem k_X9_empty {l : Launch} {D : va_G} {u : hU} {X : va_W} {sz : Nat} (post : Int32 → hS → Prop) (t0 : Nat) (z1 : Int32) (S : hS) (hw : w_X9_empty u post t0 z1 S) : hMi l yX9_empty wsX9_empty rm_X9_empty D (gt u.2.1) u.1 u.2.2 sz X S [.ref t0, .int z1] post 0 0 := by
  refine hMi_of (cc := cX9_empty) (nL := 4) (ty := .int) (own := RX9) (by decide) rfl rfl (Nat.le_of_ble_eq_true rfl) ?_
  intro p e s m args below meth c A Q C0 hin hret
  exact t_X9_empty_0 C0 t0 post hret z1 S hw
abbrev rm_X9_size : Room := { frames := 2, cells := 0, slots := 0, locals := 42 }
theorem in_X9_size_RX9 : ∀ w ∈ wsX90, w ∈ wsX9_size := fun w hw9 => List.mem_cons_of_mem _ (List.mem_append_left _ (List.mem_append_left _ (List.mem_append_right _ hw9)))
set_option maxHeartbeats 4000000 in
set_option maxRecDepth 100000 in
theorem t_X9_size_0 (C0 : hX p s m args c cX9_size 3 RX9 wsX9_size D (gt u.2.1) A u.1 u.2.2) {S : hS} (t0 : Nat) (post : Int32 → Prop) (hret : ∀ (r : Int32) (S' : hS) (pc : Nat) (lv : List (Nat × Value)) (k n : Nat), k ≤ 0 → n ≤ 0 → (S' = S ∧ post r) → narrow .int (.int r) = .int r → decode cX9_size pc = .ok (.ireturn, 1) → gG p l e (rm_X9_size) s m args below meth c Q D A 3 k n (hC X S') pc lv [.int r])  : ∀ (z1 : Int32), w_X9_size u post t0  z1 S → gG p l e (rm_X9_size) s m args below meth c Q D A 3 0 0 (hC X S) 0 [(0, .ref t0), (1, .int z1)] [] := by
  obtain ⟨⟨hx, hb, hml, ho, hts, hK, hA⟩, hR⟩ := id C0
  intro z1 hw H locs ls hW hl
  rw [w_X9_size] at hw
  refine lv_aload_n hx hb dX9_size_0 rfl (lv_at hl 0 rfl) ?_
  obtain ⟨o1, h2, hw⟩ := hw
  refine h_getR C0 hW (T := TX9) (kf := 2) in_X9_size_RX9 h2 rfl (by decide) (List.mem_of_getElem? (i := 1) rfl) rfl dX9_size_1 ?_
  refine lv_iload_n hx hb dX9_size_4 rfl (lv_at hl 1 rfl) ?_
  obtain ⟨a3, rfl, hw⟩ := hw
  obtain ⟨h5, hw⟩ := hw
  refine h_goq C0 hW (va_runV (As := [.int z1]) (rest := []) ⟨hx, hb, hml, ho, hts⟩ (k_X4_layerAt (l := l) (u := u) (X := X) (sz := H.size) _ a3 z1 S  hw) (cwV 1 hts gX9_size_X4_layerAt rfl rfl rfl (by decide +kernel) ⟨Nat.le_of_ble_eq_true rfl, Nat.le_of_ble_eq_true rfl⟩) ⟨h_blind, (h_recv C0 hW (ci := 5) rfl h5), (h_pre C0 hW [.ref a3, .int z1])⟩ rfl rfl hl.1 rfl (lv_room (Nat.le_of_ble_eq_true rfl)) dX9_size_5 ⟨Nat.le_refl _, Nat.le_refl _⟩) (fun r4 S6 H locs h7 hW => ?_)
  obtain ⟨h8, hp⟩ := h7
  rw [h8] at hW
  replace hw := hp
  refine lv_astoreV_n (i := 2) (lv' := [(2, va_rf r4), (0, .ref t0), (1, .int z1)]) hx hb dX9_size_8 rfl hl (by decide) rfl (fun ls hl9 => ?_)
  replace hl := hl9
  refine lv_aloadV_n hx hb dX9_size_9 rfl (lv_at hl 0 rfl) ?_
  refine lv_ifnonnullV (tgt := 15) hx hb dX9_size_10 (by decide) (fun a10 c9 => ?_) (fun c9 => ?_)
  · subst c9
    replace hw := hw.2 a10 rfl
    refine lv_aload_n hx hb dX9_size_15 rfl (lv_at hl 0 rfl) ?_
    obtain ⟨h12, hw⟩ := hw
    refine h_goi C0 hW (va_runV (As := []) (rest := []) ⟨hx, hb, hml, ho, hts⟩ (k_X3_entryCount (l := l) (u := u) (X := X) (sz := H.size) _ a10  S  hw) (cwV 0 hts gX9_size_X3_entryCount rfl rfl rfl (by decide +kernel) ⟨Nat.le_of_ble_eq_true rfl, Nat.le_of_ble_eq_true rfl⟩) ⟨h_blind, (h_recv C0 hW (ci := 4) rfl h12), (h_pre C0 hW [.ref a10])⟩ rfl rfl hl.1 rfl (lv_room (Nat.le_of_ble_eq_true rfl)) dX9_size_16 ⟨Nat.le_refl _, Nat.le_refl _⟩) (fun r11 S13 H locs h14 hW => ?_)
    obtain ⟨h15, hp⟩ := h14
    rw [h15] at hW
    replace hw := hp
    exact hret r11 S _ _ 0 0 (Nat.le_refl _) (Nat.le_refl _) ⟨rfl, hw⟩ rfl dX9_size_19 _ _ _ hW hl
  · subst c9
    replace hw := hw.1 rfl
    refine lv_iconst (v := (-1)) hx hb dX9_size_13 (by decide) ?_
    exact hret (-1) S _ _ 0 0 (Nat.le_refl _) (Nat.le_refl _) ⟨rfl, hw⟩ rfl dX9_size_14 _ _ _ hW hl
set_option maxHeartbeats 4000000 in
set_option maxRecDepth 100000 in
theorem k_X9_size {l : Launch} {D : va_G} {u : hU} {X : va_W} {sz : Nat} (post : Int32 → Prop) (t0 : Nat) (z1 : Int32) (S : hS) (hw : w_X9_size u post t0 z1 S) : hMi l yX9_size wsX9_size rm_X9_size D (gt u.2.1) u.1 u.2.2 sz X S [.ref t0, .int z1] (fun r S' => S' = S ∧ post r) 0 0 := by
  refine hMi_of (cc := cX9_size) (nL := 3) (ty := .int) (own := RX9) (by decide) rfl rfl (Nat.le_of_ble_eq_true rfl) ?_
  intro p e s m args below meth c A Q C0 hin hret
  exact t_X9_size_0 C0 t0 post hret z1 hw
abbrev rm_X9_names (MC MS : Nat) : Room := { frames := 6, cells := MC, slots := MS, locals := 132 }
theorem in_X9_names_RX5 : ∀ w ∈ wsX50, w ∈ wsX9_names := fun w hw9 => List.mem_cons_of_mem _ (List.mem_append_left _ (List.mem_append_left _ (List.mem_append_left _ (List.mem_append_left _ (List.mem_append_right _ hw9)))))
theorem in_X9_names_RX9 : ∀ w ∈ wsX90, w ∈ wsX9_names := fun w hw9 => List.mem_cons_of_mem _ (List.mem_append_left _ (List.mem_append_left _ (List.mem_append_left _ (List.mem_append_left _ (List.mem_append_left _ (List.mem_append_right _ hw9))))))
set_option maxHeartbeats 4000000 in
set_option maxRecDepth 100000 in
theorem t_X9_names_28 (C0 : hX p s m args c cX9_names 4 RX9 wsX9_names D (gt u.2.1) A u.1 u.2.2) (t0 : Nat) (post : Int32 → hS → Prop) (hret : ∀ (r : Int32) (S' : hS) (pc : Nat) (lv : List (Nat × Value)) (k n : Nat), k ≤ MC → n ≤ MS → post r S' → narrow .int (.int r) = .int r → decode cX9_names pc = .ok (.ireturn, 1) → gG p l e (rm_X9_names MC MS) s m args below meth c Q D A 4 k n (hC X S') pc lv [.int r])  : ∀ (nf : Nat) (x2 : Nat) (x3 : Int32) (S : hS) (mc ms k n : Nat), k + mc ≤ MC ∧ n + ms ≤ MS → w_X9_names_28 u post t0  nf x2 x3 S mc ms → gG p l e (rm_X9_names MC MS) s m args below meth c Q D A 4 k n (hC X S) 28 [(0, .ref t0), (2, .ref x2), (3, .int x3)] [] := by
  obtain ⟨⟨hx, hb, hml, ho, hts, hK, hA⟩, hR⟩ := id C0
  intro nf
  induction nf with
  | zero => intro x2 x3 S mc ms k n hkn hw; exact hw.elim
  | succ nf ih =>
    intro x2 x3 S mc ms k n hkn hw H locs ls hW hl
    rw [w_X9_names_28] at hw
    refine lv_iload_n hx hb dX9_names_28 rfl (lv_at hl 2 rfl) ?_
    refine lv_sipush (v := 160) hx hb dX9_names_29 (by decide) ?_
    refine lv_icmp_ge (tgt := 48) hx hb dX9_names_32 (by decide) (fun c26 => ?_) (fun c26 => ?_)
    · replace hw := hw.1 c26
      refine lv_iload_n hx hb dX9_names_48 rfl (lv_at hl 2 rfl) ?_
      exact hret x3 S _ _ _ _ (by omega) (by omega) hw rfl dX9_names_49 _ _ _ hW hl
    · replace hw := hw.2 c26
      refine lv_aload_n hx hb dX9_names_35 rfl (lv_at hl 1 rfl) ?_
      obtain ⟨h28, hw⟩ := hw
      refine h_goq C0 hW (va_runV (As := []) (rest := []) ⟨hx, hb, hml, ho, hts⟩ (k_X5_nextName (l := l) (u := u) (X := X) (sz := H.size) _ x2  S  hw) (cwV 0 hts gX9_names_X5_nextName rfl rfl rfl (by decide +kernel) ⟨Nat.le_of_ble_eq_true rfl, Nat.le_of_ble_eq_true rfl⟩) ⟨h_blind, (h_recv C0 hW (ci := 6) rfl h28), (h_pre C0 hW [.ref x2])⟩ rfl rfl hl.1 rfl (lv_room (Nat.le_of_ble_eq_true rfl)) dX9_names_36 ⟨by show _ ≤ MC; omega, by show _ ≤ MS; omega⟩) (fun r27 S29 H locs h30 hW => ?_)
      replace hw := h30
      refine lv_ifnullV (tgt := 48) hx hb dX9_names_39 (by decide) (fun c31 => ?_) (fun a32 c31 => ?_)
      · subst c31
        replace hw := hw.1 rfl
        refine lv_iload_n hx hb dX9_names_48 rfl (lv_at hl 2 rfl) ?_
        exact hret x3 S29 _ _ _ _ (by omega) (by omega) hw rfl dX9_names_49 _ _ _ hW hl
      · subst c31
        replace hw := hw.2 a32 rfl
        obtain ⟨v33, ev33⟩ : ∃ y : Int32, y = x3 + 1 := ⟨_, rfl⟩
        replace hw := hw v33 ev33
        refine lv_iinc (v := v33) (lv' := [(3, .int v33), (0, .ref t0), (2, .ref x2)]) hx hb dX9_names_42 hl (k := 2) rfl (by rw [ev33]; rfl) (by decide) rfl (fun ls hl9 => ?_)
        replace hl := hl9
        refine lv_goto (tgt := 28) hx hb dX9_names_45 (by decide) ?_
        exact ih x2 v33 S29 mc ms _ _ hkn hw _ _ _ hW (lv_sub hl [1, 2, 0] rfl)
set_option maxHeartbeats 4000000 in
set_option maxRecDepth 100000 in
theorem t_X9_names_0 (C0 : hX p s m args c cX9_names 4 RX9 wsX9_names D (gt u.2.1) A u.1 u.2.2) (t0 : Nat) (post : Int32 → hS → Prop) (hret : ∀ (r : Int32) (S' : hS) (pc : Nat) (lv : List (Nat × Value)) (k n : Nat), k ≤ MC → n ≤ MS → post r S' → narrow .int (.int r) = .int r → decode cX9_names pc = .ok (.ireturn, 1) → gG p l e (rm_X9_names MC MS) s m args below meth c Q D A 4 k n (hC X S') pc lv [.int r])  : ∀ (z1 : Int32) (S : hS) (mc ms k n : Nat), k + mc ≤ MC ∧ n + ms ≤ MS → w_X9_names u post t0  z1 S mc ms → gG p l e (rm_X9_names MC MS) s m args below meth c Q D A 4 k n (hC X S) 0 [(0, .ref t0), (1, .int z1)] [] := by
  obtain ⟨⟨hx, hb, hml, ho, hts, hK, hA⟩, hR⟩ := id C0
  intro z1 S mc ms k n hkn hw H locs ls hW hl
  rw [w_X9_names] at hw
  refine lv_aload_n hx hb dX9_names_0 rfl (lv_at hl 0 rfl) ?_
  obtain ⟨o1, h2, hw⟩ := hw
  refine h_getR C0 hW (T := TX9) (kf := 2) in_X9_names_RX9 h2 rfl (by decide) (List.mem_of_getElem? (i := 1) rfl) rfl dX9_names_1 ?_
  refine lv_iload_n hx hb dX9_names_4 rfl (lv_at hl 1 rfl) ?_
  obtain ⟨a3, rfl, hw⟩ := hw
  obtain ⟨h5, hw⟩ := hw
  refine h_goq C0 hW (va_runV (As := [.int z1]) (rest := []) ⟨hx, hb, hml, ho, hts⟩ (k_X4_layerAt (l := l) (u := u) (X := X) (sz := H.size) _ a3 z1 S  hw) (cwV 1 hts gX9_names_X4_layerAt rfl rfl rfl (by decide +kernel) ⟨Nat.le_of_ble_eq_true rfl, Nat.le_of_ble_eq_true rfl⟩) ⟨h_blind, (h_recv C0 hW (ci := 5) rfl h5), (h_pre C0 hW [.ref a3, .int z1])⟩ rfl rfl hl.1 rfl (lv_room (Nat.le_of_ble_eq_true rfl)) dX9_names_5 ⟨by show _ ≤ MC; omega, by show _ ≤ MS; omega⟩) (fun r4 S6 H locs h7 hW => ?_)
  obtain ⟨h8, hp⟩ := h7
  rw [h8] at hW
  replace hw := hp
  refine lv_ifnonnullV (tgt := 13) hx hb dX9_names_8 (by decide) (fun a10 c9 => ?_) (fun c9 => ?_)
  · subst c9
    replace hw := hw.2 a10 rfl
    obtain ⟨h14, h15, hw⟩ := hw
    refine h_new C0 hW (ci := 6) (fs := [.null, .int 0, .null]) in_X9_names_RX5 rfl tyX5 tyX5_ok (List.mem_of_getElem? (i := 2) rfl) (List.mem_of_getElem? (i := 3) rfl) (List.mem_of_getElem? (i := 4) rfl) (fun j hj => by rcases (show j = 0 ∨ j = 1 ∨ j = 2 by omega) with rfl | rfl | rfl <;> rfl) (by show _ ≤ MC; omega) (by show _ ≤ MS; omega) dX9_names_13 (fun q11 H h12 hW => ?_)
    obtain ⟨S13, eS13⟩ : ∃ z : hS, z = adS S q11 (.inr (6, [.null, .int 0, .null])) := ⟨_, rfl⟩
    rw [← eS13] at hW
    replace hw := hw q11 S13 h12 eS13
    have hkn : (k + 1) + (mc - 1) ≤ MC ∧ (n + 3) + (ms - 3) ≤ MS := by omega
    refine lv_dup hx hb dX9_names_16 rfl ?_
    refine lv_aload_n hx hb dX9_names_17 rfl (lv_at hl 0 rfl) ?_
    obtain ⟨o16, h17, hw⟩ := hw
    refine h_getR C0 hW (T := TX9) (kf := 2) in_X9_names_RX9 h17 rfl (by decide) (List.mem_of_getElem? (i := 1) rfl) rfl dX9_names_18 ?_
    refine lv_iload_n hx hb dX9_names_21 rfl (lv_at hl 1 rfl) ?_
    obtain ⟨k19, n20, h21, h22, hw⟩ := hw
    refine h_gov C0 hW (va_runI (As := [va_rf o16, .int z1]) (rest := [.ref q11]) ⟨hx, hb, hml, ho, hts⟩ (k_X5_init (l := l) (u := u) (X := X) (sz := H.size) _ q11 o16 z1 S13 k19 n20 hw) (cwI 2 hts gX9_names_X5_init rfl rfl rfl (hts _ (List.mem_of_getElem? (i := 4) rfl)) (hts _ (List.mem_of_getElem? (i := 14) rfl)) (hts _ (List.mem_of_getElem? (i := 15) rfl)) rfl (by decide +kernel) ⟨Nat.le_of_ble_eq_true rfl, Nat.le_of_ble_eq_true rfl⟩) ⟨h_blind, (h_pre C0 hW [.ref q11, va_rf o16, .int z1])⟩ rfl rfl hl.1 rfl (lv_room (Nat.le_of_ble_eq_true rfl)) dX9_names_22 ⟨by show _ ≤ MC; omega, by show _ ≤ MS; omega⟩) (fun S23 H locs h24 hW => ?_)
    replace hw := h24
    have hkn : ((k + 1) + k19) + ((mc - 1) - k19) ≤ MC ∧ ((n + 3) + n20) + ((ms - 3) - n20) ≤ MS := by omega
    refine lv_astore_n (i := 2) (lv' := [(2, .ref q11), (0, .ref t0), (1, .int z1)]) hx hb dX9_names_25 rfl hl (by decide) rfl (fun ls hl9 => ?_)
    replace hl := hl9
    refine lv_iconst (v := 0) hx hb dX9_names_26 (by decide) ?_
    refine lv_istore_n (lv' := [(3, .int 0), (2, .ref q11), (0, .ref t0), (1, .int z1)]) hx hb dX9_names_27 rfl hl (by decide) rfl (fun ls hl9 => ?_)
    replace hl := hl9
    obtain ⟨n25, hw⟩ := hw
    exact t_X9_names_28 C0 t0 post hret  n25 q11 0 S23 ((mc - 1) - k19) ((ms - 3) - n20) _ _ hkn hw _ _ _ hW (lv_sub hl [2, 1, 0] rfl)
  · subst c9
    replace hw := hw.1 rfl
    refine lv_iconst (v := (-1)) hx hb dX9_names_11 (by decide) ?_
    exact hret (-1) S _ _ _ _ (by omega) (by omega) hw rfl dX9_names_12 _ _ _ hW hl
set_option maxHeartbeats 4000000 in
set_option maxRecDepth 100000 in
theorem k_X9_names {l : Launch} {D : va_G} {u : hU} {X : va_W} {sz : Nat} (post : Int32 → hS → Prop) (t0 : Nat) (z1 : Int32) (S : hS) (mc ms : Nat) (hw : w_X9_names u post t0 z1 S mc ms) : hMi l yX9_names wsX9_names (rm_X9_names mc ms) D (gt u.2.1) u.1 u.2.2 sz X S [.ref t0, .int z1] post mc ms := by
  refine hMi_of (cc := cX9_names) (nL := 4) (ty := .int) (own := RX9) (by decide) rfl rfl (Nat.le_of_ble_eq_true rfl) ?_
  intro p e s m args below meth c A Q C0 hin hret
  exact t_X9_names_0 C0 t0 post hret z1 S mc ms 0 0 ⟨by omega, by omega⟩ hw
abbrev rm_X9_name (MC MS : Nat) : Room := { frames := 6, cells := MC, slots := MS, locals := 132 }
theorem in_X9_name_RX5 : ∀ w ∈ wsX50, w ∈ wsX9_name := fun w hw9 => List.mem_cons_of_mem _ (List.mem_append_left _ (List.mem_append_left _ (List.mem_append_left _ (List.mem_append_left _ (List.mem_append_left _ (List.mem_append_right _ hw9))))))
theorem in_X9_name_RX9 : ∀ w ∈ wsX90, w ∈ wsX9_name := fun w hw9 => List.mem_cons_of_mem _ (List.mem_append_left _ (List.mem_append_left _ (List.mem_append_left _ (List.mem_append_left _ (List.mem_append_left _ (List.mem_append_left _ (List.mem_append_right _ hw9)))))))
set_option maxHeartbeats 4000000 in
set_option maxRecDepth 100000 in
theorem t_X9_name_87 (C0 : hX p s m args c cX9_name 8 RX9 wsX9_name D (gt u.2.1) A u.1 u.2.2) (t0 : Nat) (post : Int32 → hS → Prop) (hret : ∀ (r : Int32) (S' : hS) (pc : Nat) (lv : List (Nat × Value)) (k n : Nat), k ≤ MC → n ≤ MS → post r S' → narrow .int (.int r) = .int r → decode cX9_name pc = .ok (.ireturn, 1) → gG p l e (rm_X9_name MC MS) s m args below meth c Q D A 8 k n (hC X S') pc lv [.int r])  : ∀ (x4 : Nat) (x6 : Option Nat) (S : hS) (mc ms k n : Nat), k + mc ≤ MC ∧ n + ms ≤ MS → w_X9_name_87 u post t0  x4 x6 S mc ms → gG p l e (rm_X9_name MC MS) s m args below meth c Q D A 8 k n (hC X S) 87 [(0, .ref t0), (4, .ref x4), (6, va_rf x6)] [] := by
  obtain ⟨⟨hx, hb, hml, ho, hts, hK, hA⟩, hR⟩ := id C0
  intro x4 x6 S mc ms k n hkn hw H locs ls hW hl
  rw [w_X9_name_87] at hw
  refine lv_aloadV hx hb dX9_name_87 (lv_at hl 2 rfl) ?_
  refine lv_ifnonnullV (tgt := 95) hx hb dX9_name_89 (by decide) (fun a48 c47 => ?_) (fun c47 => ?_)
  · subst c47
    replace hw := hw.2 a48 rfl
    refine lv_aload hx hb dX9_name_95 (lv_at hl 1 rfl) ?_
    refine lv_aload hx hb dX9_name_97 (lv_at hl 2 rfl) ?_
    refine h_goi C0 hW (va_runS (As := [.ref x4, .ref a48]) (rest := []) ⟨hx, hb, hml, ho, hts⟩ (k_X9_putInto (l := l) (u := u) (X := X) (sz := H.size) _ (some x4) (some a48) S  hw) (va_cwS 2 hts gX9_name_X9_putInto rfl rfl rfl (by decide +kernel) ⟨Nat.le_of_ble_eq_true rfl, Nat.le_of_ble_eq_true rfl⟩) ⟨h_blind, (h_pre C0 hW [.ref x4, .ref a48])⟩ rfl rfl hl.1 rfl (lv_room (Nat.le_of_ble_eq_true rfl)) dX9_name_99 ⟨by show _ ≤ MC; omega, by show _ ≤ MS; omega⟩) (fun r49 S50 H locs h51 hW => ?_)
    replace hw := h51
    exact hret r49 S50 _ _ _ _ (by omega) (by omega) hw rfl dX9_name_102 _ _ _ hW hl
  · subst c47
    replace hw := hw.1 rfl
    refine lv_bipush (v := (-5)) hx hb dX9_name_92 (by decide) ?_
    exact hret (-5) S _ _ _ _ (by omega) (by omega) hw rfl dX9_name_94 _ _ _ hW hl
set_option maxHeartbeats 4000000 in
set_option maxRecDepth 100000 in
theorem t_X9_name_63 (C0 : hX p s m args c cX9_name 8 RX9 wsX9_name D (gt u.2.1) A u.1 u.2.2) (t0 : Nat) (post : Int32 → hS → Prop) (hret : ∀ (r : Int32) (S' : hS) (pc : Nat) (lv : List (Nat × Value)) (k n : Nat), k ≤ MC → n ≤ MS → post r S' → narrow .int (.int r) = .int r → decode cX9_name pc = .ok (.ireturn, 1) → gG p l e (rm_X9_name MC MS) s m args below meth c Q D A 8 k n (hC X S') pc lv [.int r])  : ∀ (nf : Nat) (x2 : Int32) (x4 : Nat) (x5 : Nat) (x6 : Option Nat) (x7 : Int32) (S : hS) (mc ms k n : Nat), k + mc ≤ MC ∧ n + ms ≤ MS → w_X9_name_63 u post t0  nf x2 x4 x5 x6 x7 S mc ms → gG p l e (rm_X9_name MC MS) s m args below meth c Q D A 8 k n (hC X S) 63 [(0, .ref t0), (2, .int x2), (4, .ref x4), (5, .ref x5), (6, va_rf x6), (7, .int x7)] [] := by
  obtain ⟨⟨hx, hb, hml, ho, hts, hK, hA⟩, hR⟩ := id C0
  intro nf
  induction nf with
  | zero => intro x2 x4 x5 x6 x7 S mc ms k n hkn hw; exact hw.elim
  | succ nf ih =>
    intro x2 x4 x5 x6 x7 S mc ms k n hkn hw H locs ls hW hl
    rw [w_X9_name_63] at hw
    refine lv_iload hx hb dX9_name_63 (lv_at hl 5 rfl) ?_
    refine lv_iload_n hx hb dX9_name_65 rfl (lv_at hl 1 rfl) ?_
    refine lv_icmp_ge (tgt := 87) hx hb dX9_name_66 (by decide) (fun c39 => ?_) (fun c39 => ?_)
    · replace hw := hw.1 c39
      exact t_X9_name_87 C0 t0 post hret  x4 x6 S mc ms _ _ hkn hw _ _ _ hW (lv_sub hl [0, 2, 4] rfl)
    · replace hw := hw.2 c39
      refine lv_aloadV hx hb dX9_name_69 (lv_at hl 4 rfl) ?_
      refine lv_ifnullV (tgt := 87) hx hb dX9_name_71 (by decide) (fun c40 => ?_) (fun a41 c40 => ?_)
      · subst c40
        replace hw := hw.1 rfl
        exact t_X9_name_87 C0 t0 post hret  x4 none S mc ms _ _ hkn hw _ _ _ hW (lv_sub hl [0, 2, 4] rfl)
      · subst c40
        replace hw := hw.2 a41 rfl
        refine lv_aload hx hb dX9_name_74 (lv_at hl 3 rfl) ?_
        obtain ⟨h43, hw⟩ := hw
        refine h_goq C0 hW (va_runV (As := []) (rest := []) ⟨hx, hb, hml, ho, hts⟩ (k_X5_nextName (l := l) (u := u) (X := X) (sz := H.size) _ x5  S  hw) (cwV 0 hts gX9_name_X5_nextName rfl rfl rfl (by decide +kernel) ⟨Nat.le_of_ble_eq_true rfl, Nat.le_of_ble_eq_true rfl⟩) ⟨h_blind, (h_recv C0 hW (ci := 6) rfl h43), (h_pre C0 hW [.ref x5])⟩ rfl rfl hl.1 rfl (lv_room (Nat.le_of_ble_eq_true rfl)) dX9_name_76 ⟨by show _ ≤ MC; omega, by show _ ≤ MS; omega⟩) (fun r42 S44 H locs h45 hW => ?_)
        replace hw := h45
        refine lv_astoreV (i := 6) (lv' := [(6, va_rf r42), (0, .ref t0), (2, .int x2), (4, .ref x4), (5, .ref x5), (7, .int x7)]) hx hb dX9_name_79 hl (by decide) rfl (fun ls hl9 => ?_)
        replace hl := hl9
        obtain ⟨v46, ev46⟩ : ∃ y : Int32, y = x7 + 1 := ⟨_, rfl⟩
        replace hw := hw v46 ev46
        refine lv_iinc (v := v46) (lv' := [(7, .int v46), (6, va_rf r42), (0, .ref t0), (2, .int x2), (4, .ref x4), (5, .ref x5)]) hx hb dX9_name_81 hl (k := 5) rfl (by rw [ev46]; rfl) (by decide) (by show (7, .int v46) :: List.filter (fun q : Nat × Value => !(q.1 == 7) && !(q.1 + 1 == 7 && q.2.category == 2)) [(6, va_rf r42), (0, .ref t0), (2, .int x2), (4, .ref x4), (5, .ref x5), (7, .int x7)] = [(7, .int v46), (6, va_rf r42), (0, .ref t0), (2, .int x2), (4, .ref x4), (5, .ref x5)]; simp [va_rf_cat, va_c_ref, va_c_int, va_c_null]) (fun ls hl9 => ?_)
        replace hl := hl9
        refine lv_goto (tgt := 63) hx hb dX9_name_84 (by decide) ?_
        exact ih x2 x4 x5 r42 v46 S44 mc ms _ _ hkn hw _ _ _ hW (lv_sub hl [2, 3, 4, 5, 1, 0] rfl)
set_option maxHeartbeats 4000000 in
set_option maxRecDepth 100000 in
theorem t_X9_name_0 (C0 : hX p s m args c cX9_name 8 RX9 wsX9_name D (gt u.2.1) A u.1 u.2.2) (t0 : Nat) (post : Int32 → hS → Prop) (hret : ∀ (r : Int32) (S' : hS) (pc : Nat) (lv : List (Nat × Value)) (k n : Nat), k ≤ MC → n ≤ MS → post r S' → narrow .int (.int r) = .int r → decode cX9_name pc = .ok (.ireturn, 1) → gG p l e (rm_X9_name MC MS) s m args below meth c Q D A 8 k n (hC X S') pc lv [.int r])  : ∀ (z1 : Int32) (z2 : Int32) (z3 : Int32) (S : hS) (mc ms k n : Nat), k + mc ≤ MC ∧ n + ms ≤ MS → w_X9_name u post t0  z1 z2 z3 S mc ms → gG p l e (rm_X9_name MC MS) s m args below meth c Q D A 8 k n (hC X S) 0 [(0, .ref t0), (1, .int z1), (2, .int z2), (3, .int z3)] [] := by
  obtain ⟨⟨hx, hb, hml, ho, hts, hK, hA⟩, hR⟩ := id C0
  intro z1 z2 z3 S mc ms k n hkn hw H locs ls hW hl
  rw [w_X9_name] at hw
  refine lv_aload_n hx hb dX9_name_0 rfl (lv_at hl 0 rfl) ?_
  refine lv_iload_n hx hb dX9_name_1 rfl (lv_at hl 3 rfl) ?_
  obtain ⟨h2, hw⟩ := hw
  refine h_goq C0 hW (va_runV (As := [.int z3]) (rest := []) ⟨hx, hb, hml, ho, hts⟩ (k_X9_slotAt (l := l) (u := u) (X := X) (sz := H.size) _ t0 z3 S  hw) (cwV 1 hts gX9_name_X9_slotAt rfl rfl rfl (by decide +kernel) ⟨Nat.le_of_ble_eq_true rfl, Nat.le_of_ble_eq_true rfl⟩) ⟨h_blind, (h_recv C0 hW (ci := 10) rfl h2), (h_pre C0 hW [.ref t0, .int z3])⟩ rfl rfl hl.1 rfl (lv_room (Nat.le_of_ble_eq_true rfl)) dX9_name_2 ⟨by show _ ≤ MC; omega, by show _ ≤ MS; omega⟩) (fun r1 S3 H locs h4 hW => ?_)
  obtain ⟨h5, hp⟩ := h4
  rw [h5] at hW
  replace hw := hp
  refine lv_astoreV (i := 4) (lv' := [(4, va_rf r1), (0, .ref t0), (1, .int z1), (2, .int z2), (3, .int z3)]) hx hb dX9_name_5 hl (by decide) rfl (fun ls hl9 => ?_)
  replace hl := hl9
  refine lv_aload_n hx hb dX9_name_7 rfl (lv_at hl 1 rfl) ?_
  obtain ⟨o6, h7, hw⟩ := hw
  refine h_getR C0 hW (T := TX9) (kf := 2) in_X9_name_RX9 h7 rfl (by decide) (List.mem_of_getElem? (i := 1) rfl) rfl dX9_name_8 ?_
  refine lv_iload_n hx hb dX9_name_11 rfl (lv_at hl 2 rfl) ?_
  obtain ⟨a8, rfl, hw⟩ := hw
  obtain ⟨h10, hw⟩ := hw
  refine h_goq C0 hW (va_runV (As := [.int z1]) (rest := []) ⟨hx, hb, hml, ho, hts⟩ (k_X4_layerAt (l := l) (u := u) (X := X) (sz := H.size) _ a8 z1 S  hw) (cwV 1 hts gX9_name_X4_layerAt rfl rfl rfl (by decide +kernel) ⟨Nat.le_of_ble_eq_true rfl, Nat.le_of_ble_eq_true rfl⟩) ⟨h_blind, (h_recv C0 hW (ci := 5) rfl h10), (h_pre C0 hW [.ref a8, .int z1])⟩ rfl rfl hl.1 rfl (lv_room (Nat.le_of_ble_eq_true rfl)) dX9_name_12 ⟨by show _ ≤ MC; omega, by show _ ≤ MS; omega⟩) (fun r9 S11 H locs h12 hW => ?_)
  obtain ⟨h13, hp⟩ := h12
  rw [h13] at hW
  replace hw := hp
  refine lv_ifnullV (tgt := 23) hx hb dX9_name_15 (by decide) (fun c14 => ?_) (fun a15 c14 => ?_)
  · subst c14
    replace hw := hw.1 rfl
    refine lv_iconst (v := (-1)) hx hb dX9_name_23 (by decide) ?_
    exact hret (-1) S _ _ _ _ (by omega) (by omega) hw rfl dX9_name_24 _ _ _ hW hl
  · subst c14
    replace hw := hw.2 a15 rfl
    refine lv_aloadV hx hb dX9_name_18 (lv_at hl 0 rfl) ?_
    refine lv_ifnonnullV (tgt := 25) hx hb dX9_name_20 (by decide) (fun a17 c16 => ?_) (fun c16 => ?_)
    · subst c16
      replace hw := hw.2 a17 rfl
      refine lv_iload_n hx hb dX9_name_25 rfl (lv_at hl 3 rfl) ?_
      refine lv_if_lt (tgt := 36) hx hb dX9_name_26 (by decide) (fun c18 => ?_) (fun c18 => ?_)
      · replace hw := hw.1 c18
        refine lv_bipush (v := (-5)) hx hb dX9_name_36 (by decide) ?_
        exact hret (-5) S _ _ _ _ (by omega) (by omega) hw rfl dX9_name_38 _ _ _ hW hl
      · replace hw := hw.2 c18
        refine lv_iload_n hx hb dX9_name_29 rfl (lv_at hl 3 rfl) ?_
        refine lv_sipush (v := 160) hx hb dX9_name_30 (by decide) ?_
        refine lv_icmp_lt (tgt := 39) hx hb dX9_name_33 (by decide) (fun c19 => ?_) (fun c19 => ?_)
        · replace hw := hw.1 c19
          obtain ⟨h23, h24, hw⟩ := hw
          refine h_new C0 hW (ci := 6) (fs := [.null, .int 0, .null]) in_X9_name_RX5 rfl tyX5 tyX5_ok (List.mem_of_getElem? (i := 2) rfl) (List.mem_of_getElem? (i := 3) rfl) (List.mem_of_getElem? (i := 4) rfl) (fun j hj => by rcases (show j = 0 ∨ j = 1 ∨ j = 2 by omega) with rfl | rfl | rfl <;> rfl) (by show _ ≤ MC; omega) (by show _ ≤ MS; omega) dX9_name_39 (fun q20 H h21 hW => ?_)
          obtain ⟨S22, eS22⟩ : ∃ z : hS, z = adS S q20 (.inr (6, [.null, .int 0, .null])) := ⟨_, rfl⟩
          rw [← eS22] at hW
          replace hw := hw q20 S22 h21 eS22
          have hkn : (k + 1) + (mc - 1) ≤ MC ∧ (n + 3) + (ms - 3) ≤ MS := by omega
          refine lv_dup hx hb dX9_name_42 rfl ?_
          refine lv_aload_n hx hb dX9_name_43 rfl (lv_at hl 1 rfl) ?_
          obtain ⟨o25, h26, hw⟩ := hw
          refine h_getR C0 hW (T := TX9) (kf := 2) in_X9_name_RX9 h26 rfl (by decide) (List.mem_of_getElem? (i := 1) rfl) rfl dX9_name_44 ?_
          refine lv_iload_n hx hb dX9_name_47 rfl (lv_at hl 2 rfl) ?_
          obtain ⟨k28, n29, h30, h31, hw⟩ := hw
          refine h_gov C0 hW (va_runI (As := [va_rf o25, .int z1]) (rest := [.ref q20]) ⟨hx, hb, hml, ho, hts⟩ (k_X5_init (l := l) (u := u) (X := X) (sz := H.size) _ q20 o25 z1 S22 k28 n29 hw) (cwI 2 hts gX9_name_X5_init rfl rfl rfl (hts _ (List.mem_of_getElem? (i := 4) rfl)) (hts _ (List.mem_of_getElem? (i := 20) rfl)) (hts _ (List.mem_of_getElem? (i := 21) rfl)) rfl (by decide +kernel) ⟨Nat.le_of_ble_eq_true rfl, Nat.le_of_ble_eq_true rfl⟩) ⟨h_blind, (h_pre C0 hW [.ref q20, va_rf o25, .int z1])⟩ rfl rfl hl.1 rfl (lv_room (Nat.le_of_ble_eq_true rfl)) dX9_name_48 ⟨by show _ ≤ MC; omega, by show _ ≤ MS; omega⟩) (fun S32 H locs h33 hW => ?_)
          replace hw := h33
          have hkn : ((k + 1) + k28) + ((mc - 1) - k28) ≤ MC ∧ ((n + 3) + n29) + ((ms - 3) - n29) ≤ MS := by omega
          refine lv_astore (i := 5) (lv' := [(5, .ref q20), (4, .ref a17), (0, .ref t0), (1, .int z1), (2, .int z2), (3, .int z3)]) hx hb dX9_name_51 hl (by decide) rfl (fun ls hl9 => ?_)
          replace hl := hl9
          refine lv_aload hx hb dX9_name_53 (lv_at hl 0 rfl) ?_
          obtain ⟨h35, hw⟩ := hw
          refine h_goq C0 hW (va_runV (As := []) (rest := []) ⟨hx, hb, hml, ho, hts⟩ (k_X5_nextName (l := l) (u := u) (X := X) (sz := H.size) _ q20  S32  hw) (cwV 0 hts gX9_name_X5_nextName rfl rfl rfl (by decide +kernel) ⟨Nat.le_of_ble_eq_true rfl, Nat.le_of_ble_eq_true rfl⟩) ⟨h_blind, (h_recv C0 hW (ci := 6) rfl h35), (h_pre C0 hW [.ref q20])⟩ rfl rfl hl.1 rfl (lv_room (Nat.le_of_ble_eq_true rfl)) dX9_name_55 ⟨by show _ ≤ MC; omega, by show _ ≤ MS; omega⟩) (fun r34 S36 H locs h37 hW => ?_)
          replace hw := h37
          refine lv_astoreV (i := 6) (lv' := [(6, va_rf r34), (5, .ref q20), (4, .ref a17), (0, .ref t0), (1, .int z1), (2, .int z2), (3, .int z3)]) hx hb dX9_name_58 hl (by decide) rfl (fun ls hl9 => ?_)
          replace hl := hl9
          refine lv_iconst (v := 0) hx hb dX9_name_60 (by decide) ?_
          refine lv_istore (lv' := [(7, .int 0), (6, va_rf r34), (5, .ref q20), (4, .ref a17), (0, .ref t0), (1, .int z1), (2, .int z2), (3, .int z3)]) hx hb dX9_name_61 hl (by decide) (by show (7, .int 0) :: List.filter (fun q : Nat × Value => !(q.1 == 7) && !(q.1 + 1 == 7 && q.2.category == 2)) [(6, va_rf r34), (5, .ref q20), (4, .ref a17), (0, .ref t0), (1, .int z1), (2, .int z2), (3, .int z3)] = [(7, .int 0), (6, va_rf r34), (5, .ref q20), (4, .ref a17), (0, .ref t0), (1, .int z1), (2, .int z2), (3, .int z3)]; simp [va_rf_cat, va_c_ref, va_c_int, va_c_null]) (fun ls hl9 => ?_)
          replace hl := hl9
          obtain ⟨n38, hw⟩ := hw
          exact t_X9_name_63 C0 t0 post hret  n38 z2 a17 q20 r34 0 S36 ((mc - 1) - k28) ((ms - 3) - n29) _ _ hkn hw _ _ _ hW (lv_sub hl [4, 6, 3, 2, 1, 0] rfl)
        · replace hw := hw.2 c19
          refine lv_bipush (v := (-5)) hx hb dX9_name_36 (by decide) ?_
          exact hret (-5) S _ _ _ _ (by omega) (by omega) hw rfl dX9_name_38 _ _ _ hW hl
    · subst c16
      replace hw := hw.1 rfl
      refine lv_iconst (v := (-1)) hx hb dX9_name_23 (by decide) ?_
      exact hret (-1) S _ _ _ _ (by omega) (by omega) hw rfl dX9_name_24 _ _ _ hW hl
set_option maxHeartbeats 4000000 in
set_option maxRecDepth 100000 in
theorem k_X9_name {l : Launch} {D : va_G} {u : hU} {X : va_W} {sz : Nat} (post : Int32 → hS → Prop) (t0 : Nat) (z1 : Int32) (z2 : Int32) (z3 : Int32) (S : hS) (mc ms : Nat) (hw : w_X9_name u post t0 z1 z2 z3 S mc ms) : hMi l yX9_name wsX9_name (rm_X9_name mc ms) D (gt u.2.1) u.1 u.2.2 sz X S [.ref t0, .int z1, .int z2, .int z3] post mc ms := by
  refine hMi_of (cc := cX9_name) (nL := 8) (ty := .int) (own := RX9) (by decide) rfl rfl (Nat.le_of_ble_eq_true rfl) ?_
  intro p e s m args below meth c A Q C0 hin hret
  exact t_X9_name_0 C0 t0 post hret z1 z2 z3 S mc ms 0 0 ⟨by omega, by omega⟩ hw
end RAWM
