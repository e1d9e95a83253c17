section RAWM
variable {p : Program} {l : Launch} {e : Env} {s : State} {m : MethodId} {args : Array Value} {below : List Frame} {meth : Method} {c : Code} {Q : State → Prop}
variable {D : va_G} {A : Nat → Prop} {u : hU} {X : va_W} {MC MS : Nat}
abbrev rm_X3_writeOnto (MC MS : Nat) : Room := { frames := 7, cells := MC, slots := MS, locals := 151 }
theorem in_X3_writeOnto_RX0 : ∀ w ∈ wsX00, w ∈ wsX3_writeOnto := fun w hw9 => List.mem_cons_of_mem _ (List.mem_append_left _ (List.mem_append_left _ (List.mem_append_right _ hw9)))
theorem in_X3_writeOnto_RX3 : ∀ w ∈ wsX30, w ∈ wsX3_writeOnto := fun w hw9 => List.mem_cons_of_mem _ (List.mem_append_left _ (List.mem_append_left _ (List.mem_append_left _ (List.mem_append_right _ hw9))))
set_option maxHeartbeats 4000000 in
set_option maxRecDepth 100000 in
theorem t_X3_writeOnto_2 (C0 : hX p s m args c cX3_writeOnto 4 RX3 wsX3_writeOnto D (gt u.2.1) A u.1 u.2.2) (t0 : Nat) (post : hS → Prop) (hret : ∀ (S' : hS) (pc : Nat) (lv : List (Nat × Value)) (k n : Nat), k ≤ MC → n ≤ MS → post S' → decode cX3_writeOnto pc = .ok (.return_, 1) → gG p l e (rm_X3_writeOnto MC MS) s m args below meth c Q D A 4 k n (hC X S') pc lv [])  : ∀ (nf : Nat) (x1 : Option Nat) (x2 : Int32) (S : hS) (mc ms k n : Nat), k + mc ≤ MC ∧ n + ms ≤ MS → w_X3_writeOnto_2 u post t0  nf x1 x2 S mc ms → gG p l e (rm_X3_writeOnto MC MS) s m args below meth c Q D A 4 k n (hC X S) 2 [(0, .ref t0), (1, va_rf x1), (2, .int x2)] [] := by
  obtain ⟨⟨hx, hb, hml, ho, hts, hK, hA⟩, hR⟩ := id C0
  intro nf
  induction nf with
  | zero => intro x1 x2 S mc ms k n hkn hw; exact hw.elim
  | succ nf ih =>
    intro x1 x2 S mc ms k n hkn hw H locs ls hW hl
    rw [w_X3_writeOnto_2] at hw
    refine lv_iload_n hx hb dX3_writeOnto_2 rfl (lv_at hl 2 rfl) ?_
    refine lv_aload_n hx hb dX3_writeOnto_3 rfl (lv_at hl 0 rfl) ?_
    obtain ⟨v2, h3, hw⟩ := hw
    refine h_getI C0 hW (T := TX3) (kf := 1) in_X3_writeOnto_RX3 h3 rfl (by decide) (List.mem_of_getElem? (i := 1) rfl) rfl dX3_writeOnto_4 ?_
    refine lv_icmp_ge (tgt := 56) hx hb dX3_writeOnto_7 (by decide) (fun c4 => ?_) (fun c4 => ?_)
    · replace hw := hw.1 c4
      exact hret S _ _ _ _ (by omega) (by omega) hw dX3_writeOnto_56 _ _ _ hW hl
    · replace hw := hw.2 c4
      refine lv_aload_n hx hb dX3_writeOnto_10 rfl (lv_at hl 0 rfl) ?_
      refine lv_iload_n hx hb dX3_writeOnto_11 rfl (lv_at hl 2 rfl) ?_
      obtain ⟨h6, hw⟩ := hw
      refine h_goq C0 hW (va_runV (As := [.int x2]) (rest := []) ⟨hx, hb, hml, ho, hts⟩ (k_X3_entryAt (l := l) (u := u) (X := X) (sz := H.size) _ t0 x2 S  hw) (cwV 1 hts gX3_writeOnto_X3_entryAt rfl rfl rfl (by decide +kernel) ⟨Nat.le_of_ble_eq_true rfl, Nat.le_of_ble_eq_true rfl⟩) ⟨h_blind, (h_recv C0 hW (ci := 4) rfl h6), (h_pre C0 hW [.ref t0, .int x2])⟩ rfl rfl hl.1 rfl (lv_room (Nat.le_of_ble_eq_true rfl)) dX3_writeOnto_12 ⟨by show _ ≤ MC; omega, by show _ ≤ MS; omega⟩) (fun r5 S7 H locs h8 hW => ?_)
      obtain ⟨h9, hp⟩ := h8
      rw [h9] at hW
      replace hw := hp
      refine lv_astoreV_n (i := 3) (lv' := [(3, va_rf r5), (0, .ref t0), (1, va_rf x1), (2, .int x2)]) hx hb dX3_writeOnto_15 rfl hl (by decide) rfl (fun ls hl9 => ?_)
      replace hl := hl9
      refine lv_aloadV_n hx hb dX3_writeOnto_16 rfl (lv_at hl 0 rfl) ?_
      refine lv_ifnullV (tgt := 50) hx hb dX3_writeOnto_17 (by decide) (fun c10 => ?_) (fun a11 c10 => ?_)
      · subst c10
        replace hw := hw.1 rfl
        obtain ⟨v12, ev12⟩ : ∃ y : Int32, y = x2 + 1 := ⟨_, rfl⟩
        replace hw := hw v12 ev12
        refine lv_iinc (v := v12) (lv' := [(2, .int v12), (3, .null), (0, .ref t0), (1, va_rf x1)]) hx hb dX3_writeOnto_50 hl (k := 3) rfl (by rw [ev12]; rfl) (by decide) (by show (2, .int v12) :: List.filter (fun q : Nat × Value => !(q.1 == 2) && !(q.1 + 1 == 2 && q.2.category == 2)) [(3, .null), (0, .ref t0), (1, va_rf x1), (2, .int x2)] = [(2, .int v12), (3, .null), (0, .ref t0), (1, va_rf x1)]; simp [va_rf_cat, va_c_ref, va_c_int, va_c_null]) (fun ls hl9 => ?_)
        replace hl := hl9
        refine lv_goto (tgt := 2) hx hb dX3_writeOnto_53 (by decide) ?_
        exact ih x1 v12 S mc ms _ _ hkn hw _ _ _ hW (lv_sub hl [2, 3, 0] rfl)
      · subst c10
        replace hw := hw.2 a11 rfl
        refine lv_aloadV_n hx hb dX3_writeOnto_20 rfl (lv_at hl 2 rfl) ?_
        refine lv_aload_n hx hb dX3_writeOnto_21 rfl (lv_at hl 0 rfl) ?_
        obtain ⟨o13, h14, hw⟩ := hw
        refine h_getRN C0 hW (host := RX9) (T := TX0) (kf := 0) in_X3_writeOnto_RX0 h14 rfl (by decide) (by decide +kernel) rfl dX3_writeOnto_22 ?_
        obtain ⟨k16, n17, h18, h19, hw⟩ := hw
        refine h_gov C0 hW (va_runS (As := [va_rf x1, va_rf o13]) (rest := []) ⟨hx, hb, hml, ho, hts⟩ (k_X1_escapeOnto (l := l) (u := u) (X := X) (sz := H.size) _ x1 o13 S k16 n17 hw) (va_cwS 2 hts gX3_writeOnto_X1_escapeOnto rfl rfl rfl (by decide +kernel) ⟨Nat.le_of_ble_eq_true rfl, Nat.le_of_ble_eq_true rfl⟩) ⟨h_blind, (h_pre C0 hW [va_rf x1, va_rf o13])⟩ rfl rfl hl.1 rfl (lv_room (Nat.le_of_ble_eq_true rfl)) dX3_writeOnto_25 ⟨by show _ ≤ MC; omega, by show _ ≤ MS; omega⟩) (fun S20 H locs h21 hW => ?_)
        replace hw := h21
        have hkn : (k + k16) + (mc - k16) ≤ MC ∧ (n + n17) + (ms - n17) ≤ MS := by omega
        refine lv_aloadV_n hx hb dX3_writeOnto_28 rfl (lv_at hl 2 rfl) ?_
        refine lv_bipush (v := 61) hx hb dX3_writeOnto_29 (by decide) ?_
        obtain ⟨a22, rfl, hw⟩ := hw
        obtain ⟨h28, k24, n25, h26, h27, hw⟩ := hw
        refine h_goq C0 hW (va_runV (As := [.int 61]) (rest := []) ⟨hx, hb, hml, ho, hts⟩ (k_J4_append_cf (l := l) (u := u) (X := X) (sz := H.size) _ a22 61 S20 k24 n25 hw) (cwV 1 hts gX3_writeOnto_J4_append_cf468 rfl rfl rfl (by decide +kernel) ⟨Nat.le_of_ble_eq_true rfl, Nat.le_of_ble_eq_true rfl⟩) ⟨h_blind, (h_recv C0 hW (ci := 1) rfl h28), (h_pre C0 hW [.ref a22, .int 61])⟩ rfl rfl hl.1 rfl (lv_room (Nat.le_of_ble_eq_true rfl)) dX3_writeOnto_31 ⟨by show _ ≤ MC; omega, by show _ ≤ MS; omega⟩) (fun r23 S29 H locs h30 hW => ?_)
        replace hw := h30
        have hkn : ((k + k16) + k24) + ((mc - k16) - k24) ≤ MC ∧ ((n + n17) + n25) + ((ms - n17) - n25) ≤ MS := by omega
        refine lv_pop hx hb dX3_writeOnto_34 (va_rf_cat _) ?_
        refine lv_aload_n hx hb dX3_writeOnto_35 rfl (lv_at hl 2 rfl) ?_
        refine lv_aload_n hx hb dX3_writeOnto_36 rfl (lv_at hl 0 rfl) ?_
        obtain ⟨o31, h32, hw⟩ := hw
        refine h_getRN C0 hW (host := RX9) (T := TX0) (kf := 1) in_X3_writeOnto_RX0 h32 rfl (by decide) (by decide +kernel) rfl dX3_writeOnto_37 ?_
        obtain ⟨k34, n35, h36, h37, hw⟩ := hw
        refine h_gov C0 hW (va_runS (As := [.ref a22, va_rf o31]) (rest := []) ⟨hx, hb, hml, ho, hts⟩ (k_X1_escapeOnto (l := l) (u := u) (X := X) (sz := H.size) _ (some a22) o31 S29 k34 n35 hw) (va_cwS 2 hts gX3_writeOnto_X1_escapeOnto rfl rfl rfl (by decide +kernel) ⟨Nat.le_of_ble_eq_true rfl, Nat.le_of_ble_eq_true rfl⟩) ⟨h_blind, (h_pre C0 hW [.ref a22, va_rf o31])⟩ rfl rfl hl.1 rfl (lv_room (Nat.le_of_ble_eq_true rfl)) dX3_writeOnto_40 ⟨by show _ ≤ MC; omega, by show _ ≤ MS; omega⟩) (fun S38 H locs h39 hW => ?_)
        replace hw := h39
        have hkn : (((k + k16) + k24) + k34) + (((mc - k16) - k24) - k34) ≤ MC ∧ (((n + n17) + n25) + n35) + (((ms - n17) - n25) - n35) ≤ MS := by omega
        refine lv_aload_n hx hb dX3_writeOnto_43 rfl (lv_at hl 2 rfl) ?_
        refine lv_bipush (v := 10) hx hb dX3_writeOnto_44 (by decide) ?_
        obtain ⟨h45, k41, n42, h43, h44, hw⟩ := hw
        refine h_goq C0 hW (va_runV (As := [.int 10]) (rest := []) ⟨hx, hb, hml, ho, hts⟩ (k_J4_append_cf (l := l) (u := u) (X := X) (sz := H.size) _ a22 10 S38 k41 n42 hw) (cwV 1 hts gX3_writeOnto_J4_append_cf468 rfl rfl rfl (by decide +kernel) ⟨Nat.le_of_ble_eq_true rfl, Nat.le_of_ble_eq_true rfl⟩) ⟨h_blind, (h_recv C0 hW (ci := 1) rfl h45), (h_pre C0 hW [.ref a22, .int 10])⟩ rfl rfl hl.1 rfl (lv_room (Nat.le_of_ble_eq_true rfl)) dX3_writeOnto_46 ⟨by show _ ≤ MC; omega, by show _ ≤ MS; omega⟩) (fun r40 S46 H locs h47 hW => ?_)
        replace hw := h47
        have hkn : ((((k + k16) + k24) + k34) + k41) + ((((mc - k16) - k24) - k34) - k41) ≤ MC ∧ ((((n + n17) + n25) + n35) + n42) + ((((ms - n17) - n25) - n35) - n42) ≤ MS := by omega
        refine lv_pop hx hb dX3_writeOnto_49 (va_rf_cat _) ?_
        obtain ⟨v48, ev48⟩ : ∃ y : Int32, y = x2 + 1 := ⟨_, rfl⟩
        replace hw := hw v48 ev48
        refine lv_iinc (v := v48) (lv' := [(2, .int v48), (3, .ref a11), (0, .ref t0), (1, .ref a22)]) hx hb dX3_writeOnto_50 hl (k := 3) rfl (by rw [ev48]; rfl) (by decide) rfl (fun ls hl9 => ?_)
        replace hl := hl9
        refine lv_goto (tgt := 2) hx hb dX3_writeOnto_53 (by decide) ?_
        exact ih (some a22) v48 S46 ((((mc - k16) - k24) - k34) - k41) ((((ms - n17) - n25) - n35) - n42) _ _ hkn hw _ _ _ hW (lv_sub hl [2, 3, 0] rfl)
set_option maxHeartbeats 4000000 in
set_option maxRecDepth 100000 in
theorem t_X3_writeOnto_0 (C0 : hX p s m args c cX3_writeOnto 4 RX3 wsX3_writeOnto D (gt u.2.1) A u.1 u.2.2) (t0 : Nat) (post : hS → Prop) (hret : ∀ (S' : hS) (pc : Nat) (lv : List (Nat × Value)) (k n : Nat), k ≤ MC → n ≤ MS → post S' → decode cX3_writeOnto pc = .ok (.return_, 1) → gG p l e (rm_X3_writeOnto MC MS) s m args below meth c Q D A 4 k n (hC X S') pc lv [])  : ∀ (p1 : Option Nat) (S : hS) (mc ms k n : Nat), k + mc ≤ MC ∧ n + ms ≤ MS → w_X3_writeOnto u post t0  p1 S mc ms → gG p l e (rm_X3_writeOnto MC MS) s m args below meth c Q D A 4 k n (hC X S) 0 [(0, .ref t0), (1, va_rf p1)] [] := by
  obtain ⟨⟨hx, hb, hml, ho, hts, hK, hA⟩, hR⟩ := id C0
  intro p1 S mc ms k n hkn hw H locs ls hW hl
  rw [w_X3_writeOnto] at hw
  refine lv_iconst (v := 0) hx hb dX3_writeOnto_0 (by decide) ?_
  refine lv_istore_n (lv' := [(2, .int 0), (0, .ref t0), (1, va_rf p1)]) hx hb dX3_writeOnto_1 rfl hl (by decide) (by show (2, .int 0) :: List.filter (fun q : Nat × Value => !(q.1 == 2) && !(q.1 + 1 == 2 && q.2.category == 2)) [(0, .ref t0), (1, va_rf p1)] = [(2, .int 0), (0, .ref t0), (1, va_rf p1)]; simp [va_rf_cat, va_c_ref, va_c_int, va_c_null]) (fun ls hl9 => ?_)
  replace hl := hl9
  obtain ⟨n1, hw⟩ := hw
  exact t_X3_writeOnto_2 C0 t0 post hret  n1 p1 0 S mc ms _ _ hkn hw _ _ _ hW (lv_sub hl [1, 2, 0] rfl)
set_option maxHeartbeats 4000000 in
set_option maxRecDepth 100000 in
theorem k_X3_writeOnto {l : Launch} {D : va_G} {u : hU} {X : va_W} {sz : Nat} (post : hS → Prop) (t0 : Nat) (p1 : Option Nat) (S : hS) (mc ms : Nat) (hw : w_X3_writeOnto u post t0 p1 S mc ms) : hMv l yX3_writeOnto wsX3_writeOnto (rm_X3_writeOnto mc ms) D (gt u.2.1) u.1 u.2.2 sz X S [.ref t0, va_rf p1] post mc ms := by
  refine hMv_of (cc := cX3_writeOnto) (nL := 4) (own := RX3) (by decide) rfl rfl (by cases p1 <;> exact Nat.le_of_ble_eq_true rfl) ?_
  intro p e s m args below meth c A Q C0 hin hret
  have hfin := t_X3_writeOnto_0 C0 t0 post hret p1 S mc ms 0 0 ⟨by omega, by omega⟩ hw
  intro H locs ls hW hl
  refine hfin H locs ls hW ?_
  cases p1 <;> exact hl
abbrev rm_X4_init (MC MS : Nat) : Room := { frames := 2, cells := MC, slots := MS, locals := 32 }
theorem in_X4_init_RX3 : ∀ w ∈ wsX30, w ∈ wsX4_init := fun w hw9 => List.mem_cons_of_mem _ (List.mem_append_right _ hw9)
theorem in_X4_init_RX4 : ∀ w ∈ wsX40, w ∈ wsX4_init := fun w hw9 => List.mem_cons_of_mem _ (List.mem_append_left _ (List.mem_append_right _ hw9))
set_option maxHeartbeats 4000000 in
set_option maxRecDepth 100000 in
theorem t_X4_init_14 (C0 : hX p s m args c cX4_init 2 RX4 wsX4_init D (gt u.2.1) A u.1 u.2.2) (hin : yX4_init.name = "<init>" → meth.name = "<init>") (t0 : Nat) (post : hS → Prop) (hret : ∀ (S' : hS) (pc : Nat) (lv : List (Nat × Value)) (k n : Nat), k ≤ MC → n ≤ MS → post S' → decode cX4_init pc = .ok (.return_, 1) → gG p l e (rm_X4_init MC MS) s m args below meth c Q D A 2 k n (hC X S') pc lv [])  : ∀ (nf : Nat) (x1 : Int32) (S : hS) (mc ms k n : Nat), k + mc ≤ MC ∧ n + ms ≤ MS → w_X4_init_14 u post t0  nf x1 S mc ms → gG p l e (rm_X4_init MC MS) s m args below meth c Q D A 2 k n (hC X S) 14 [(0, .ref t0), (1, .int x1)] [] := by
  obtain ⟨⟨hx, hb, hml, ho, hts, hK, hA⟩, hR⟩ := id C0
  intro nf
  induction nf with
  | zero => intro x1 S mc ms k n hkn hw; exact hw.elim
  | succ nf ih =>
    intro x1 S mc ms k n hkn hw H locs ls hW hl
    rw [w_X4_init_14] at hw
    refine lv_iload_n hx hb dX4_init_14 rfl (lv_at hl 1 rfl) ?_
    refine lv_iconst (v := 4) hx hb dX4_init_15 (by decide) ?_
    refine lv_icmp_ge (tgt := 38) hx hb dX4_init_16 (by decide) (fun c15 => ?_) (fun c15 => ?_)
    · replace hw := hw.1 c15
      exact hret S _ _ _ _ (by omega) (by omega) hw dX4_init_38 _ _ _ hW hl
    · replace hw := hw.2 c15
      refine lv_aload_n hx hb dX4_init_19 rfl (lv_at hl 0 rfl) ?_
      obtain ⟨o16, h17, hw⟩ := hw
      refine h_getR C0 hW (T := TX4) (kf := 0) in_X4_init_RX4 h17 rfl (by decide) (List.mem_of_getElem? (i := 5) rfl) rfl dX4_init_20 ?_
      refine lv_iload_n hx hb dX4_init_23 rfl (lv_at hl 1 rfl) ?_
      obtain ⟨h21, h22, hw⟩ := hw
      refine h_new C0 hW (ci := 4) (fs := [.null, .int 0]) in_X4_init_RX3 rfl tyX3 tyX3_ok (List.mem_of_getElem? (i := 4) rfl) (List.mem_of_getElem? (i := 6) rfl) (List.mem_of_getElem? (i := 7) rfl) (fun j hj => by rcases (show j = 0 ∨ j = 1 by omega) with rfl | rfl <;> rfl) (by show _ ≤ MC; omega) (by show _ ≤ MS; omega) dX4_init_24 (fun q18 H h19 hW => ?_)
      obtain ⟨S20, eS20⟩ : ∃ z : hS, z = adS S q18 (.inr (4, [.null, .int 0])) := ⟨_, rfl⟩
      rw [← eS20] at hW
      replace hw := hw q18 S20 h19 eS20
      have hkn : (k + 1) + (mc - 1) ≤ MC ∧ (n + 2) + (ms - 2) ≤ MS := by omega
      refine lv_dup hx hb dX4_init_27 rfl ?_
      obtain ⟨k24, n25, h26, h27, hw⟩ := hw
      refine h_gov C0 hW (va_runIN (As := []) (rest := [.ref q18, .int x1, va_rf o16]) (host := RX9) ⟨hx, hb, hml, ho, hts⟩ (k_X3_init (l := l) (u := u) (X := X) (sz := H.size) _ q18  S20 k24 n25 hw) ⟨va_cnB 0 hts gX4_init_X3_init_n17 rfl rfl rfl (C0.2.2.2.2 _ (by decide +kernel)) (hts _ (List.mem_of_getElem? (i := 7) rfl)) (by decide +kernel) ⟨Nat.le_of_ble_eq_true rfl, Nat.le_of_ble_eq_true rfl⟩, rfl, hts _ (List.mem_of_getElem? (i := 8) rfl)⟩ ⟨h_blind, (h_pre C0 hW [.ref q18])⟩ rfl rfl hl.1 rfl (lv_room (by simp [va_rf_cat, va_c_ref, va_c_int, va_c_null])) dX4_init_28 ⟨by show _ ≤ MC; omega, by show _ ≤ MS; omega⟩) (fun S28 H locs h29 hW => ?_)
      replace hw := h29
      have hkn : ((k + 1) + k24) + ((mc - 1) - k24) ≤ MC ∧ ((n + 2) + n25) + ((ms - 2) - n25) ≤ MS := by omega
      obtain ⟨a30, rfl, hw⟩ := hw
      obtain ⟨N31, g32, h33, h34, h36, hw⟩ := hw
      refine h_qast C0 hW 4 4 h33 rfl h36 rfl h34 dX4_init_31 (fun H locs hW => ?_)
      obtain ⟨S35, eS35⟩ : ∃ z : hS, z = upS S28 a30 (.inl (u.2.1 4, N31, .inr (.inr (.inr (.inr (va_up g32 (x1 : Int32).toNatClampNeg (some q18))))))) := ⟨_, rfl⟩
      rw [← eS35] at hW
      replace hw := hw S35 eS35
      obtain ⟨v37, ev37⟩ : ∃ y : Int32, y = x1 + 1 := ⟨_, rfl⟩
      replace hw := hw v37 ev37
      refine lv_iinc (v := v37) (lv' := [(1, .int v37), (0, .ref t0)]) hx hb dX4_init_32 hl (k := 1) rfl (by rw [ev37]; rfl) (by decide) rfl (fun ls hl9 => ?_)
      replace hl := hl9
      refine lv_goto (tgt := 14) hx hb dX4_init_35 (by decide) ?_
      exact ih v37 S35 ((mc - 1) - k24) ((ms - 2) - n25) _ _ hkn hw _ _ _ hW (lv_sub hl [1, 0] rfl)
set_option maxHeartbeats 4000000 in
set_option maxRecDepth 100000 in
theorem t_X4_init_0 (C0 : hX p s m args c cX4_init 2 RX4 wsX4_init D (gt u.2.1) A u.1 u.2.2) (hin : yX4_init.name = "<init>" → meth.name = "<init>") (t0 : Nat) (post : hS → Prop) (hret : ∀ (S' : hS) (pc : Nat) (lv : List (Nat × Value)) (k n : Nat), k ≤ MC → n ≤ MS → post S' → decode cX4_init pc = .ok (.return_, 1) → gG p l e (rm_X4_init MC MS) s m args below meth c Q D A 2 k n (hC X S') pc lv [])  : ∀ (S : hS) (mc ms k n : Nat), k + mc ≤ MC ∧ n + ms ≤ MS → w_X4_init u post t0   S mc ms → gG p l e (rm_X4_init MC MS) s m args below meth c Q D A 2 k n (hC X S) 0 [(0, .ref t0)] [] := by
  obtain ⟨⟨hx, hb, hml, ho, hts, hK, hA⟩, hR⟩ := id C0
  intro  S mc ms k n hkn hw H locs ls hW hl
  rw [w_X4_init] at hw
  refine lv_aload_n hx hb dX4_init_0 rfl (lv_at hl 0 rfl) ?_
  refine W.objInit hx hb ho (hts (.methodLink RX4 3 objectInit) (List.mem_of_getElem? (i := 1) rfl)) (hts (.instanceMethod objectInit) (List.mem_of_getElem? (i := 2) rfl)) (hts (.code objectInit ⟨#[0xb1]⟩ 1 none) (List.mem_of_getElem? (i := 3) rfl)) rfl (by rw [hml]; exact hl.1) rfl dX4_init_1 (Nat.le_of_ble_eq_true rfl) (Nat.le_of_ble_eq_true rfl) ?_
  refine W.eq (g2 := F0 m 4 ls []) rfl ?_
  refine lv_aload_n hx hb dX4_init_4 rfl (lv_at hl 0 rfl) ?_
  refine lv_iconst (v := 4) hx hb dX4_init_5 (by decide) ?_
  obtain ⟨N8, h9, h7, h4, h5, hw⟩ := hw
  refine h_newQ C0 hW 4 rfl (List.mem_of_getElem? (i := 4) rfl) (by decide +kernel) (N := N8) (by rw [h9]; exact nI_pos (by omega)) (by rw [h9]; exact nI_clamp (by omega)) h7 (by show _ ≤ MC; omega) (by show _ ≤ MS; omega) dX4_init_6 (fun q1 H h2 hW => ?_)
  obtain ⟨S3, eS3⟩ : ∃ z : hS, z = adS S q1 (.inl (u.2.1 4, N8, .inr (.inr (.inr (.inr (fun _ => none)))))) := ⟨_, rfl⟩
  rw [← eS3] at hW
  replace hw := hw q1 S3 h2 eS3
  have hkn : (k + 1) + (mc - 1) ≤ MC ∧ (n + N8) + (ms - N8) ≤ MS := by omega
  obtain ⟨fs10, h11, h12, hw⟩ := hw
  refine h_put C0 hW (T := TX4) (kf := 0) (ty := .array (.object "SettingsDrawer$Layer")) in_X4_init_RX4 h11 rfl (by decide) h12 tyX4 tyX4_ok nmX4 (List.mem_of_getElem? (i := 5) rfl) rfl (Or.inr ⟨rfl, hin rfl, rfl⟩) (by decide +kernel) rfl rfl dX4_init_9 rfl (fun H locs hW => ?_)
  obtain ⟨S13, eS13⟩ : ∃ z : hS, z = upS S3 t0 (.inr (5, fs10.set 0 (.ref q1))) := ⟨_, rfl⟩
  rw [← eS13] at hW
  replace hw := hw S13 eS13
  refine lv_iconst (v := 0) hx hb dX4_init_12 (by decide) ?_
  refine lv_istore_n (lv' := [(1, .int 0), (0, .ref t0)]) hx hb dX4_init_13 rfl hl (by decide) rfl (fun ls hl9 => ?_)
  replace hl := hl9
  obtain ⟨n14, hw⟩ := hw
  exact t_X4_init_14 C0 hin t0 post hret  n14 0 S13 (mc - 1) (ms - N8) _ _ hkn hw _ _ _ hW (lv_sub hl [1, 0] rfl)
set_option maxHeartbeats 4000000 in
set_option maxRecDepth 100000 in
theorem k_X4_init {l : Launch} {D : va_G} {u : hU} {X : va_W} {sz : Nat} (post : hS → Prop) (t0 : Nat) (S : hS) (mc ms : Nat) (hw : w_X4_init u post t0  S mc ms) : hMv l yX4_init wsX4_init (rm_X4_init mc ms) D (gt u.2.1) u.1 u.2.2 sz X S [.ref t0] post mc ms := by
  refine hMv_of (cc := cX4_init) (nL := 2) (own := RX4) (by decide) rfl rfl (Nat.le_of_ble_eq_true rfl) ?_
  intro p e s m args below meth c A Q C0 hin hret
  exact t_X4_init_0 C0 hin t0 post hret  S mc ms 0 0 ⟨by omega, by omega⟩ hw
abbrev rm_X4_layerAt : Room := { frames := 1, cells := 0, slots := 0, locals := 21 }
theorem in_X4_layerAt_RX4 : ∀ w ∈ wsX40, w ∈ wsX4_layerAt := fun w hw9 => List.mem_cons_of_mem _ (List.mem_append_right _ hw9)
set_option maxHeartbeats 4000000 in
set_option maxRecDepth 100000 in
theorem t_X4_layerAt_0 (C0 : hX p s m args c cX4_layerAt 2 RX4 wsX4_layerAt D (gt u.2.1) A u.1 u.2.2) {S : hS} (t0 : Nat) (post : Option Nat → Prop) (hret : ∀ (r : Option Nat) (S' : hS) (pc : Nat) (lv : List (Nat × Value)) (k n : Nat), k ≤ 0 → n ≤ 0 → (S' = S ∧ post r) → decode cX4_layerAt pc = .ok (.areturn, 1) → gG p l e (rm_X4_layerAt) s m args below meth c Q D A 2 k n (hC X S') pc lv [va_rf r])  : ∀ (z1 : Int32), w_X4_layerAt u post t0  z1 S → gG p l e (rm_X4_layerAt) s m args below meth c Q D A 2 0 0 (hC X S) 0 [(0, .ref t0), (1, .int z1)] [] := by
  obtain ⟨⟨hx, hb, hml, ho, hts, hK, hA⟩, hR⟩ := id C0
  intro z1 hw H locs ls hW hl
  rw [w_X4_layerAt] at hw
  refine lv_iload_n hx hb dX4_layerAt_0 rfl (lv_at hl 1 rfl) ?_
  refine lv_iconst (v := 4) hx hb dX4_layerAt_1 (by decide) ?_
  refine g_callsN (As := [.int z1, .int 4]) (rest := []) (host := RX9) ⟨hx, hb, hml, ho, hts⟩ hl.1 (k_X9_isWithin (l := l) _ z1 4 hw) ⟨va_cnB 2 hts gX4_layerAt_X9_isWithin_n18 rfl rfl rfl (C0.2.2.2.2 _ (by decide +kernel)) (hts _ (List.mem_of_getElem? (i := 3) rfl)) (by decide +kernel) ⟨Nat.le_of_ble_eq_true rfl, Nat.le_of_ble_eq_true rfl⟩, hts _ (List.mem_of_getElem? (i := 2) rfl), trivial⟩ (Nat.le_of_ble_eq_true rfl) dX4_layerAt_2 rfl ⟨Nat.le_refl _, Nat.le_refl _⟩ (fun r1 hp => ?_)
  replace hw := hp
  refine lv_if_eq (tgt := 17) hx hb dX4_layerAt_5 (by decide) (fun c2 => ?_) (fun c2 => ?_)
  · replace hw := hw.1 c2
    refine lv_null hx hb dX4_layerAt_17 ?_
    exact hret none S _ _ 0 0 (Nat.le_refl _) (Nat.le_refl _) ⟨rfl, hw⟩ dX4_layerAt_18 _ _ _ hW hl
  · replace hw := hw.2 c2
    refine lv_aload_n hx hb dX4_layerAt_8 rfl (lv_at hl 0 rfl) ?_
    obtain ⟨o3, h4, hw⟩ := hw
    refine h_getR C0 hW (T := TX4) (kf := 0) in_X4_layerAt_RX4 h4 rfl (by decide) (List.mem_of_getElem? (i := 1) rfl) rfl dX4_layerAt_9 ?_
    refine lv_iload_n hx hb dX4_layerAt_12 rfl (lv_at hl 1 rfl) ?_
    obtain ⟨a5, rfl, hw⟩ := hw
    obtain ⟨N6, g7, h8, h9, hw⟩ := hw
    refine h_qald C0 hW 4 h8 rfl h9 dX4_layerAt_13 (fun o10 eo10 => ?_)
    replace hw := hw o10 eo10
    refine lv_goto (tgt := 18) hx hb dX4_layerAt_14 (by decide) ?_
    exact hret o10 S _ _ 0 0 (Nat.le_refl _) (Nat.le_refl _) ⟨rfl, hw⟩ dX4_layerAt_18 _ _ _ hW hl
set_option maxHeartbeats 4000000 in
set_option maxRecDepth 100000 in
theorem k_X4_layerAt {l : Launch} {D : va_G} {u : hU} {X : va_W} {sz : Nat} (post : Option Nat → Prop) (t0 : Nat) (z1 : Int32) (S : hS) (hw : w_X4_layerAt u post t0 z1 S) : hMq l yX4_layerAt wsX4_layerAt rm_X4_layerAt D (gt u.2.1) u.1 u.2.2 sz X S [.ref t0, .int z1] (fun r S' => S' = S ∧ post r) 0 0 := by
  refine hMq_of (cc := cX4_layerAt) (nL := 2) (ty := (.object "SettingsDrawer$Layer")) (own := RX4) (by decide) rfl rfl (Nat.le_of_ble_eq_true rfl) (Or.inl ⟨_, rfl⟩) ?_
  intro p e s m args below meth c A Q C0 hin hret
  exact t_X4_layerAt_0 C0 t0 post hret z1 hw
abbrev rm_X4_layerHaving : Room := { frames := 7, cells := 0, slots := 0, locals := 154 }
set_option maxHeartbeats 4000000 in
set_option maxRecDepth 100000 in
theorem t_X4_layerHaving_2 (C0 : hX p s m args c cX4_layerHaving 5 RX4 wsX4_layerHaving D (gt u.2.1) A u.1 u.2.2) {S : hS} (t0 : Nat) (post : Int32 → Prop) (hret : ∀ (r : Int32) (S' : hS) (pc : Nat) (lv : List (Nat × Value)) (k n : Nat), k ≤ 0 → n ≤ 0 → (S' = S ∧ post r) → narrow .int (.int r) = .int r → decode cX4_layerHaving pc = .ok (.ireturn, 1) → gG p l e (rm_X4_layerHaving) s m args below meth c Q D A 5 k n (hC X S') pc lv [.int r])  : ∀ (nf : Nat) (x2 : Option Nat) (x3 : Int32), w_X4_layerHaving_2 u post t0  nf x2 x3 S → gG p l e (rm_X4_layerHaving) s m args below meth c Q D A 5 0 0 (hC X S) 2 [(0, .ref t0), (2, va_rf x2), (3, .int x3)] [] := by
  obtain ⟨⟨hx, hb, hml, ho, hts, hK, hA⟩, hR⟩ := id C0
  intro nf
  induction nf with
  | zero => intro x2 x3 hw; exact hw.elim
  | succ nf ih =>
    intro x2 x3 hw H locs ls hW hl
    rw [w_X4_layerHaving_2] at hw
    refine lv_iload_n hx hb dX4_layerHaving_2 rfl (lv_at hl 2 rfl) ?_
    refine lv_if_lt (tgt := 35) hx hb dX4_layerHaving_3 (by decide) (fun c2 => ?_) (fun c2 => ?_)
    · replace hw := hw.1 c2
      refine lv_bipush (v := (-5)) hx hb dX4_layerHaving_35 (by decide) ?_
      exact hret (-5) S _ _ 0 0 (Nat.le_refl _) (Nat.le_refl _) ⟨rfl, hw⟩ rfl dX4_layerHaving_37 _ _ _ hW hl
    · replace hw := hw.2 c2
      refine lv_aload_n hx hb dX4_layerHaving_6 rfl (lv_at hl 0 rfl) ?_
      refine lv_iload_n hx hb dX4_layerHaving_7 rfl (lv_at hl 2 rfl) ?_
      obtain ⟨h4, hw⟩ := hw
      refine h_goq C0 hW (va_runV (As := [.int x3]) (rest := []) ⟨hx, hb, hml, ho, hts⟩ (k_X4_layerAt (l := l) (u := u) (X := X) (sz := H.size) _ t0 x3 S  hw) (cwV 1 hts gX4_layerHaving_X4_layerAt rfl rfl rfl (by decide +kernel) ⟨Nat.le_of_ble_eq_true rfl, Nat.le_of_ble_eq_true rfl⟩) ⟨h_blind, (h_recv C0 hW (ci := 5) rfl h4), (h_pre C0 hW [.ref t0, .int x3])⟩ rfl rfl hl.1 rfl (lv_room (Nat.le_of_ble_eq_true rfl)) dX4_layerHaving_8 ⟨Nat.le_refl _, Nat.le_refl _⟩) (fun r3 S5 H locs h6 hW => ?_)
      obtain ⟨h7, hp⟩ := h6
      rw [h7] at hW
      replace hw := hp
      refine lv_astoreV (i := 4) (lv' := [(4, va_rf r3), (0, .ref t0), (2, va_rf x2), (3, .int x3)]) hx hb dX4_layerHaving_11 hl (by decide) rfl (fun ls hl9 => ?_)
      replace hl := hl9
      refine lv_aloadV hx hb dX4_layerHaving_13 (lv_at hl 0 rfl) ?_
      refine lv_ifnullV (tgt := 29) hx hb dX4_layerHaving_15 (by decide) (fun c8 => ?_) (fun a9 c8 => ?_)
      · subst c8
        replace hw := hw.1 rfl
        obtain ⟨v10, ev10⟩ : ∃ y : Int32, y = x3 + (-1) := ⟨_, rfl⟩
        replace hw := hw v10 ev10
        refine lv_iinc (v := v10) (lv' := [(3, .int v10), (4, .null), (0, .ref t0), (2, va_rf x2)]) hx hb dX4_layerHaving_29 hl (k := 3) rfl (by rw [ev10]; rfl) (by decide) (by show (3, .int v10) :: List.filter (fun q : Nat × Value => !(q.1 == 3) && !(q.1 + 1 == 3 && q.2.category == 2)) [(4, .null), (0, .ref t0), (2, va_rf x2), (3, .int x3)] = [(3, .int v10), (4, .null), (0, .ref t0), (2, va_rf x2)]; simp [va_rf_cat, va_c_ref, va_c_int, va_c_null]) (fun ls hl9 => ?_)
        replace hl := hl9
        refine lv_goto (tgt := 2) hx hb dX4_layerHaving_32 (by decide) ?_
        exact ih x2 v10   hw _ _ _ hW (lv_sub hl [2, 3, 0] rfl)
      · subst c8
        replace hw := hw.2 a9 rfl
        refine lv_aload hx hb dX4_layerHaving_18 (lv_at hl 0 rfl) ?_
        refine lv_aloadV_n hx hb dX4_layerHaving_20 rfl (lv_at hl 2 rfl) ?_
        obtain ⟨h12, hw⟩ := hw
        refine h_goq C0 hW (va_runV (As := [va_rf x2]) (rest := []) ⟨hx, hb, hml, ho, hts⟩ (k_X3_valueOf (l := l) (u := u) (X := X) (sz := H.size) _ a9 x2 S  hw) (cwV 1 hts gX4_layerHaving_X3_valueOf rfl rfl rfl (by decide +kernel) ⟨Nat.le_of_ble_eq_true rfl, Nat.le_of_ble_eq_true rfl⟩) ⟨h_blind, (h_recv C0 hW (ci := 4) rfl h12), (h_pre C0 hW [.ref a9, va_rf x2])⟩ rfl rfl hl.1 rfl (lv_room (Nat.le_of_ble_eq_true rfl)) dX4_layerHaving_21 ⟨Nat.le_refl _, Nat.le_refl _⟩) (fun r11 S13 H locs h14 hW => ?_)
        obtain ⟨h15, hp⟩ := h14
        rw [h15] at hW
        replace hw := hp
        refine lv_ifnullV (tgt := 29) hx hb dX4_layerHaving_24 (by decide) (fun c16 => ?_) (fun a17 c16 => ?_)
        · subst c16
          replace hw := hw.1 rfl
          obtain ⟨v18, ev18⟩ : ∃ y : Int32, y = x3 + (-1) := ⟨_, rfl⟩
          replace hw := hw v18 ev18
          refine lv_iinc (v := v18) (lv' := [(3, .int v18), (4, .ref a9), (0, .ref t0), (2, va_rf x2)]) hx hb dX4_layerHaving_29 hl (k := 3) rfl (by rw [ev18]; rfl) (by decide) (by show (3, .int v18) :: List.filter (fun q : Nat × Value => !(q.1 == 3) && !(q.1 + 1 == 3 && q.2.category == 2)) [(4, .ref a9), (0, .ref t0), (2, va_rf x2), (3, .int x3)] = [(3, .int v18), (4, .ref a9), (0, .ref t0), (2, va_rf x2)]; simp [va_rf_cat, va_c_ref, va_c_int, va_c_null]) (fun ls hl9 => ?_)
          replace hl := hl9
          refine lv_goto (tgt := 2) hx hb dX4_layerHaving_32 (by decide) ?_
          exact ih x2 v18   hw _ _ _ hW (lv_sub hl [2, 3, 0] rfl)
        · subst c16
          replace hw := hw.2 a17 rfl
          refine lv_iload_n hx hb dX4_layerHaving_27 rfl (lv_at hl 3 rfl) ?_
          exact hret x3 S _ _ 0 0 (Nat.le_refl _) (Nat.le_refl _) ⟨rfl, hw⟩ rfl dX4_layerHaving_28 _ _ _ hW hl
set_option maxHeartbeats 4000000 in
set_option maxRecDepth 100000 in
theorem t_X4_layerHaving_0 (C0 : hX p s m args c cX4_layerHaving 5 RX4 wsX4_layerHaving D (gt u.2.1) A u.1 u.2.2) {S : hS} (t0 : Nat) (post : Int32 → Prop) (hret : ∀ (r : Int32) (S' : hS) (pc : Nat) (lv : List (Nat × Value)) (k n : Nat), k ≤ 0 → n ≤ 0 → (S' = S ∧ post r) → narrow .int (.int r) = .int r → decode cX4_layerHaving pc = .ok (.ireturn, 1) → gG p l e (rm_X4_layerHaving) s m args below meth c Q D A 5 k n (hC X S') pc lv [.int r])  : ∀ (z1 : Int32) (p2 : Option Nat), w_X4_layerHaving u post t0  z1 p2 S → gG p l e (rm_X4_layerHaving) s m args below meth c Q D A 5 0 0 (hC X S) 0 [(0, .ref t0), (1, .int z1), (2, va_rf p2)] [] := by
  obtain ⟨⟨hx, hb, hml, ho, hts, hK, hA⟩, hR⟩ := id C0
  intro z1 p2 hw H locs ls hW hl
  rw [w_X4_layerHaving] at hw
  refine lv_iload_n hx hb dX4_layerHaving_0 rfl (lv_at hl 1 rfl) ?_
  refine lv_istore_n (lv' := [(3, .int z1), (0, .ref t0), (1, .int z1), (2, va_rf p2)]) hx hb dX4_layerHaving_1 rfl hl (by decide) (by show (3, .int z1) :: List.filter (fun q : Nat × Value => !(q.1 == 3) && !(q.1 + 1 == 3 && q.2.category == 2)) [(0, .ref t0), (1, .int z1), (2, va_rf p2)] = [(3, .int z1), (0, .ref t0), (1, .int z1), (2, va_rf p2)]; simp [va_rf_cat, va_c_ref, va_c_int, va_c_null]) (fun ls hl9 => ?_)
  replace hl := hl9
  obtain ⟨n1, hw⟩ := hw
  exact t_X4_layerHaving_2 C0 t0 post hret  n1 p2 z1   hw _ _ _ hW (lv_sub hl [1, 3, 0] rfl)
set_option maxHeartbeats 4000000 in
set_option maxRecDepth 100000 in
theorem k_X4_layerHaving {l : Launch} {D : va_G} {u : hU} {X : va_W} {sz : Nat} (post : Int32 → Prop) (t0 : Nat) (z1 : Int32) (p2 : Option Nat) (S : hS) (hw : w_X4_layerHaving u post t0 z1 p2 S) : hMi l yX4_layerHaving wsX4_layerHaving rm_X4_layerHaving D (gt u.2.1) u.1 u.2.2 sz X S [.ref t0, .int z1, va_rf p2] (fun r S' => S' = S ∧ post r) 0 0 := by
  refine hMi_of (cc := cX4_layerHaving) (nL := 5) (ty := .int) (own := RX4) (by decide) rfl rfl (by cases p2 <;> exact Nat.le_of_ble_eq_true rfl) ?_
  intro p e s m args below meth c A Q C0 hin hret
  have hfin := t_X4_layerHaving_0 C0 t0 post hret z1 p2 hw
  intro H locs ls hW hl
  refine hfin H locs ls hW ?_
  cases p2 <;> exact hl
abbrev rm_X4_lookUp : Room := { frames := 8, cells := 0, slots := 0, locals := 178 }
set_option maxHeartbeats 4000000 in
set_option maxRecDepth 100000 in
theorem t_X4_lookUp_0 (C0 : hX p s m args c cX4_lookUp 4 RX4 wsX4_lookUp D (gt u.2.1) A u.1 u.2.2) {S : hS} (t0 : Nat) (post : Option Nat → Prop) (hret : ∀ (r : Option Nat) (S' : hS) (pc : Nat) (lv : List (Nat × Value)) (k n : Nat), k ≤ 0 → n ≤ 0 → (S' = S ∧ post r) → decode cX4_lookUp pc = .ok (.areturn, 1) → gG p l e (rm_X4_lookUp) s m args below meth c Q D A 4 k n (hC X S') pc lv [va_rf r])  : ∀ (z1 : Int32) (p2 : Option Nat), w_X4_lookUp u post t0  z1 p2 S → gG p l e (rm_X4_lookUp) s m args below meth c Q D A 4 0 0 (hC X S) 0 [(0, .ref t0), (1, .int z1), (2, va_rf p2)] [] := by
  obtain ⟨⟨hx, hb, hml, ho, hts, hK, hA⟩, hR⟩ := id C0
  intro z1 p2 hw H locs ls hW hl
  rw [w_X4_lookUp] at hw
  refine lv_aload_n hx hb dX4_lookUp_0 rfl (lv_at hl 0 rfl) ?_
  refine lv_aload_n hx hb dX4_lookUp_1 rfl (lv_at hl 0 rfl) ?_
  refine lv_iload_n hx hb dX4_lookUp_2 rfl (lv_at hl 1 rfl) ?_
  refine lv_aloadV_n hx hb dX4_lookUp_3 rfl (lv_at hl 2 rfl) ?_
  obtain ⟨h2, hw⟩ := hw
  refine h_goi C0 hW (va_runV (As := [.int z1, va_rf p2]) (rest := [.ref t0]) ⟨hx, hb, hml, ho, hts⟩ (k_X4_layerHaving (l := l) (u := u) (X := X) (sz := H.size) _ t0 z1 p2 S  hw) (cwV 2 hts gX4_lookUp_X4_layerHaving rfl rfl rfl (by decide +kernel) ⟨Nat.le_of_ble_eq_true rfl, Nat.le_of_ble_eq_true rfl⟩) ⟨h_blind, (h_recv C0 hW (ci := 5) rfl h2), (h_pre C0 hW [.ref t0, .int z1, va_rf p2])⟩ rfl rfl hl.1 rfl (lv_room (Nat.le_of_ble_eq_true rfl)) dX4_lookUp_4 ⟨Nat.le_refl _, Nat.le_refl _⟩) (fun r1 S3 H locs h4 hW => ?_)
  obtain ⟨h5, hp⟩ := h4
  rw [h5] at hW
  replace hw := hp
  obtain ⟨h7, hw⟩ := hw
  refine h_goq C0 hW (va_runV (As := [.int r1]) (rest := []) ⟨hx, hb, hml, ho, hts⟩ (k_X4_layerAt (l := l) (u := u) (X := X) (sz := H.size) _ t0 r1 S  hw) (cwV 1 hts gX4_lookUp_X4_layerAt rfl rfl rfl (by decide +kernel) ⟨Nat.le_of_ble_eq_true rfl, Nat.le_of_ble_eq_true rfl⟩) ⟨h_blind, (h_recv C0 hW (ci := 5) rfl h7), (h_pre C0 hW [.ref t0, .int r1])⟩ rfl rfl hl.1 rfl (lv_room (Nat.le_of_ble_eq_true rfl)) dX4_lookUp_7 ⟨Nat.le_refl _, Nat.le_refl _⟩) (fun r6 S8 H locs h9 hW => ?_)
  obtain ⟨h10, hp⟩ := h9
  rw [h10] at hW
  replace hw := hp
  refine lv_astoreV_n (i := 3) (lv' := [(3, va_rf r6), (0, .ref t0), (1, .int z1), (2, va_rf p2)]) hx hb dX4_lookUp_10 rfl hl (by decide) (by show (3, va_rf r6) :: List.filter (fun q : Nat × Value => !(q.1 == 3) && !(q.1 + 1 == 3 && q.2.category == 2)) [(0, .ref t0), (1, .int z1), (2, va_rf p2)] = [(3, va_rf r6), (0, .ref t0), (1, .int z1), (2, va_rf p2)]; simp [va_rf_cat, va_c_ref, va_c_int, va_c_null]) (fun ls hl9 => ?_)
  replace hl := hl9
  refine lv_aloadV_n hx hb dX4_lookUp_11 rfl (lv_at hl 0 rfl) ?_
  refine lv_ifnonnullV (tgt := 19) hx hb dX4_lookUp_12 (by decide) (fun a12 c11 => ?_) (fun c11 => ?_)
  · subst c11
    replace hw := hw.2 a12 rfl
    refine lv_aload_n hx hb dX4_lookUp_19 rfl (lv_at hl 0 rfl) ?_
    refine lv_aloadV_n hx hb dX4_lookUp_20 rfl (lv_at hl 3 rfl) ?_
    obtain ⟨h14, hw⟩ := hw
    refine h_goq C0 hW (va_runV (As := [va_rf p2]) (rest := []) ⟨hx, hb, hml, ho, hts⟩ (k_X3_valueOf (l := l) (u := u) (X := X) (sz := H.size) _ a12 p2 S  hw) (cwV 1 hts gX4_lookUp_X3_valueOf rfl rfl rfl (by decide +kernel) ⟨Nat.le_of_ble_eq_true rfl, Nat.le_of_ble_eq_true rfl⟩) ⟨h_blind, (h_recv C0 hW (ci := 4) rfl h14), (h_pre C0 hW [.ref a12, va_rf p2])⟩ rfl rfl hl.1 rfl (lv_room (Nat.le_of_ble_eq_true rfl)) dX4_lookUp_21 ⟨Nat.le_refl _, Nat.le_refl _⟩) (fun r13 S15 H locs h16 hW => ?_)
    obtain ⟨h17, hp⟩ := h16
    rw [h17] at hW
    replace hw := hp
    exact hret r13 S _ _ 0 0 (Nat.le_refl _) (Nat.le_refl _) ⟨rfl, hw⟩ dX4_lookUp_24 _ _ _ hW hl
  · subst c11
    replace hw := hw.1 rfl
    refine lv_null hx hb dX4_lookUp_15 ?_
    refine lv_goto (tgt := 24) hx hb dX4_lookUp_16 (by decide) ?_
    exact hret none S _ _ 0 0 (Nat.le_refl _) (Nat.le_refl _) ⟨rfl, hw⟩ dX4_lookUp_24 _ _ _ hW hl
set_option maxHeartbeats 4000000 in
set_option maxRecDepth 100000 in
theorem k_X4_lookUp {l : Launch} {D : va_G} {u : hU} {X : va_W} {sz : Nat} (post : Option Nat → Prop) (t0 : Nat) (z1 : Int32) (p2 : Option Nat) (S : hS) (hw : w_X4_lookUp u post t0 z1 p2 S) : hMq l yX4_lookUp wsX4_lookUp rm_X4_lookUp D (gt u.2.1) u.1 u.2.2 sz X S [.ref t0, .int z1, va_rf p2] (fun r S' => S' = S ∧ post r) 0 0 := by
  refine hMq_of (cc := cX4_lookUp) (nL := 4) (ty := (.object "java/lang/String")) (own := RX4) (by decide) rfl rfl (by cases p2 <;> exact Nat.le_of_ble_eq_true rfl) (Or.inl ⟨_, rfl⟩) ?_
  intro p e s m args below meth c A Q C0 hin hret
  have hfin := t_X4_lookUp_0 C0 t0 post hret z1 p2 hw
  intro H locs ls hW hl
  refine hfin H locs ls hW ?_
  cases p2 <;> exact hl
abbrev rm_X5_init (MC MS : Nat) : Room := { frames := 1, cells := MC, slots := MS, locals := 14 }
theorem in_X5_init_RX5 : ∀ w ∈ wsX50, w ∈ wsX5_init := fun w hw9 => List.mem_cons_of_mem _ (List.mem_append_right _ hw9)
set_option maxHeartbeats 4000000 in
set_option maxRecDepth 100000 in
theorem t_X5_init_0 (C0 : hX p s m args c cX5_init 3 RX5 wsX5_init D (gt u.2.1) A u.1 u.2.2) (hin : yX5_init.name = "<init>" → meth.name = "<init>") (t0 : Nat) (post : hS → Prop) (hret : ∀ (S' : hS) (pc : Nat) (lv : List (Nat × Value)) (k n : Nat), k ≤ MC → n ≤ MS → post S' → decode cX5_init pc = .ok (.return_, 1) → gG p l e (rm_X5_init MC MS) s m args below meth c Q D A 3 k n (hC X S') pc lv [])  : ∀ (p1 : Option Nat) (z2 : Int32) (S : hS) (mc ms k n : Nat), k + mc ≤ MC ∧ n + ms ≤ MS → w_X5_init u post t0  p1 z2 S mc ms → gG p l e (rm_X5_init MC MS) s m args below meth c Q D A 3 k n (hC X S) 0 [(0, .ref t0), (1, va_rf p1), (2, .int z2)] [] := by
  obtain ⟨⟨hx, hb, hml, ho, hts, hK, hA⟩, hR⟩ := id C0
  intro p1 z2 S mc ms k n hkn hw H locs ls hW hl
  rw [w_X5_init] at hw
  refine lv_aload_n hx hb dX5_init_0 rfl (lv_at hl 0 rfl) ?_
  refine W.objInit hx hb ho (hts (.methodLink RX5 3 objectInit) (List.mem_of_getElem? (i := 1) rfl)) (hts (.instanceMethod objectInit) (List.mem_of_getElem? (i := 2) rfl)) (hts (.code objectInit ⟨#[0xb1]⟩ 1 none) (List.mem_of_getElem? (i := 3) rfl)) rfl (by rw [hml]; exact hl.1) rfl dX5_init_1 (Nat.le_of_ble_eq_true rfl) (Nat.le_of_ble_eq_true rfl) ?_
  refine W.eq (g2 := F0 m 4 ls []) rfl ?_
  refine lv_aload_n hx hb dX5_init_4 rfl (lv_at hl 0 rfl) ?_
  refine lv_iconst (v := 4) hx hb dX5_init_5 (by decide) ?_
  obtain ⟨N8, h9, h7, h4, h5, hw⟩ := hw
  refine h_newI C0 hW rfl (List.mem_of_getElem? (i := 4) rfl) (N := N8) (by rw [h9]; exact nI_pos (by omega)) (by rw [h9]; exact nI_clamp (by omega)) h7 (by show _ ≤ MC; omega) (by show _ ≤ MS; omega) dX5_init_6 (fun q1 H h2 hW => ?_)
  obtain ⟨S3, eS3⟩ : ∃ z : hS, z = adS S q1 (.inl (u.2.1 0, N8, .inl (fun _ => 0))) := ⟨_, rfl⟩
  rw [← eS3] at hW
  replace hw := hw q1 S3 h2 eS3
  have hkn : (k + 1) + (mc - 1) ≤ MC ∧ (n + N8) + (ms - N8) ≤ MS := by omega
  obtain ⟨fs10, h11, h12, hw⟩ := hw
  refine h_put C0 hW (T := TX5) (kf := 2) (ty := .array (.int)) in_X5_init_RX5 h11 rfl (by decide) h12 tyX5 tyX5_ok nmX5 (List.mem_of_getElem? (i := 5) rfl) rfl (Or.inr ⟨rfl, hin rfl, rfl⟩) (by decide +kernel) rfl rfl dX5_init_8 rfl (fun H locs hW => ?_)
  obtain ⟨S13, eS13⟩ : ∃ z : hS, z = upS S3 t0 (.inr (6, fs10.set 2 (.ref q1))) := ⟨_, rfl⟩
  rw [← eS13] at hW
  replace hw := hw S13 eS13
  refine lv_aload_n hx hb dX5_init_11 rfl (lv_at hl 0 rfl) ?_
  refine lv_aloadV_n hx hb dX5_init_12 rfl (lv_at hl 1 rfl) ?_
  obtain ⟨fs14, h15, h16, hw⟩ := hw
  refine h_put C0 hW (T := TX5) (kf := 0) (ty := .object "SettingsDrawer$LayerPile") in_X5_init_RX5 h15 rfl (by decide) h16 tyX5 tyX5_ok nmX5 (List.mem_of_getElem? (i := 6) rfl) rfl (Or.inr ⟨rfl, hin rfl, rfl⟩) (by decide +kernel) (by cases p1 <;> rfl) (by cases p1 <;> rfl) dX5_init_13 (va_rf_cat _) (fun H locs hW => ?_)
  obtain ⟨S17, eS17⟩ : ∃ z : hS, z = upS S13 t0 (.inr (6, fs14.set 0 (va_rf p1))) := ⟨_, rfl⟩
  rw [← eS17] at hW
  replace hw := hw S17 eS17
  refine lv_aload_n hx hb dX5_init_16 rfl (lv_at hl 0 rfl) ?_
  refine lv_iload_n hx hb dX5_init_17 rfl (lv_at hl 2 rfl) ?_
  refine lv_iconst (v := 3) hx hb dX5_init_18 (by decide) ?_
  refine va_mmin hx hb (hml.trans hl.1.symm) ho (hts (.methodLink RX5 19 Lib.Math.min.name) (List.mem_of_getElem? (i := 7) rfl)) (hts _ (List.mem_of_getElem? (i := 8) rfl)) (hts _ (List.mem_of_getElem? (i := 9) rfl)) (hts _ (List.mem_of_getElem? (i := 10) rfl)) (Nat.le_of_ble_eq_true rfl) (Nat.le_of_ble_eq_true rfl) (by show _ ≤ MC; omega) (by show _ ≤ MS; omega) dX5_init_19 ?_
  obtain ⟨fs18, h19, h20, hw⟩ := hw
  refine h_put C0 hW (T := TX5) (kf := 1) (ty := .int) in_X5_init_RX5 h19 rfl (by decide) h20 tyX5 tyX5_ok nmX5 (List.mem_of_getElem? (i := 11) rfl) rfl (Or.inr ⟨rfl, hin rfl, rfl⟩) (by decide +kernel) rfl rfl dX5_init_22 rfl (fun H locs hW => ?_)
  obtain ⟨S21, eS21⟩ : ∃ z : hS, z = upS S17 t0 (.inr (6, fs18.set 1 (.int (if 3 < z2 then 3 else z2)))) := ⟨_, rfl⟩
  rw [← eS21] at hW
  replace hw := hw S21 eS21
  exact hret S21 _ _ _ _ (by omega) (by omega) hw dX5_init_25 _ _ _ hW hl
set_option maxHeartbeats 4000000 in
set_option maxRecDepth 100000 in
theorem k_X5_init {l : Launch} {D : va_G} {u : hU} {X : va_W} {sz : Nat} (post : hS → Prop) (t0 : Nat) (p1 : Option Nat) (z2 : Int32) (S : hS) (mc ms : Nat) (hw : w_X5_init u post t0 p1 z2 S mc ms) : hMv l yX5_init wsX5_init (rm_X5_init mc ms) D (gt u.2.1) u.1 u.2.2 sz X S [.ref t0, va_rf p1, .int z2] post mc ms := by
  refine hMv_of (cc := cX5_init) (nL := 3) (own := RX5) (by decide) rfl rfl (by cases p1 <;> exact Nat.le_of_ble_eq_true rfl) ?_
  intro p e s m args below meth c A Q C0 hin hret
  have hfin := t_X5_init_0 C0 hin t0 post hret p1 z2 S mc ms 0 0 ⟨by omega, by omega⟩ hw
  intro H locs ls hW hl
  refine hfin H locs ls hW ?_
  cases p1 <;> exact hl
abbrev rm_X5_keyAtCursor : Room := { frames := 3, cells := 0, slots := 0, locals := 64 }
theorem in_X5_keyAtCursor_RX5 : ∀ w ∈ wsX50, w ∈ wsX5_keyAtCursor := fun w hw9 => List.mem_cons_of_mem _ (List.mem_append_left _ (List.mem_append_left _ (List.mem_append_left _ (List.mem_append_right _ hw9))))
set_option maxHeartbeats 4000000 in
set_option maxRecDepth 100000 in
theorem t_X5_keyAtCursor_0 (C0 : hX p s m args c cX5_keyAtCursor 3 RX5 wsX5_keyAtCursor D (gt u.2.1) A u.1 u.2.2) {S : hS} (t0 : Nat) (post : Option Nat → Prop) (hret : ∀ (r : Option Nat) (S' : hS) (pc : Nat) (lv : List (Nat × Value)) (k n : Nat), k ≤ 0 → n ≤ 0 → (S' = S ∧ post r) → decode cX5_keyAtCursor pc = .ok (.areturn, 1) → gG p l e (rm_X5_keyAtCursor) s m args below meth c Q D A 3 k n (hC X S') pc lv [va_rf r])  : ∀ (z1 : Int32), w_X5_keyAtCursor u post t0  z1 S → gG p l e (rm_X5_keyAtCursor) s m args below meth c Q D A 3 0 0 (hC X S) 0 [(0, .ref t0), (1, .int z1)] [] := by
  obtain ⟨⟨hx, hb, hml, ho, hts, hK, hA⟩, hR⟩ := id C0
  intro z1 hw H locs ls hW hl
  rw [w_X5_keyAtCursor] at hw
  refine lv_aload_n hx hb dX5_keyAtCursor_0 rfl (lv_at hl 0 rfl) ?_
  obtain ⟨o1, h2, hw⟩ := hw
  refine h_getR C0 hW (T := TX5) (kf := 0) in_X5_keyAtCursor_RX5 h2 rfl (by decide) (List.mem_of_getElem? (i := 1) rfl) rfl dX5_keyAtCursor_1 ?_
  refine lv_iload_n hx hb dX5_keyAtCursor_4 rfl (lv_at hl 1 rfl) ?_
  obtain ⟨a3, rfl, hw⟩ := hw
  obtain ⟨h5, hw⟩ := hw
  refine h_goq C0 hW (va_runV (As := [.int z1]) (rest := []) ⟨hx, hb, hml, ho, hts⟩ (k_X4_layerAt (l := l) (u := u) (X := X) (sz := H.size) _ a3 z1 S  hw) (cwV 1 hts gX5_keyAtCursor_X4_layerAt rfl rfl rfl (by decide +kernel) ⟨Nat.le_of_ble_eq_true rfl, Nat.le_of_ble_eq_true rfl⟩) ⟨h_blind, (h_recv C0 hW (ci := 5) rfl h5), (h_pre C0 hW [.ref a3, .int z1])⟩ rfl rfl hl.1 rfl (lv_room (Nat.le_of_ble_eq_true rfl)) dX5_keyAtCursor_5 ⟨Nat.le_refl _, Nat.le_refl _⟩) (fun r4 S6 H locs h7 hW => ?_)
  obtain ⟨h8, hp⟩ := h7
  rw [h8] at hW
  replace hw := hp
  refine lv_astoreV_n (i := 2) (lv' := [(2, va_rf r4), (0, .ref t0), (1, .int z1)]) hx hb dX5_keyAtCursor_8 rfl hl (by decide) rfl (fun ls hl9 => ?_)
  replace hl := hl9
  refine lv_aloadV_n hx hb dX5_keyAtCursor_9 rfl (lv_at hl 0 rfl) ?_
  refine lv_ifnonnullV (tgt := 17) hx hb dX5_keyAtCursor_10 (by decide) (fun a10 c9 => ?_) (fun c9 => ?_)
  · subst c9
    replace hw := hw.2 a10 rfl
    refine lv_aload_n hx hb dX5_keyAtCursor_17 rfl (lv_at hl 0 rfl) ?_
    refine lv_aload_n hx hb dX5_keyAtCursor_18 rfl (lv_at hl 1 rfl) ?_
    obtain ⟨o11, h12, hw⟩ := hw
    refine h_getR C0 hW (T := TX5) (kf := 2) in_X5_keyAtCursor_RX5 h12 rfl (by decide) (List.mem_of_getElem? (i := 2) rfl) rfl dX5_keyAtCursor_19 ?_
    refine lv_iload_n hx hb dX5_keyAtCursor_22 rfl (lv_at hl 2 rfl) ?_
    obtain ⟨a13, rfl, hw⟩ := hw
    obtain ⟨N14, g15, h16, h17, hw⟩ := hw
    refine h_iald C0 hW h16 rfl h17 dX5_keyAtCursor_23 ?_
    obtain ⟨h19, hw⟩ := hw
    refine h_goq C0 hW (va_runV (As := [.int (g15 (z1 : Int32).toNatClampNeg)]) (rest := []) ⟨hx, hb, hml, ho, hts⟩ (k_X3_keyAt (l := l) (u := u) (X := X) (sz := H.size) _ a10 (g15 (z1 : Int32).toNatClampNeg) S  hw) (cwV 1 hts gX5_keyAtCursor_X3_keyAt rfl rfl rfl (by decide +kernel) ⟨Nat.le_of_ble_eq_true rfl, Nat.le_of_ble_eq_true rfl⟩) ⟨h_blind, (h_recv C0 hW (ci := 4) rfl h19), (h_pre C0 hW [.ref a10, .int (g15 (z1 : Int32).toNatClampNeg)])⟩ rfl rfl hl.1 rfl (lv_room (Nat.le_of_ble_eq_true rfl)) dX5_keyAtCursor_24 ⟨Nat.le_refl _, Nat.le_refl _⟩) (fun r18 S20 H locs h21 hW => ?_)
    obtain ⟨h22, hp⟩ := h21
    rw [h22] at hW
    replace hw := hp
    exact hret r18 S _ _ 0 0 (Nat.le_refl _) (Nat.le_refl _) ⟨rfl, hw⟩ dX5_keyAtCursor_27 _ _ _ hW hl
  · subst c9
    replace hw := hw.1 rfl
    refine lv_null hx hb dX5_keyAtCursor_13 ?_
    refine lv_goto (tgt := 27) hx hb dX5_keyAtCursor_14 (by decide) ?_
    exact hret none S _ _ 0 0 (Nat.le_refl _) (Nat.le_refl _) ⟨rfl, hw⟩ dX5_keyAtCursor_27 _ _ _ hW hl
set_option maxHeartbeats 4000000 in
set_option maxRecDepth 100000 in
theorem k_X5_keyAtCursor {l : Launch} {D : va_G} {u : hU} {X : va_W} {sz : Nat} (post : Option Nat → Prop) (t0 : Nat) (z1 : Int32) (S : hS) (hw : w_X5_keyAtCursor u post t0 z1 S) : hMq l yX5_keyAtCursor wsX5_keyAtCursor rm_X5_keyAtCursor D (gt u.2.1) u.1 u.2.2 sz X S [.ref t0, .int z1] (fun r S' => S' = S ∧ post r) 0 0 := by
  refine hMq_of (cc := cX5_keyAtCursor) (nL := 3) (ty := (.object "java/lang/String")) (own := RX5) (by decide) rfl rfl (Nat.le_of_ble_eq_true rfl) (Or.inl ⟨_, rfl⟩) ?_
  intro p e s m args below meth c A Q C0 hin hret
  exact t_X5_keyAtCursor_0 C0 t0 post hret z1 hw
abbrev rm_X5_stepOver : Room := { frames := 4, cells := 0, slots := 0, locals := 86 }
theorem in_X5_stepOver_RX5 : ∀ w ∈ wsX50, w ∈ wsX5_stepOver := fun w hw9 => List.mem_cons_of_mem _ (List.mem_append_left _ (List.mem_append_left _ (List.mem_append_left _ (List.mem_append_left _ (List.mem_append_right _ hw9)))))
set_option maxHeartbeats 4000000 in
set_option maxRecDepth 100000 in
theorem t_X5_stepOver_2 (C0 : hX p s m args c cX5_stepOver 4 RX5 wsX5_stepOver D (gt u.2.1) A u.1 u.2.2) (t0 : Nat) (post : hS → Prop) (hret : ∀ (S' : hS) (pc : Nat) (lv : List (Nat × Value)) (k n : Nat), k ≤ 0 → n ≤ 0 → post S' → decode cX5_stepOver pc = .ok (.return_, 1) → gG p l e (rm_X5_stepOver) s m args below meth c Q D A 4 k n (hC X S') pc lv [])  : ∀ (nf : Nat) (x1 : Option Nat) (x2 : Int32) (S : hS), w_X5_stepOver_2 u post t0  nf x1 x2 S → gG p l e (rm_X5_stepOver) s m args below meth c Q D A 4 0 0 (hC X S) 2 [(0, .ref t0), (1, va_rf x1), (2, .int x2)] [] := by
  obtain ⟨⟨hx, hb, hml, ho, hts, hK, hA⟩, hR⟩ := id C0
  intro nf
  induction nf with
  | zero => intro x1 x2 S hw; exact hw.elim
  | succ nf ih =>
    intro x1 x2 S hw H locs ls hW hl
    rw [w_X5_stepOver_2] at hw
    refine lv_iload_n hx hb dX5_stepOver_2 rfl (lv_at hl 2 rfl) ?_
    refine lv_aload_n hx hb dX5_stepOver_3 rfl (lv_at hl 0 rfl) ?_
    obtain ⟨v2, h3, hw⟩ := hw
    refine h_getI C0 hW (T := TX5) (kf := 1) in_X5_stepOver_RX5 h3 rfl (by decide) (List.mem_of_getElem? (i := 1) rfl) rfl dX5_stepOver_4 ?_
    refine lv_icmp_gt (tgt := 44) hx hb dX5_stepOver_7 (by decide) (fun c4 => ?_) (fun c4 => ?_)
    · replace hw := hw.1 c4
      exact hret S _ _ 0 0 (Nat.le_refl _) (Nat.le_refl _) hw dX5_stepOver_44 _ _ _ hW hl
    · replace hw := hw.2 c4
      refine lv_aload_n hx hb dX5_stepOver_10 rfl (lv_at hl 0 rfl) ?_
      refine lv_iload_n hx hb dX5_stepOver_11 rfl (lv_at hl 2 rfl) ?_
      obtain ⟨h6, hw⟩ := hw
      refine h_goq C0 hW (va_runV (As := [.int x2]) (rest := []) ⟨hx, hb, hml, ho, hts⟩ (k_X5_keyAtCursor (l := l) (u := u) (X := X) (sz := H.size) _ t0 x2 S  hw) (cwV 1 hts gX5_stepOver_X5_keyAtCursor rfl rfl rfl (by decide +kernel) ⟨Nat.le_of_ble_eq_true rfl, Nat.le_of_ble_eq_true rfl⟩) ⟨h_blind, (h_recv C0 hW (ci := 6) rfl h6), (h_pre C0 hW [.ref t0, .int x2])⟩ rfl rfl hl.1 rfl (lv_room (Nat.le_of_ble_eq_true rfl)) dX5_stepOver_12 ⟨Nat.le_refl _, Nat.le_refl _⟩) (fun r5 S7 H locs h8 hW => ?_)
      obtain ⟨h9, hp⟩ := h8
      rw [h9] at hW
      replace hw := hp
      refine lv_astoreV_n (i := 3) (lv' := [(3, va_rf r5), (0, .ref t0), (1, va_rf x1), (2, .int x2)]) hx hb dX5_stepOver_15 rfl hl (by decide) rfl (fun ls hl9 => ?_)
      replace hl := hl9
      refine lv_aloadV_n hx hb dX5_stepOver_16 rfl (lv_at hl 0 rfl) ?_
      refine lv_ifnullV (tgt := 38) hx hb dX5_stepOver_17 (by decide) (fun c10 => ?_) (fun a11 c10 => ?_)
      · subst c10
        replace hw := hw.1 rfl
        obtain ⟨v12, ev12⟩ : ∃ y : Int32, y = x2 + 1 := ⟨_, rfl⟩
        replace hw := hw v12 ev12
        refine lv_iinc (v := v12) (lv' := [(2, .int v12), (3, .null), (0, .ref t0), (1, va_rf x1)]) hx hb dX5_stepOver_38 hl (k := 3) rfl (by rw [ev12]; rfl) (by decide) (by show (2, .int v12) :: List.filter (fun q : Nat × Value => !(q.1 == 2) && !(q.1 + 1 == 2 && q.2.category == 2)) [(3, .null), (0, .ref t0), (1, va_rf x1), (2, .int x2)] = [(2, .int v12), (3, .null), (0, .ref t0), (1, va_rf x1)]; simp [va_rf_cat, va_c_ref, va_c_int, va_c_null]) (fun ls hl9 => ?_)
        replace hl := hl9
        refine lv_goto (tgt := 2) hx hb dX5_stepOver_41 (by decide) ?_
        exact ih x1 v12 S  hw _ _ _ hW (lv_sub hl [2, 3, 0] rfl)
      · subst c10
        replace hw := hw.2 a11 rfl
        refine lv_aload_n hx hb dX5_stepOver_20 rfl (lv_at hl 0 rfl) ?_
        refine lv_aloadV_n hx hb dX5_stepOver_21 rfl (lv_at hl 2 rfl) ?_
        obtain ⟨h14, hw⟩ := hw
        refine h_goi C0 hW (va_runV (As := [va_rf x1]) (rest := []) ⟨hx, hb, hml, ho, hts⟩ (k_J0_equals_9e (l := l) (u := u) (X := X) (sz := H.size) _ a11 x1 S  hw) (cwV 1 hts gX5_stepOver_J0_equals_9ea2d rfl rfl rfl (by decide +kernel) ⟨Nat.le_of_ble_eq_true rfl, Nat.le_of_ble_eq_true rfl⟩) ⟨h_blind, (h_recvS C0 hW h14), (h_pre C0 hW [.ref a11, va_rf x1])⟩ rfl rfl hl.1 rfl (lv_room (Nat.le_of_ble_eq_true rfl)) dX5_stepOver_22 ⟨Nat.le_refl _, Nat.le_refl _⟩) (fun r13 S15 H locs h16 hW => ?_)
        obtain ⟨h17, hp⟩ := h16
        rw [h17] at hW
        replace hw := hp
        refine lv_if_eq (tgt := 38) hx hb dX5_stepOver_25 (by decide) (fun c18 => ?_) (fun c18 => ?_)
        · replace hw := hw.1 c18
          obtain ⟨v19, ev19⟩ : ∃ y : Int32, y = x2 + 1 := ⟨_, rfl⟩
          replace hw := hw v19 ev19
          refine lv_iinc (v := v19) (lv' := [(2, .int v19), (3, .ref a11), (0, .ref t0), (1, va_rf x1)]) hx hb dX5_stepOver_38 hl (k := 3) rfl (by rw [ev19]; rfl) (by decide) (by show (2, .int v19) :: List.filter (fun q : Nat × Value => !(q.1 == 2) && !(q.1 + 1 == 2 && q.2.category == 2)) [(3, .ref a11), (0, .ref t0), (1, va_rf x1), (2, .int x2)] = [(2, .int v19), (3, .ref a11), (0, .ref t0), (1, va_rf x1)]; simp [va_rf_cat, va_c_ref, va_c_int, va_c_null]) (fun ls hl9 => ?_)
          replace hl := hl9
          refine lv_goto (tgt := 2) hx hb dX5_stepOver_41 (by decide) ?_
          exact ih x1 v19 S  hw _ _ _ hW (lv_sub hl [2, 3, 0] rfl)
        · replace hw := hw.2 c18
          refine lv_aload_n hx hb dX5_stepOver_28 rfl (lv_at hl 1 rfl) ?_
          obtain ⟨o20, h21, hw⟩ := hw
          refine h_getR C0 hW (T := TX5) (kf := 2) in_X5_stepOver_RX5 h21 rfl (by decide) (List.mem_of_getElem? (i := 2) rfl) rfl dX5_stepOver_29 ?_
          refine lv_iload_n hx hb dX5_stepOver_32 rfl (lv_at hl 3 rfl) ?_
          refine lv_dup2_11 hx hb dX5_stepOver_33 rfl (va_rf_cat _) ?_
          obtain ⟨a22, rfl, hw⟩ := hw
          obtain ⟨N23, g24, h25, h26, hw⟩ := hw
          refine h_iald C0 hW h25 rfl h26 dX5_stepOver_34 ?_
          refine lv_iconst (v := 1) hx hb dX5_stepOver_35 (by decide) ?_
          refine lv_iadd hx hb dX5_stepOver_36 ?_
          obtain ⟨N27, g28, h29, h30, hw⟩ := hw
          refine h_iast C0 hW h29 rfl h30 dX5_stepOver_37 (fun H locs hW => ?_)
          obtain ⟨S31, eS31⟩ : ∃ z : hS, z = upS S a22 (.inl (u.2.1 0, N27, .inl (upd g28 (x2 : Int32).toNatClampNeg ((g24 (x2 : Int32).toNatClampNeg) + 1)))) := ⟨_, rfl⟩
          rw [← eS31] at hW
          replace hw := hw S31 eS31
          obtain ⟨v32, ev32⟩ : ∃ y : Int32, y = x2 + 1 := ⟨_, rfl⟩
          replace hw := hw v32 ev32
          refine lv_iinc (v := v32) (lv' := [(2, .int v32), (3, .ref a11), (0, .ref t0), (1, va_rf x1)]) hx hb dX5_stepOver_38 hl (k := 3) rfl (by rw [ev32]; rfl) (by decide) (by show (2, .int v32) :: List.filter (fun q : Nat × Value => !(q.1 == 2) && !(q.1 + 1 == 2 && q.2.category == 2)) [(3, .ref a11), (0, .ref t0), (1, va_rf x1), (2, .int x2)] = [(2, .int v32), (3, .ref a11), (0, .ref t0), (1, va_rf x1)]; simp [va_rf_cat, va_c_ref, va_c_int, va_c_null]) (fun ls hl9 => ?_)
          replace hl := hl9
          refine lv_goto (tgt := 2) hx hb dX5_stepOver_41 (by decide) ?_
          exact ih x1 v32 S31  hw _ _ _ hW (lv_sub hl [2, 3, 0] rfl)
set_option maxHeartbeats 4000000 in
set_option maxRecDepth 100000 in
theorem t_X5_stepOver_0 (C0 : hX p s m args c cX5_stepOver 4 RX5 wsX5_stepOver D (gt u.2.1) A u.1 u.2.2) (t0 : Nat) (post : hS → Prop) (hret : ∀ (S' : hS) (pc : Nat) (lv : List (Nat × Value)) (k n : Nat), k ≤ 0 → n ≤ 0 → post S' → decode cX5_stepOver pc = .ok (.return_, 1) → gG p l e (rm_X5_stepOver) s m args below meth c Q D A 4 k n (hC X S') pc lv [])  : ∀ (p1 : Option Nat) (S : hS), w_X5_stepOver u post t0  p1 S → gG p l e (rm_X5_stepOver) s m args below meth c Q D A 4 0 0 (hC X S) 0 [(0, .ref t0), (1, va_rf p1)] [] := by
  obtain ⟨⟨hx, hb, hml, ho, hts, hK, hA⟩, hR⟩ := id C0
  intro p1 S hw H locs ls hW hl
  rw [w_X5_stepOver] at hw
  refine lv_iconst (v := 0) hx hb dX5_stepOver_0 (by decide) ?_
  refine lv_istore_n (lv' := [(2, .int 0), (0, .ref t0), (1, va_rf p1)]) hx hb dX5_stepOver_1 rfl hl (by decide) (by show (2, .int 0) :: List.filter (fun q : Nat × Value => !(q.1 == 2) && !(q.1 + 1 == 2 && q.2.category == 2)) [(0, .ref t0), (1, va_rf p1)] = [(2, .int 0), (0, .ref t0), (1, va_rf p1)]; simp [va_rf_cat, va_c_ref, va_c_int, va_c_null]) (fun ls hl9 => ?_)
  replace hl := hl9
  obtain ⟨n1, hw⟩ := hw
  exact t_X5_stepOver_2 C0 t0 post hret  n1 p1 0 S  hw _ _ _ hW (lv_sub hl [1, 2, 0] rfl)
set_option maxHeartbeats 4000000 in
set_option maxRecDepth 100000 in
theorem k_X5_stepOver {l : Launch} {D : va_G} {u : hU} {X : va_W} {sz : Nat} (post : hS → Prop) (t0 : Nat) (p1 : Option Nat) (S : hS) (hw : w_X5_stepOver u post t0 p1 S) : hMv l yX5_stepOver wsX5_stepOver rm_X5_stepOver D (gt u.2.1) u.1 u.2.2 sz X S [.ref t0, va_rf p1] post 0 0 := by
  refine hMv_of (cc := cX5_stepOver) (nL := 4) (own := RX5) (by decide) rfl rfl (by cases p1 <;> exact Nat.le_of_ble_eq_true rfl) ?_
  intro p e s m args below meth c A Q C0 hin hret
  have hfin := t_X5_stepOver_0 C0 t0 post hret p1 S hw
  intro H locs ls hW hl
  refine hfin H locs ls hW ?_
  cases p1 <;> exact hl
abbrev rm_X5_nextName : Room := { frames := 5, cells := 0, slots := 0, locals := 109 }
theorem in_X5_nextName_RX5 : ∀ w ∈ wsX50, w ∈ wsX5_nextName := fun w hw9 => List.mem_cons_of_mem _ (List.mem_append_left _ (List.mem_append_left _ (List.mem_append_left _ (List.mem_append_left _ (List.mem_append_right _ hw9)))))
set_option maxHeartbeats 4000000 in
set_option maxRecDepth 100000 in
theorem t_X5_nextName_4 (C0 : hX p s m args c cX5_nextName 4 RX5 wsX5_nextName D (gt u.2.1) A u.1 u.2.2) (t0 : Nat) (post : Option Nat → hS → Prop) (hret : ∀ (r : Option Nat) (S' : hS) (pc : Nat) (lv : List (Nat × Value)) (k n : Nat), k ≤ 0 → n ≤ 0 → post r S' → decode cX5_nextName pc = .ok (.areturn, 1) → gG p l e (rm_X5_nextName) s m args below meth c Q D A 4 k n (hC X S') pc lv [va_rf r])  : ∀ (nf : Nat) (x1 : Option Nat) (x2 : Int32) (S : hS), w_X5_nextName_4 u post t0  nf x1 x2 S → gG p l e (rm_X5_nextName) s m args below meth c Q D A 4 0 0 (hC X S) 4 [(0, .ref t0), (1, va_rf x1), (2, .int x2)] [] := by
  obtain ⟨⟨hx, hb, hml, ho, hts, hK, hA⟩, hR⟩ := id C0
  intro nf
  induction nf with
  | zero => intro x1 x2 S hw; exact hw.elim
  | succ nf ih =>
    intro x1 x2 S hw H locs ls hW hl
    rw [w_X5_nextName_4] at hw
    refine lv_iload_n hx hb dX5_nextName_4 rfl (lv_at hl 2 rfl) ?_
    refine lv_aload_n hx hb dX5_nextName_5 rfl (lv_at hl 0 rfl) ?_
    obtain ⟨v2, h3, hw⟩ := hw
    refine h_getI C0 hW (T := TX5) (kf := 1) in_X5_nextName_RX5 h3 rfl (by decide) (List.mem_of_getElem? (i := 1) rfl) rfl dX5_nextName_6 ?_
    refine lv_icmp_gt (tgt := 42) hx hb dX5_nextName_9 (by decide) (fun c4 => ?_) (fun c4 => ?_)
    · replace hw := hw.1 c4
      refine lv_aloadV_n hx hb dX5_nextName_42 rfl (lv_at hl 1 rfl) ?_
      refine lv_ifnullV (tgt := 51) hx hb dX5_nextName_43 (by decide) (fun c5 => ?_) (fun a6 c5 => ?_)
      · subst c5
        replace hw := hw.1 rfl
        refine lv_aload_nN hx hb dX5_nextName_51 rfl (lv_at hl 1 rfl) ?_
        exact hret none S _ _ 0 0 (Nat.le_refl _) (Nat.le_refl _) hw dX5_nextName_52 _ _ _ hW hl
      · subst c5
        replace hw := hw.2 a6 rfl
        refine lv_aload_n hx hb dX5_nextName_46 rfl (lv_at hl 0 rfl) ?_
        refine lv_aload_n hx hb dX5_nextName_47 rfl (lv_at hl 1 rfl) ?_
        obtain ⟨h8, hw⟩ := hw
        refine h_gov C0 hW (va_runV (As := [.ref a6]) (rest := []) ⟨hx, hb, hml, ho, hts⟩ (k_X5_stepOver (l := l) (u := u) (X := X) (sz := H.size) _ t0 (some a6) S  hw) (cwV 1 hts gX5_nextName_X5_stepOver rfl rfl rfl (by decide +kernel) ⟨Nat.le_of_ble_eq_true rfl, Nat.le_of_ble_eq_true rfl⟩) ⟨h_blind, (h_recv C0 hW (ci := 6) rfl h8), (h_pre C0 hW [.ref t0, .ref a6])⟩ rfl rfl hl.1 rfl (lv_room (Nat.le_of_ble_eq_true rfl)) dX5_nextName_48 ⟨Nat.le_refl _, Nat.le_refl _⟩) (fun S9 H locs h10 hW => ?_)
        replace hw := h10
        refine lv_aload_n hx hb dX5_nextName_51 rfl (lv_at hl 1 rfl) ?_
        exact hret (some a6) S9 _ _ 0 0 (Nat.le_refl _) (Nat.le_refl _) hw dX5_nextName_52 _ _ _ hW hl
    · replace hw := hw.2 c4
      refine lv_aload_n hx hb dX5_nextName_12 rfl (lv_at hl 0 rfl) ?_
      refine lv_iload_n hx hb dX5_nextName_13 rfl (lv_at hl 2 rfl) ?_
      obtain ⟨h12, hw⟩ := hw
      refine h_goq C0 hW (va_runV (As := [.int x2]) (rest := []) ⟨hx, hb, hml, ho, hts⟩ (k_X5_keyAtCursor (l := l) (u := u) (X := X) (sz := H.size) _ t0 x2 S  hw) (cwV 1 hts gX5_nextName_X5_keyAtCursor rfl rfl rfl (by decide +kernel) ⟨Nat.le_of_ble_eq_true rfl, Nat.le_of_ble_eq_true rfl⟩) ⟨h_blind, (h_recv C0 hW (ci := 6) rfl h12), (h_pre C0 hW [.ref t0, .int x2])⟩ rfl rfl hl.1 rfl (lv_room (Nat.le_of_ble_eq_true rfl)) dX5_nextName_14 ⟨Nat.le_refl _, Nat.le_refl _⟩) (fun r11 S13 H locs h14 hW => ?_)
      obtain ⟨h15, hp⟩ := h14
      rw [h15] at hW
      replace hw := hp
      refine lv_astoreV_n (i := 3) (lv' := [(3, va_rf r11), (0, .ref t0), (1, va_rf x1), (2, .int x2)]) hx hb dX5_nextName_17 rfl hl (by decide) rfl (fun ls hl9 => ?_)
      replace hl := hl9
      refine lv_aloadV_n hx hb dX5_nextName_18 rfl (lv_at hl 0 rfl) ?_
      refine lv_ifnullV (tgt := 36) hx hb dX5_nextName_19 (by decide) (fun c16 => ?_) (fun a17 c16 => ?_)
      · subst c16
        replace hw := hw.1 rfl
        obtain ⟨v18, ev18⟩ : ∃ y : Int32, y = x2 + 1 := ⟨_, rfl⟩
        replace hw := hw v18 ev18
        refine lv_iinc (v := v18) (lv' := [(2, .int v18), (3, .null), (0, .ref t0), (1, va_rf x1)]) hx hb dX5_nextName_36 hl (k := 3) rfl (by rw [ev18]; rfl) (by decide) (by show (2, .int v18) :: List.filter (fun q : Nat × Value => !(q.1 == 2) && !(q.1 + 1 == 2 && q.2.category == 2)) [(3, .null), (0, .ref t0), (1, va_rf x1), (2, .int x2)] = [(2, .int v18), (3, .null), (0, .ref t0), (1, va_rf x1)]; simp [va_rf_cat, va_c_ref, va_c_int, va_c_null]) (fun ls hl9 => ?_)
        replace hl := hl9
        refine lv_goto (tgt := 4) hx hb dX5_nextName_39 (by decide) ?_
        exact ih x1 v18 S  hw _ _ _ hW (lv_sub hl [2, 3, 0] rfl)
      · subst c16
        replace hw := hw.2 a17 rfl
        refine lv_aloadV_n hx hb dX5_nextName_22 rfl (lv_at hl 2 rfl) ?_
        refine lv_ifnullV (tgt := 34) hx hb dX5_nextName_23 (by decide) (fun c19 => ?_) (fun a20 c19 => ?_)
        · subst c19
          replace hw := hw.1 rfl
          refine lv_aload_n hx hb dX5_nextName_34 rfl (lv_at hl 0 rfl) ?_
          refine lv_astore_n (i := 1) (lv' := [(1, .ref a17), (3, .ref a17), (0, .ref t0), (2, .int x2)]) hx hb dX5_nextName_35 rfl hl (by decide) rfl (fun ls hl9 => ?_)
          replace hl := hl9
          obtain ⟨v21, ev21⟩ : ∃ y : Int32, y = x2 + 1 := ⟨_, rfl⟩
          replace hw := hw v21 ev21
          refine lv_iinc (v := v21) (lv' := [(2, .int v21), (1, .ref a17), (3, .ref a17), (0, .ref t0)]) hx hb dX5_nextName_36 hl (k := 3) rfl (by rw [ev21]; rfl) (by decide) rfl (fun ls hl9 => ?_)
          replace hl := hl9
          refine lv_goto (tgt := 4) hx hb dX5_nextName_39 (by decide) ?_
          exact ih (some a17) v21 S  hw _ _ _ hW (lv_sub hl [3, 1, 0] rfl)
        · subst c19
          replace hw := hw.2 a20 rfl
          refine lv_aload_n hx hb dX5_nextName_26 rfl (lv_at hl 0 rfl) ?_
          refine lv_aload_n hx hb dX5_nextName_27 rfl (lv_at hl 2 rfl) ?_
          refine h_goi C0 hW (va_runSN (As := [.ref a17, .ref a20]) (rest := []) (host := RX9) ⟨hx, hb, hml, ho, hts⟩ (k_X9_compareTexts (l := l) (u := u) (X := X) (sz := H.size) _ (some a17) (some a20) S  hw) ⟨va_cnB 2 hts gX5_nextName_X9_compareTexts_n33 rfl rfl rfl (C0.2.2.2.2 _ (by decide +kernel)) (hts _ (List.mem_of_getElem? (i := 16) rfl)) (by decide +kernel) ⟨Nat.le_of_ble_eq_true rfl, Nat.le_of_ble_eq_true rfl⟩, hts _ (List.mem_of_getElem? (i := 29) rfl), trivial⟩ ⟨h_blind, (h_pre C0 hW [.ref a17, .ref a20])⟩ rfl rfl hl.1 rfl (lv_room (Nat.le_of_ble_eq_true rfl)) dX5_nextName_28 ⟨Nat.le_refl _, Nat.le_refl _⟩) (fun r22 S23 H locs h24 hW => ?_)
          obtain ⟨h25, hp⟩ := h24
          rw [h25] at hW
          replace hw := hp
          refine lv_if_ge (tgt := 36) hx hb dX5_nextName_31 (by decide) (fun c26 => ?_) (fun c26 => ?_)
          · replace hw := hw.1 c26
            obtain ⟨v27, ev27⟩ : ∃ y : Int32, y = x2 + 1 := ⟨_, rfl⟩
            replace hw := hw v27 ev27
            refine lv_iinc (v := v27) (lv' := [(2, .int v27), (3, .ref a17), (0, .ref t0), (1, .ref a20)]) hx hb dX5_nextName_36 hl (k := 3) rfl (by rw [ev27]; rfl) (by decide) rfl (fun ls hl9 => ?_)
            replace hl := hl9
            refine lv_goto (tgt := 4) hx hb dX5_nextName_39 (by decide) ?_
            exact ih (some a20) v27 S  hw _ _ _ hW (lv_sub hl [2, 3, 0] rfl)
          · replace hw := hw.2 c26
            refine lv_aload_n hx hb dX5_nextName_34 rfl (lv_at hl 0 rfl) ?_
            refine lv_astore_n (i := 1) (lv' := [(1, .ref a17), (3, .ref a17), (0, .ref t0), (2, .int x2)]) hx hb dX5_nextName_35 rfl hl (by decide) rfl (fun ls hl9 => ?_)
            replace hl := hl9
            obtain ⟨v28, ev28⟩ : ∃ y : Int32, y = x2 + 1 := ⟨_, rfl⟩
            replace hw := hw v28 ev28
            refine lv_iinc (v := v28) (lv' := [(2, .int v28), (1, .ref a17), (3, .ref a17), (0, .ref t0)]) hx hb dX5_nextName_36 hl (k := 3) rfl (by rw [ev28]; rfl) (by decide) rfl (fun ls hl9 => ?_)
            replace hl := hl9
            refine lv_goto (tgt := 4) hx hb dX5_nextName_39 (by decide) ?_
            exact ih (some a17) v28 S  hw _ _ _ hW (lv_sub hl [3, 1, 0] rfl)
set_option maxHeartbeats 4000000 in
set_option maxRecDepth 100000 in
theorem t_X5_nextName_0 (C0 : hX p s m args c cX5_nextName 4 RX5 wsX5_nextName D (gt u.2.1) A u.1 u.2.2) (t0 : Nat) (post : Option Nat → hS → Prop) (hret : ∀ (r : Option Nat) (S' : hS) (pc : Nat) (lv : List (Nat × Value)) (k n : Nat), k ≤ 0 → n ≤ 0 → post r S' → decode cX5_nextName pc = .ok (.areturn, 1) → gG p l e (rm_X5_nextName) s m args below meth c Q D A 4 k n (hC X S') pc lv [va_rf r])  : ∀ (S : hS), w_X5_nextName u post t0   S → gG p l e (rm_X5_nextName) s m args below meth c Q D A 4 0 0 (hC X S) 0 [(0, .ref t0)] [] := by
  obtain ⟨⟨hx, hb, hml, ho, hts, hK, hA⟩, hR⟩ := id C0
  intro  S hw H locs ls hW hl
  rw [w_X5_nextName] at hw
  refine lv_null hx hb dX5_nextName_0 ?_
  refine lv_astore_nN (i := 1) (lv' := [(1, .null), (0, .ref t0)]) hx hb dX5_nextName_1 rfl hl (by decide) rfl (fun ls hl9 => ?_)
  replace hl := hl9
  refine lv_iconst (v := 0) hx hb dX5_nextName_2 (by decide) ?_
  refine lv_istore_n (lv' := [(2, .int 0), (1, .null), (0, .ref t0)]) hx hb dX5_nextName_3 rfl hl (by decide) rfl (fun ls hl9 => ?_)
  replace hl := hl9
  obtain ⟨n1, hw⟩ := hw
  exact t_X5_nextName_4 C0 t0 post hret  n1 none 0 S  hw _ _ _ hW (lv_sub hl [2, 1, 0] rfl)
set_option maxHeartbeats 4000000 in
set_option maxRecDepth 100000 in
theorem k_X5_nextName {l : Launch} {D : va_G} {u : hU} {X : va_W} {sz : Nat} (post : Option Nat → hS → Prop) (t0 : Nat) (S : hS) (hw : w_X5_nextName u post t0  S) : hMq l yX5_nextName wsX5_nextName rm_X5_nextName D (gt u.2.1) u.1 u.2.2 sz X S [.ref t0] post 0 0 := by
  refine hMq_of (cc := cX5_nextName) (nL := 4) (ty := (.object "java/lang/String")) (own := RX5) (by decide) rfl rfl (Nat.le_of_ble_eq_true rfl) (Or.inl ⟨_, rfl⟩) ?_
  intro p e s m args below meth c A Q C0 hin hret
  exact t_X5_nextName_0 C0 t0 post hret  S hw
abbrev rm_X6_init : Room := { frames := 1, cells := 0, slots := 0, locals := 12 }
set_option maxHeartbeats 4000000 in
set_option maxRecDepth 100000 in
theorem t_X6_init_0 (C0 : hX p s m args c cX6_init 1 RX6 wsX6_init D (gt u.2.1) A u.1 u.2.2) {S : hS} (hin : yX6_init.name = "<init>" → meth.name = "<init>") (t0 : Nat) (post : Prop) (hret : ∀ (S' : hS) (pc : Nat) (lv : List (Nat × Value)) (k n : Nat), k ≤ 0 → n ≤ 0 → (S' = S ∧ post) → decode cX6_init pc = .ok (.return_, 1) → gG p l e (rm_X6_init) s m args below meth c Q D A 1 k n (hC X S') pc lv [])  : w_X6_init u post t0   S → gG p l e (rm_X6_init) s m args below meth c Q D A 1 0 0 (hC X S) 0 [(0, .ref t0)] [] := by
  obtain ⟨⟨hx, hb, hml, ho, hts, hK, hA⟩, hR⟩ := id C0
  intro  hw H locs ls hW hl
  rw [w_X6_init] at hw
  refine lv_aload_n hx hb dX6_init_0 rfl (lv_at hl 0 rfl) ?_
  refine W.objInit hx hb ho (hts (.methodLink RX6 1 objectInit) (List.mem_of_getElem? (i := 1) rfl)) (hts (.instanceMethod objectInit) (List.mem_of_getElem? (i := 2) rfl)) (hts (.code objectInit ⟨#[0xb1]⟩ 1 none) (List.mem_of_getElem? (i := 3) rfl)) rfl (by rw [hml]; exact hl.1) rfl dX6_init_1 (Nat.le_of_ble_eq_true rfl) (Nat.le_of_ble_eq_true rfl) ?_
  refine W.eq (g2 := F0 m 4 ls []) rfl ?_
  exact hret S _ _ 0 0 (Nat.le_refl _) (Nat.le_refl _) ⟨rfl, hw⟩ dX6_init_4 _ _ _ hW hl
set_option maxHeartbeats 4000000 in
set_option maxRecDepth 100000 in
theorem k_X6_init {l : Launch} {D : va_G} {u : hU} {X : va_W} {sz : Nat} (post : Prop) (t0 : Nat) (S : hS) (hw : w_X6_init u post t0  S) : hMv l yX6_init wsX6_init rm_X6_init D (gt u.2.1) u.1 u.2.2 sz X S [.ref t0] (fun S' => S' = S ∧ post) 0 0 := by
  refine hMv_of (cc := cX6_init) (nL := 1) (own := RX6) (by decide) rfl rfl (Nat.le_of_ble_eq_true rfl) ?_
  intro p e s m args below meth c A Q C0 hin hret
  exact t_X6_init_0 C0 hin t0 post hret  hw
abbrev rm_X7_init (MC MS : Nat) : Room := { frames := 3, cells := MC, slots := MS, locals := 53 }
theorem in_X7_init_RJ4 : ∀ w ∈ wsJ40, w ∈ wsX7_init := fun w hw9 => List.mem_cons_of_mem _ (List.mem_append_left _ (List.mem_append_right _ hw9))
theorem in_X7_init_RX7 : ∀ w ∈ wsX70, w ∈ wsX7_init := fun w hw9 => List.mem_cons_of_mem _ (List.mem_append_right _ hw9)
set_option maxHeartbeats 4000000 in
set_option maxRecDepth 100000 in
theorem t_X7_init_0 (C0 : hX p s m args c cX7_init 1 RX7 wsX7_init D (gt u.2.1) A u.1 u.2.2) (hin : yX7_init.name = "<init>" → meth.name = "<init>") (t0 : Nat) (post : hS → Prop) (hret : ∀ (S' : hS) (pc : Nat) (lv : List (Nat × Value)) (k n : Nat), k ≤ MC → n ≤ MS → post S' → decode cX7_init pc = .ok (.return_, 1) → gG p l e (rm_X7_init MC MS) s m args below meth c Q D A 1 k n (hC X S') pc lv [])  : ∀ (S : hS) (mc ms k n : Nat), k + mc ≤ MC ∧ n + ms ≤ MS → w_X7_init u post t0   S mc ms → gG p l e (rm_X7_init MC MS) s m args below meth c Q D A 1 k n (hC X S) 0 [(0, .ref t0)] [] := by
  obtain ⟨⟨hx, hb, hml, ho, hts, hK, hA⟩, hR⟩ := id C0
  intro  S mc ms k n hkn hw H locs ls hW hl
  rw [w_X7_init] at hw
  refine lv_aload_n hx hb dX7_init_0 rfl (lv_at hl 0 rfl) ?_
  refine W.objInit hx hb ho (hts (.methodLink RX7 3 objectInit) (List.mem_of_getElem? (i := 1) rfl)) (hts (.instanceMethod objectInit) (List.mem_of_getElem? (i := 2) rfl)) (hts (.code objectInit ⟨#[0xb1]⟩ 1 none) (List.mem_of_getElem? (i := 3) rfl)) rfl (by rw [hml]; exact hl.1) rfl dX7_init_1 (Nat.le_of_ble_eq_true rfl) (Nat.le_of_ble_eq_true rfl) ?_
  refine W.eq (g2 := F0 m 4 ls []) rfl ?_
  refine lv_aload_n hx hb dX7_init_4 rfl (lv_at hl 0 rfl) ?_
  obtain ⟨h4, h5, hw⟩ := hw
  refine h_new C0 hW (ci := 1) (fs := [.null, .int 0, .int 0, .int 0]) in_X7_init_RJ4 rfl tyJ4 tyJ4_ok (List.mem_of_getElem? (i := 4) rfl) (List.mem_of_getElem? (i := 5) rfl) (List.mem_of_getElem? (i := 6) rfl) (fun j hj => by rcases (show j = 0 ∨ j = 1 ∨ j = 2 ∨ j = 3 by omega) with rfl | rfl | rfl | rfl <;> rfl) (by show _ ≤ MC; omega) (by show _ ≤ MS; omega) dX7_init_5 (fun q1 H h2 hW => ?_)
  obtain ⟨S3, eS3⟩ : ∃ z : hS, z = adS S q1 (.inr (1, [.null, .int 0, .int 0, .int 0])) := ⟨_, rfl⟩
  rw [← eS3] at hW
  replace hw := hw q1 S3 h2 eS3
  have hkn : (k + 1) + (mc - 1) ≤ MC ∧ (n + 4) + (ms - 4) ≤ MS := by omega
  refine lv_dup hx hb dX7_init_8 rfl ?_
  obtain ⟨k7, n8, h9, h10, hw⟩ := hw
  refine h_gov C0 hW (va_runI (As := []) (rest := [.ref q1, .ref t0]) ⟨hx, hb, hml, ho, hts⟩ (k_J4_init_da (l := l) (u := u) (X := X) (sz := H.size) _ q1  S3 k7 n8 hw) (cwI 0 hts gX7_init_J4_init_da8c8 rfl rfl rfl (hts _ (List.mem_of_getElem? (i := 6) rfl)) (hts _ (List.mem_of_getElem? (i := 11) rfl)) (hts _ (List.mem_of_getElem? (i := 12) rfl)) rfl (by decide +kernel) ⟨Nat.le_of_ble_eq_true rfl, Nat.le_of_ble_eq_true rfl⟩) ⟨h_blind, (h_pre C0 hW [.ref q1])⟩ rfl rfl hl.1 rfl (lv_room (Nat.le_of_ble_eq_true rfl)) dX7_init_9 ⟨by show _ ≤ MC; omega, by show _ ≤ MS; omega⟩) (fun S11 H locs h12 hW => ?_)
  replace hw := h12
  have hkn : ((k + 1) + k7) + ((mc - 1) - k7) ≤ MC ∧ ((n + 4) + n8) + ((ms - 4) - n8) ≤ MS := by omega
  obtain ⟨fs13, h14, h15, hw⟩ := hw
  refine h_put C0 hW (T := TX7) (kf := 0) (ty := .object "java/lang/StringBuilder") in_X7_init_RX7 h14 rfl (by decide) h15 tyX7 tyX7_ok nmX7 (List.mem_of_getElem? (i := 7) rfl) rfl (Or.inr ⟨rfl, hin rfl, rfl⟩) (by decide +kernel) rfl rfl dX7_init_12 rfl (fun H locs hW => ?_)
  obtain ⟨S16, eS16⟩ : ∃ z : hS, z = upS S11 t0 (.inr (8, fs13.set 0 (.ref q1))) := ⟨_, rfl⟩
  rw [← eS16] at hW
  replace hw := hw S16 eS16
  refine lv_aload_n hx hb dX7_init_15 rfl (lv_at hl 0 rfl) ?_
  refine lv_sipush (v := 300) hx hb dX7_init_16 (by decide) ?_
  obtain ⟨N24, h25, h23, h20, h21, hw⟩ := hw
  refine h_newI C0 hW rfl (List.mem_of_getElem? (i := 8) rfl) (N := N24) (by rw [h25]; exact nI_pos (by omega)) (by rw [h25]; exact nI_clamp (by omega)) h23 (by show _ ≤ MC; omega) (by show _ ≤ MS; omega) dX7_init_19 (fun q17 H h18 hW => ?_)
  obtain ⟨S19, eS19⟩ : ∃ z : hS, z = adS S16 q17 (.inl (u.2.1 0, N24, .inl (fun _ => 0))) := ⟨_, rfl⟩
  rw [← eS19] at hW
  replace hw := hw q17 S19 h18 eS19
  have hkn : (((k + 1) + k7) + 1) + (((mc - 1) - k7) - 1) ≤ MC ∧ (((n + 4) + n8) + N24) + (((ms - 4) - n8) - N24) ≤ MS := by omega
  obtain ⟨fs26, h27, h28, hw⟩ := hw
  refine h_put C0 hW (T := TX7) (kf := 1) (ty := .array (.int)) in_X7_init_RX7 h27 rfl (by decide) h28 tyX7 tyX7_ok nmX7 (List.mem_of_getElem? (i := 9) rfl) rfl (Or.inr ⟨rfl, hin rfl, rfl⟩) (by decide +kernel) rfl rfl dX7_init_21 rfl (fun H locs hW => ?_)
  obtain ⟨S29, eS29⟩ : ∃ z : hS, z = upS S19 t0 (.inr (8, fs26.set 1 (.ref q17))) := ⟨_, rfl⟩
  rw [← eS29] at hW
  replace hw := hw S29 eS29
  refine lv_aload_n hx hb dX7_init_24 rfl (lv_at hl 0 rfl) ?_
  obtain ⟨h33, h34, hw⟩ := hw
  refine h_new C0 hW (ci := 1) (fs := [.null, .int 0, .int 0, .int 0]) in_X7_init_RJ4 rfl tyJ4 tyJ4_ok (List.mem_of_getElem? (i := 4) rfl) (List.mem_of_getElem? (i := 5) rfl) (List.mem_of_getElem? (i := 6) rfl) (fun j hj => by rcases (show j = 0 ∨ j = 1 ∨ j = 2 ∨ j = 3 by omega) with rfl | rfl | rfl | rfl <;> rfl) (by show _ ≤ MC; omega) (by show _ ≤ MS; omega) dX7_init_25 (fun q30 H h31 hW => ?_)
  obtain ⟨S32, eS32⟩ : ∃ z : hS, z = adS S29 q30 (.inr (1, [.null, .int 0, .int 0, .int 0])) := ⟨_, rfl⟩
  rw [← eS32] at hW
  replace hw := hw q30 S32 h31 eS32
  have hkn : ((((k + 1) + k7) + 1) + 1) + ((((mc - 1) - k7) - 1) - 1) ≤ MC ∧ ((((n + 4) + n8) + N24) + 4) + ((((ms - 4) - n8) - N24) - 4) ≤ MS := by omega
  refine lv_dup hx hb dX7_init_28 rfl ?_
  obtain ⟨k36, n37, h38, h39, hw⟩ := hw
  refine h_gov C0 hW (va_runI (As := []) (rest := [.ref q30, .ref t0]) ⟨hx, hb, hml, ho, hts⟩ (k_J4_init_da (l := l) (u := u) (X := X) (sz := H.size) _ q30  S32 k36 n37 hw) (cwI 0 hts gX7_init_J4_init_da8c8 rfl rfl rfl (hts _ (List.mem_of_getElem? (i := 6) rfl)) (hts _ (List.mem_of_getElem? (i := 11) rfl)) (hts _ (List.mem_of_getElem? (i := 12) rfl)) rfl (by decide +kernel) ⟨Nat.le_of_ble_eq_true rfl, Nat.le_of_ble_eq_true rfl⟩) ⟨h_blind, (h_pre C0 hW [.ref q30])⟩ rfl rfl hl.1 rfl (lv_room (Nat.le_of_ble_eq_true rfl)) dX7_init_29 ⟨by show _ ≤ MC; omega, by show _ ≤ MS; omega⟩) (fun S40 H locs h41 hW => ?_)
  replace hw := h41
  have hkn : (((((k + 1) + k7) + 1) + 1) + k36) + (((((mc - 1) - k7) - 1) - 1) - k36) ≤ MC ∧ (((((n + 4) + n8) + N24) + 4) + n37) + (((((ms - 4) - n8) - N24) - 4) - n37) ≤ MS := by omega
  obtain ⟨fs42, h43, h44, hw⟩ := hw
  refine h_put C0 hW (T := TX7) (kf := 2) (ty := .object "java/lang/StringBuilder") in_X7_init_RX7 h43 rfl (by decide) h44 tyX7 tyX7_ok nmX7 (List.mem_of_getElem? (i := 10) rfl) rfl (Or.inr ⟨rfl, hin rfl, rfl⟩) (by decide +kernel) rfl rfl dX7_init_32 rfl (fun H locs hW => ?_)
  obtain ⟨S45, eS45⟩ : ∃ z : hS, z = upS S40 t0 (.inr (8, fs42.set 2 (.ref q30))) := ⟨_, rfl⟩
  rw [← eS45] at hW
  replace hw := hw S45 eS45
  exact hret S45 _ _ _ _ (by omega) (by omega) hw dX7_init_35 _ _ _ hW hl
set_option maxHeartbeats 4000000 in
set_option maxRecDepth 100000 in
theorem k_X7_init {l : Launch} {D : va_G} {u : hU} {X : va_W} {sz : Nat} (post : hS → Prop) (t0 : Nat) (S : hS) (mc ms : Nat) (hw : w_X7_init u post t0  S mc ms) : hMv l yX7_init wsX7_init (rm_X7_init mc ms) D (gt u.2.1) u.1 u.2.2 sz X S [.ref t0] post mc ms := by
  refine hMv_of (cc := cX7_init) (nL := 1) (own := RX7) (by decide) rfl rfl (Nat.le_of_ble_eq_true rfl) ?_
  intro p e s m args below meth c A Q C0 hin hret
  exact t_X7_init_0 C0 hin t0 post hret  S mc ms 0 0 ⟨by omega, by omega⟩ hw
abbrev rm_X7_rewind : Room := { frames := 0, cells := 0, slots := 0, locals := 0 }
theorem in_X7_rewind_RX7 : ∀ w ∈ wsX70, w ∈ wsX7_rewind := fun w hw9 => List.mem_cons_of_mem _ (List.mem_append_right _ hw9)
set_option maxHeartbeats 4000000 in
set_option maxRecDepth 100000 in
theorem t_X7_rewind_0 (C0 : hX p s m args c cX7_rewind 1 RX7 wsX7_rewind D (gt u.2.1) A u.1 u.2.2) (t0 : Nat) (post : hS → Prop) (hret : ∀ (S' : hS) (pc : Nat) (lv : List (Nat × Value)) (k n : Nat), k ≤ 0 → n ≤ 0 → post S' → decode cX7_rewind pc = .ok (.return_, 1) → gG p l e (rm_X7_rewind) s m args below meth c Q D A 1 k n (hC X S') pc lv [])  : ∀ (S : hS), w_X7_rewind u post t0   S → gG p l e (rm_X7_rewind) s m args below meth c Q D A 1 0 0 (hC X S) 0 [(0, .ref t0)] [] := by
  obtain ⟨⟨hx, hb, hml, ho, hts, hK, hA⟩, hR⟩ := id C0
  intro  S hw H locs ls hW hl
  rw [w_X7_rewind] at hw
  refine lv_aload_n hx hb dX7_rewind_0 rfl (lv_at hl 0 rfl) ?_
  refine lv_iconst (v := 0) hx hb dX7_rewind_1 (by decide) ?_
  obtain ⟨fs1, h2, h3, hw⟩ := hw
  refine h_put C0 hW (T := TX7) (kf := 4) (ty := .int) in_X7_rewind_RX7 h2 rfl (by decide) h3 tyX7 tyX7_ok nmX7 (List.mem_of_getElem? (i := 1) rfl) rfl (Or.inl rfl) (by decide +kernel) rfl rfl dX7_rewind_2 rfl (fun H locs hW => ?_)
  obtain ⟨S4, eS4⟩ : ∃ z : hS, z = upS S t0 (.inr (8, fs1.set 4 (.int 0))) := ⟨_, rfl⟩
  rw [← eS4] at hW
  replace hw := hw S4 eS4
  refine lv_aload_n hx hb dX7_rewind_5 rfl (lv_at hl 0 rfl) ?_
  refine lv_iconst (v := 0) hx hb dX7_rewind_6 (by decide) ?_
  obtain ⟨fs5, h6, h7, hw⟩ := hw
  refine h_put C0 hW (T := TX7) (kf := 3) (ty := .int) in_X7_rewind_RX7 h6 rfl (by decide) h7 tyX7 tyX7_ok nmX7 (List.mem_of_getElem? (i := 2) rfl) rfl (Or.inl rfl) (by decide +kernel) rfl rfl dX7_rewind_7 rfl (fun H locs hW => ?_)
  obtain ⟨S8, eS8⟩ : ∃ z : hS, z = upS S4 t0 (.inr (8, fs5.set 3 (.int 0))) := ⟨_, rfl⟩
  rw [← eS8] at hW
  replace hw := hw S8 eS8
  exact hret S8 _ _ 0 0 (Nat.le_refl _) (Nat.le_refl _) hw dX7_rewind_10 _ _ _ hW hl
set_option maxHeartbeats 4000000 in
set_option maxRecDepth 100000 in
theorem k_X7_rewind {l : Launch} {D : va_G} {u : hU} {X : va_W} {sz : Nat} (post : hS → Prop) (t0 : Nat) (S : hS) (hw : w_X7_rewind u post t0  S) : hMv l yX7_rewind wsX7_rewind rm_X7_rewind D (gt u.2.1) u.1 u.2.2 sz X S [.ref t0] post 0 0 := by
  refine hMv_of (cc := cX7_rewind) (nL := 1) (own := RX7) (by decide) rfl rfl (Nat.le_of_ble_eq_true rfl) ?_
  intro p e s m args below meth c A Q C0 hin hret
  exact t_X7_rewind_0 C0 t0 post hret  S hw
abbrev rm_X7_tapeSign : Room := { frames := 4, cells := 0, slots := 0, locals := 88 }
theorem in_X7_tapeSign_RX7 : ∀ w ∈ wsX70, w ∈ wsX7_tapeSign := fun w hw9 => List.mem_cons_of_mem _ (List.mem_append_left _ (List.mem_append_right _ hw9))
set_option maxHeartbeats 4000000 in
set_option maxRecDepth 100000 in
theorem t_X7_tapeSign_0 (C0 : hX p s m args c cX7_tapeSign 2 RX7 wsX7_tapeSign D (gt u.2.1) A u.1 u.2.2) {S : hS} (t0 : Nat) (post : Int32 → Prop) (hret : ∀ (r : Int32) (S' : hS) (pc : Nat) (lv : List (Nat × Value)) (k n : Nat), k ≤ 0 → n ≤ 0 → (S' = S ∧ post r) → narrow .int (.int r) = .int r → decode cX7_tapeSign pc = .ok (.ireturn, 1) → gG p l e (rm_X7_tapeSign) s m args below meth c Q D A 2 k n (hC X S') pc lv [.int r])  : ∀ (z1 : Int32), w_X7_tapeSign u post t0  z1 S → gG p l e (rm_X7_tapeSign) s m args below meth c Q D A 2 0 0 (hC X S) 0 [(0, .ref t0), (1, .int z1)] [] := by
  obtain ⟨⟨hx, hb, hml, ho, hts, hK, hA⟩, hR⟩ := id C0
  intro z1 hw H locs ls hW hl
  rw [w_X7_tapeSign] at hw
  refine lv_iload_n hx hb dX7_tapeSign_0 rfl (lv_at hl 1 rfl) ?_
  refine lv_if_lt (tgt := 26) hx hb dX7_tapeSign_1 (by decide) (fun c1 => ?_) (fun c1 => ?_)
  · replace hw := hw.1 c1
    refine lv_iconst (v := (-1)) hx hb dX7_tapeSign_26 (by decide) ?_
    exact hret (-1) S _ _ 0 0 (Nat.le_refl _) (Nat.le_refl _) ⟨rfl, hw⟩ rfl dX7_tapeSign_27 _ _ _ hW hl
  · replace hw := hw.2 c1
    refine lv_iload_n hx hb dX7_tapeSign_4 rfl (lv_at hl 1 rfl) ?_
    refine lv_aload_n hx hb dX7_tapeSign_5 rfl (lv_at hl 0 rfl) ?_
    obtain ⟨o2, h3, hw⟩ := hw
    refine h_getR C0 hW (T := TX7) (kf := 0) in_X7_tapeSign_RX7 h3 rfl (by decide) (List.mem_of_getElem? (i := 1) rfl) rfl dX7_tapeSign_6 ?_
    obtain ⟨a4, rfl, hw⟩ := hw
    obtain ⟨h6, hw⟩ := hw
    refine h_goi C0 hW (va_runV (As := []) (rest := [.int z1]) ⟨hx, hb, hml, ho, hts⟩ (k_J4_length_8a (l := l) (u := u) (X := X) (sz := H.size) _ a4  S  hw) (cwV 0 hts gX7_tapeSign_J4_length_8abf5 rfl rfl rfl (by decide +kernel) ⟨Nat.le_of_ble_eq_true rfl, Nat.le_of_ble_eq_true rfl⟩) ⟨h_blind, (h_recv C0 hW (ci := 1) rfl h6), (h_pre C0 hW [.ref a4])⟩ rfl rfl hl.1 rfl (lv_room (Nat.le_of_ble_eq_true rfl)) dX7_tapeSign_9 ⟨Nat.le_refl _, Nat.le_refl _⟩) (fun r5 S7 H locs h8 hW => ?_)
    obtain ⟨h9, hp⟩ := h8
    rw [h9] at hW
    replace hw := hp
    refine lv_icmp_ge (tgt := 26) hx hb dX7_tapeSign_12 (by decide) (fun c10 => ?_) (fun c10 => ?_)
    · replace hw := hw.1 c10
      refine lv_iconst (v := (-1)) hx hb dX7_tapeSign_26 (by decide) ?_
      exact hret (-1) S _ _ 0 0 (Nat.le_refl _) (Nat.le_refl _) ⟨rfl, hw⟩ rfl dX7_tapeSign_27 _ _ _ hW hl
    · replace hw := hw.2 c10
      refine lv_aload_n hx hb dX7_tapeSign_15 rfl (lv_at hl 0 rfl) ?_
      obtain ⟨o11, h12, hw⟩ := hw
      refine h_getR C0 hW (T := TX7) (kf := 0) in_X7_tapeSign_RX7 h12 rfl (by decide) (List.mem_of_getElem? (i := 1) rfl) rfl dX7_tapeSign_16 ?_
      refine lv_iload_n hx hb dX7_tapeSign_19 rfl (lv_at hl 1 rfl) ?_
      obtain ⟨a13, rfl, hw⟩ := hw
      obtain ⟨h15, hw⟩ := hw
      refine h_goi C0 hW (va_runV (As := [.int z1]) (rest := []) ⟨hx, hb, hml, ho, hts⟩ (k_J4_charAt_50 (l := l) (u := u) (X := X) (sz := H.size) _ a13 z1 S  hw) (cwV 1 hts gX7_tapeSign_J4_charAt_5068e rfl rfl rfl (by decide +kernel) ⟨Nat.le_of_ble_eq_true rfl, Nat.le_of_ble_eq_true rfl⟩) ⟨h_blind, (h_recv C0 hW (ci := 1) rfl h15), (h_pre C0 hW [.ref a13, .int z1])⟩ rfl rfl hl.1 rfl (lv_room (Nat.le_of_ble_eq_true rfl)) dX7_tapeSign_20 ⟨Nat.le_refl _, Nat.le_refl _⟩) (fun r14 S16 H locs h17 hW => ?_)
      obtain ⟨h18, hp⟩ := h17
      rw [h18] at hW
      replace hw := hp
      refine lv_goto (tgt := 27) hx hb dX7_tapeSign_23 (by decide) ?_
      exact hret r14 S _ _ 0 0 (Nat.le_refl _) (Nat.le_refl _) ⟨rfl, hw⟩ rfl dX7_tapeSign_27 _ _ _ hW hl
set_option maxHeartbeats 4000000 in
set_option maxRecDepth 100000 in
theorem k_X7_tapeSign {l : Launch} {D : va_G} {u : hU} {X : va_W} {sz : Nat} (post : Int32 → Prop) (t0 : Nat) (z1 : Int32) (S : hS) (hw : w_X7_tapeSign u post t0 z1 S) : hMi l yX7_tapeSign wsX7_tapeSign rm_X7_tapeSign D (gt u.2.1) u.1 u.2.2 sz X S [.ref t0, .int z1] (fun r S' => S' = S ∧ post r) 0 0 := by
  refine hMi_of (cc := cX7_tapeSign) (nL := 2) (ty := .int) (own := RX7) (by decide) rfl rfl (Nat.le_of_ble_eq_true rfl) ?_
  intro p e s m args below meth c A Q C0 hin hret
  exact t_X7_tapeSign_0 C0 t0 post hret z1 hw
abbrev rm_X7_behindLineEnd : Room := { frames := 5, cells := 0, slots := 0, locals := 109 }
set_option maxHeartbeats 4000000 in
set_option maxRecDepth 100000 in
theorem t_X7_behindLineEnd_0 (C0 : hX p s m args c cX7_behindLineEnd 2 RX7 wsX7_behindLineEnd D (gt u.2.1) A u.1 u.2.2) {S : hS} (t0 : Nat) (post : Int32 → Prop) (hret : ∀ (r : Int32) (S' : hS) (pc : Nat) (lv : List (Nat × Value)) (k n : Nat), k ≤ 0 → n ≤ 0 → (S' = S ∧ post r) → narrow .int (.int r) = .int r → decode cX7_behindLineEnd pc = .ok (.ireturn, 1) → gG p l e (rm_X7_behindLineEnd) s m args below meth c Q D A 2 k n (hC X S') pc lv [.int r])  : ∀ (z1 : Int32), w_X7_behindLineEnd u post t0  z1 S → gG p l e (rm_X7_behindLineEnd) s m args below meth c Q D A 2 0 0 (hC X S) 0 [(0, .ref t0), (1, .int z1)] [] := by
  obtain ⟨⟨hx, hb, hml, ho, hts, hK, hA⟩, hR⟩ := id C0
  intro z1 hw H locs ls hW hl
  rw [w_X7_behindLineEnd] at hw
  refine lv_aload_n hx hb dX7_behindLineEnd_0 rfl (lv_at hl 0 rfl) ?_
  refine lv_iload_n hx hb dX7_behindLineEnd_1 rfl (lv_at hl 1 rfl) ?_
  obtain ⟨h2, hw⟩ := hw
  refine h_goi C0 hW (va_runV (As := [.int z1]) (rest := []) ⟨hx, hb, hml, ho, hts⟩ (k_X7_tapeSign (l := l) (u := u) (X := X) (sz := H.size) _ t0 z1 S  hw) (cwV 1 hts gX7_behindLineEnd_X7_tapeSign rfl rfl rfl (by decide +kernel) ⟨Nat.le_of_ble_eq_true rfl, Nat.le_of_ble_eq_true rfl⟩) ⟨h_blind, (h_recv C0 hW (ci := 8) rfl h2), (h_pre C0 hW [.ref t0, .int z1])⟩ rfl rfl hl.1 rfl (lv_room (Nat.le_of_ble_eq_true rfl)) dX7_behindLineEnd_2 ⟨Nat.le_refl _, Nat.le_refl _⟩) (fun r1 S3 H locs h4 hW => ?_)
  obtain ⟨h5, hp⟩ := h4
  rw [h5] at hW
  replace hw := hp
  refine lv_bipush (v := 13) hx hb dX7_behindLineEnd_5 (by decide) ?_
  refine lv_icmp_ne (tgt := 26) hx hb dX7_behindLineEnd_7 (by decide) (fun c6 => ?_) (fun c6 => ?_)
  · replace hw := hw.1 c6
    refine lv_iload_n hx hb dX7_behindLineEnd_26 rfl (lv_at hl 1 rfl) ?_
    refine lv_iconst (v := 1) hx hb dX7_behindLineEnd_27 (by decide) ?_
    refine lv_iadd hx hb dX7_behindLineEnd_28 ?_
    exact hret (z1 + 1) S _ _ 0 0 (Nat.le_refl _) (Nat.le_refl _) ⟨rfl, hw⟩ rfl dX7_behindLineEnd_29 _ _ _ hW hl
  · replace hw := hw.2 c6
    refine lv_aload_n hx hb dX7_behindLineEnd_10 rfl (lv_at hl 0 rfl) ?_
    refine lv_iload_n hx hb dX7_behindLineEnd_11 rfl (lv_at hl 1 rfl) ?_
    refine lv_iconst (v := 1) hx hb dX7_behindLineEnd_12 (by decide) ?_
    refine lv_iadd hx hb dX7_behindLineEnd_13 ?_
    obtain ⟨h8, hw⟩ := hw
    refine h_goi C0 hW (va_runV (As := [.int (z1 + 1)]) (rest := []) ⟨hx, hb, hml, ho, hts⟩ (k_X7_tapeSign (l := l) (u := u) (X := X) (sz := H.size) _ t0 (z1 + 1) S  hw) (cwV 1 hts gX7_behindLineEnd_X7_tapeSign rfl rfl rfl (by decide +kernel) ⟨Nat.le_of_ble_eq_true rfl, Nat.le_of_ble_eq_true rfl⟩) ⟨h_blind, (h_recv C0 hW (ci := 8) rfl h8), (h_pre C0 hW [.ref t0, .int (z1 + 1)])⟩ rfl rfl hl.1 rfl (lv_room (Nat.le_of_ble_eq_true rfl)) dX7_behindLineEnd_14 ⟨Nat.le_refl _, Nat.le_refl _⟩) (fun r7 S9 H locs h10 hW => ?_)
    obtain ⟨h11, hp⟩ := h10
    rw [h11] at hW
    replace hw := hp
    refine lv_bipush (v := 10) hx hb dX7_behindLineEnd_17 (by decide) ?_
    refine lv_icmp_ne (tgt := 26) hx hb dX7_behindLineEnd_19 (by decide) (fun c12 => ?_) (fun c12 => ?_)
    · replace hw := hw.1 c12
      refine lv_iload_n hx hb dX7_behindLineEnd_26 rfl (lv_at hl 1 rfl) ?_
      refine lv_iconst (v := 1) hx hb dX7_behindLineEnd_27 (by decide) ?_
      refine lv_iadd hx hb dX7_behindLineEnd_28 ?_
      exact hret (z1 + 1) S _ _ 0 0 (Nat.le_refl _) (Nat.le_refl _) ⟨rfl, hw⟩ rfl dX7_behindLineEnd_29 _ _ _ hW hl
    · replace hw := hw.2 c12
      refine lv_iload_n hx hb dX7_behindLineEnd_22 rfl (lv_at hl 1 rfl) ?_
      refine lv_iconst (v := 2) hx hb dX7_behindLineEnd_23 (by decide) ?_
      refine lv_iadd hx hb dX7_behindLineEnd_24 ?_
      exact hret (z1 + 2) S _ _ 0 0 (Nat.le_refl _) (Nat.le_refl _) ⟨rfl, hw⟩ rfl dX7_behindLineEnd_25 _ _ _ hW hl
set_option maxHeartbeats 4000000 in
set_option maxRecDepth 100000 in
theorem k_X7_behindLineEnd {l : Launch} {D : va_G} {u : hU} {X : va_W} {sz : Nat} (post : Int32 → Prop) (t0 : Nat) (z1 : Int32) (S : hS) (hw : w_X7_behindLineEnd u post t0 z1 S) : hMi l yX7_behindLineEnd wsX7_behindLineEnd rm_X7_behindLineEnd D (gt u.2.1) u.1 u.2.2 sz X S [.ref t0, .int z1] (fun r S' => S' = S ∧ post r) 0 0 := by
  refine hMi_of (cc := cX7_behindLineEnd) (nL := 2) (ty := .int) (own := RX7) (by decide) rfl rfl (Nat.le_of_ble_eq_true rfl) ?_
  intro p e s m args below meth c A Q C0 hin hret
  exact t_X7_behindLineEnd_0 C0 t0 post hret z1 hw
abbrev rm_X7_lineEnd : Room := { frames := 5, cells := 0, slots := 0, locals := 109 }
theorem in_X7_lineEnd_RX7 : ∀ w ∈ wsX70, w ∈ wsX7_lineEnd := fun w hw9 => List.mem_cons_of_mem _ (List.mem_append_left _ (List.mem_append_right _ hw9))
set_option maxHeartbeats 4000000 in
set_option maxRecDepth 100000 in
theorem t_X7_lineEnd_5 (C0 : hX p s m args c cX7_lineEnd 2 RX7 wsX7_lineEnd D (gt u.2.1) A u.1 u.2.2) {S : hS} (t0 : Nat) (post : Int32 → Prop) (hret : ∀ (r : Int32) (S' : hS) (pc : Nat) (lv : List (Nat × Value)) (k n : Nat), k ≤ 0 → n ≤ 0 → (S' = S ∧ post r) → narrow .int (.int r) = .int r → decode cX7_lineEnd pc = .ok (.ireturn, 1) → gG p l e (rm_X7_lineEnd) s m args below meth c Q D A 2 k n (hC X S') pc lv [.int r])  : ∀ (nf : Nat) (x1 : Int32), w_X7_lineEnd_5 u post t0  nf x1 S → gG p l e (rm_X7_lineEnd) s m args below meth c Q D A 2 0 0 (hC X S) 5 [(0, .ref t0), (1, .int x1)] [] := by
  obtain ⟨⟨hx, hb, hml, ho, hts, hK, hA⟩, hR⟩ := id C0
  intro nf
  induction nf with
  | zero => intro x1 hw; exact hw.elim
  | succ nf ih =>
    intro x1 hw H locs ls hW hl
    rw [w_X7_lineEnd_5] at hw
    refine lv_iload_n hx hb dX7_lineEnd_5 rfl (lv_at hl 1 rfl) ?_
    refine lv_aload_n hx hb dX7_lineEnd_6 rfl (lv_at hl 0 rfl) ?_
    obtain ⟨o4, h5, hw⟩ := hw
    refine h_getR C0 hW (T := TX7) (kf := 0) in_X7_lineEnd_RX7 h5 rfl (by decide) (List.mem_of_getElem? (i := 2) rfl) rfl dX7_lineEnd_7 ?_
    obtain ⟨a6, rfl, hw⟩ := hw
    obtain ⟨h8, hw⟩ := hw
    refine h_goi C0 hW (va_runV (As := []) (rest := [.int x1]) ⟨hx, hb, hml, ho, hts⟩ (k_J4_length_8a (l := l) (u := u) (X := X) (sz := H.size) _ a6  S  hw) (cwV 0 hts gX7_lineEnd_J4_length_8abf5 rfl rfl rfl (by decide +kernel) ⟨Nat.le_of_ble_eq_true rfl, Nat.le_of_ble_eq_true rfl⟩) ⟨h_blind, (h_recv C0 hW (ci := 1) rfl h8), (h_pre C0 hW [.ref a6])⟩ rfl rfl hl.1 rfl (lv_room (Nat.le_of_ble_eq_true rfl)) dX7_lineEnd_10 ⟨Nat.le_refl _, Nat.le_refl _⟩) (fun r7 S9 H locs h10 hW => ?_)
    obtain ⟨h11, hp⟩ := h10
    rw [h11] at hW
    replace hw := hp
    refine lv_icmp_ge (tgt := 42) hx hb dX7_lineEnd_13 (by decide) (fun c12 => ?_) (fun c12 => ?_)
    · replace hw := hw.1 c12
      refine lv_iload_n hx hb dX7_lineEnd_42 rfl (lv_at hl 1 rfl) ?_
      exact hret x1 S _ _ 0 0 (Nat.le_refl _) (Nat.le_refl _) ⟨rfl, hw⟩ rfl dX7_lineEnd_43 _ _ _ hW hl
    · replace hw := hw.2 c12
      refine lv_aload_n hx hb dX7_lineEnd_16 rfl (lv_at hl 0 rfl) ?_
      refine lv_iload_n hx hb dX7_lineEnd_17 rfl (lv_at hl 1 rfl) ?_
      obtain ⟨h14, hw⟩ := hw
      refine h_goi C0 hW (va_runV (As := [.int x1]) (rest := []) ⟨hx, hb, hml, ho, hts⟩ (k_X7_tapeSign (l := l) (u := u) (X := X) (sz := H.size) _ t0 x1 S  hw) (cwV 1 hts gX7_lineEnd_X7_tapeSign rfl rfl rfl (by decide +kernel) ⟨Nat.le_of_ble_eq_true rfl, Nat.le_of_ble_eq_true rfl⟩) ⟨h_blind, (h_recv C0 hW (ci := 8) rfl h14), (h_pre C0 hW [.ref t0, .int x1])⟩ rfl rfl hl.1 rfl (lv_room (Nat.le_of_ble_eq_true rfl)) dX7_lineEnd_18 ⟨Nat.le_refl _, Nat.le_refl _⟩) (fun r13 S15 H locs h16 hW => ?_)
      obtain ⟨h17, hp⟩ := h16
      rw [h17] at hW
      replace hw := hp
      refine lv_bipush (v := 10) hx hb dX7_lineEnd_21 (by decide) ?_
      refine lv_icmp_eq (tgt := 42) hx hb dX7_lineEnd_23 (by decide) (fun c18 => ?_) (fun c18 => ?_)
      · replace hw := hw.1 c18
        refine lv_iload_n hx hb dX7_lineEnd_42 rfl (lv_at hl 1 rfl) ?_
        exact hret x1 S _ _ 0 0 (Nat.le_refl _) (Nat.le_refl _) ⟨rfl, hw⟩ rfl dX7_lineEnd_43 _ _ _ hW hl
      · replace hw := hw.2 c18
        refine lv_aload_n hx hb dX7_lineEnd_26 rfl (lv_at hl 0 rfl) ?_
        refine lv_iload_n hx hb dX7_lineEnd_27 rfl (lv_at hl 1 rfl) ?_
        obtain ⟨h20, hw⟩ := hw
        refine h_goi C0 hW (va_runV (As := [.int x1]) (rest := []) ⟨hx, hb, hml, ho, hts⟩ (k_X7_tapeSign (l := l) (u := u) (X := X) (sz := H.size) _ t0 x1 S  hw) (cwV 1 hts gX7_lineEnd_X7_tapeSign rfl rfl rfl (by decide +kernel) ⟨Nat.le_of_ble_eq_true rfl, Nat.le_of_ble_eq_true rfl⟩) ⟨h_blind, (h_recv C0 hW (ci := 8) rfl h20), (h_pre C0 hW [.ref t0, .int x1])⟩ rfl rfl hl.1 rfl (lv_room (Nat.le_of_ble_eq_true rfl)) dX7_lineEnd_28 ⟨Nat.le_refl _, Nat.le_refl _⟩) (fun r19 S21 H locs h22 hW => ?_)
        obtain ⟨h23, hp⟩ := h22
        rw [h23] at hW
        replace hw := hp
        refine lv_bipush (v := 13) hx hb dX7_lineEnd_31 (by decide) ?_
        refine lv_icmp_eq (tgt := 42) hx hb dX7_lineEnd_33 (by decide) (fun c24 => ?_) (fun c24 => ?_)
        · replace hw := hw.1 c24
          refine lv_iload_n hx hb dX7_lineEnd_42 rfl (lv_at hl 1 rfl) ?_
          exact hret x1 S _ _ 0 0 (Nat.le_refl _) (Nat.le_refl _) ⟨rfl, hw⟩ rfl dX7_lineEnd_43 _ _ _ hW hl
        · replace hw := hw.2 c24
          obtain ⟨v25, ev25⟩ : ∃ y : Int32, y = x1 + 1 := ⟨_, rfl⟩
          replace hw := hw v25 ev25
          refine lv_iinc (v := v25) (lv' := [(1, .int v25), (0, .ref t0)]) hx hb dX7_lineEnd_36 hl (k := 1) rfl (by rw [ev25]; rfl) (by decide) rfl (fun ls hl9 => ?_)
          replace hl := hl9
          refine lv_goto (tgt := 5) hx hb dX7_lineEnd_39 (by decide) ?_
          exact ih v25   hw _ _ _ hW (lv_sub hl [1, 0] rfl)
set_option maxHeartbeats 4000000 in
set_option maxRecDepth 100000 in
theorem t_X7_lineEnd_0 (C0 : hX p s m args c cX7_lineEnd 2 RX7 wsX7_lineEnd D (gt u.2.1) A u.1 u.2.2) {S : hS} (t0 : Nat) (post : Int32 → Prop) (hret : ∀ (r : Int32) (S' : hS) (pc : Nat) (lv : List (Nat × Value)) (k n : Nat), k ≤ 0 → n ≤ 0 → (S' = S ∧ post r) → narrow .int (.int r) = .int r → decode cX7_lineEnd pc = .ok (.ireturn, 1) → gG p l e (rm_X7_lineEnd) s m args below meth c Q D A 2 k n (hC X S') pc lv [.int r])  : w_X7_lineEnd u post t0   S → gG p l e (rm_X7_lineEnd) s m args below meth c Q D A 2 0 0 (hC X S) 0 [(0, .ref t0)] [] := by
  obtain ⟨⟨hx, hb, hml, ho, hts, hK, hA⟩, hR⟩ := id C0
  intro  hw H locs ls hW hl
  rw [w_X7_lineEnd] at hw
  refine lv_aload_n hx hb dX7_lineEnd_0 rfl (lv_at hl 0 rfl) ?_
  obtain ⟨v1, h2, hw⟩ := hw
  refine h_getI C0 hW (T := TX7) (kf := 4) in_X7_lineEnd_RX7 h2 rfl (by decide) (List.mem_of_getElem? (i := 1) rfl) rfl dX7_lineEnd_1 ?_
  refine lv_istore_n (lv' := [(1, .int v1), (0, .ref t0)]) hx hb dX7_lineEnd_4 rfl hl (by decide) rfl (fun ls hl9 => ?_)
  replace hl := hl9
  obtain ⟨n3, hw⟩ := hw
  exact t_X7_lineEnd_5 C0 t0 post hret  n3 v1   hw _ _ _ hW (lv_sub hl [1, 0] rfl)
set_option maxHeartbeats 4000000 in
set_option maxRecDepth 100000 in
theorem k_X7_lineEnd {l : Launch} {D : va_G} {u : hU} {X : va_W} {sz : Nat} (post : Int32 → Prop) (t0 : Nat) (S : hS) (hw : w_X7_lineEnd u post t0  S) : hMi l yX7_lineEnd wsX7_lineEnd rm_X7_lineEnd D (gt u.2.1) u.1 u.2.2 sz X S [.ref t0] (fun r S' => S' = S ∧ post r) 0 0 := by
  refine hMi_of (cc := cX7_lineEnd) (nL := 2) (ty := .int) (own := RX7) (by decide) rfl rfl (Nat.le_of_ble_eq_true rfl) ?_
  intro p e s m args below meth c A Q C0 hin hret
  exact t_X7_lineEnd_0 C0 t0 post hret  hw
end RAWM
