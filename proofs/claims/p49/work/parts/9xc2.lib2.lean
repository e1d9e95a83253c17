section RAWM
variable {p : Program} {l : Launch} {e : Env} {s : State} {m : MethodId} {args : Array Value} {below : List Frame} {meth : Method} {c : Code} {Q : State → Prop}
variable {D : va_G} {A : Nat → Prop} {u : hU} {X : va_W} {MC MS : Nat}
abbrev rm_J5_getValue_6d : Room := { frames := 0, cells := 0, slots := 0, locals := 0 }
theorem in_J5_getValue_6d_RJ4 : ∀ w ∈ wsJ40, w ∈ wsJ5_getValue_6d5f1 := fun w hw9 => List.mem_cons_of_mem _ (List.mem_append_right _ hw9)
set_option maxHeartbeats 4000000 in
set_option maxRecDepth 100000 in
theorem t_J5_getValue_6d_0 (C0 : hX p s m args c cJ5_getValue_6d5f1 1 RJ5 wsJ5_getValue_6d5f1 D (gt u.2.1) A u.1 u.2.2) {S : hS} (t0 : Nat) (post : Option Nat → Prop) (hret : ∀ (r : Option Nat) (S' : hS) (pc : Nat) (lv : List (Nat × Value)) (k n : Nat), k ≤ 0 → n ≤ 0 → (S' = S ∧ post r) → decode cJ5_getValue_6d5f1 pc = .ok (.areturn, 1) → gG p l e (rm_J5_getValue_6d) s m args below meth c Q D A 1 k n (hC X S') pc lv [va_rf r])  : w_J5_getValue_6d u post t0   S → gG p l e (rm_J5_getValue_6d) s m args below meth c Q D A 1 0 0 (hC X S) 0 [(0, .ref t0)] [] := by
  obtain ⟨⟨hx, hb, hml, ho, hts, hK, hA⟩, hR⟩ := id C0
  intro  hw H locs ls hW hl
  rw [w_J5_getValue_6d] at hw
  refine lv_aload_n hx hb dJ5_getValue_6d5f1_0 rfl (lv_at hl 0 rfl) ?_
  obtain ⟨o1, h2, hw⟩ := hw
  refine h_getR C0 hW (T := TJ4) (kf := 0) in_J5_getValue_6d_RJ4 h2 rfl (by decide) (List.mem_of_getElem? (i := 1) rfl) rfl dJ5_getValue_6d5f1_1 ?_
  exact hret o1 S _ _ 0 0 (Nat.le_refl _) (Nat.le_refl _) ⟨rfl, hw⟩ dJ5_getValue_6d5f1_4 _ _ _ hW hl
set_option maxHeartbeats 4000000 in
set_option maxRecDepth 100000 in
theorem k_J5_getValue_6d {l : Launch} {D : va_G} {u : hU} {X : va_W} {sz : Nat} (post : Option Nat → Prop) (t0 : Nat) (S : hS) (hw : w_J5_getValue_6d u post t0  S) : hMq l yJ5_getValue_6d5f1 wsJ5_getValue_6d5f1 rm_J5_getValue_6d D (gt u.2.1) u.1 u.2.2 sz X S [.ref t0] (fun r S' => S' = S ∧ post r) 0 0 := by
  refine hMq_of (cc := cJ5_getValue_6d5f1) (nL := 1) (ty := (.array .byte)) (own := RJ5) (by decide) rfl rfl (Nat.le_of_ble_eq_true rfl) (Or.inr ⟨_, rfl⟩) ?_
  intro p e s m args below meth c A Q C0 hin hret
  exact t_J5_getValue_6d_0 C0 t0 post hret  hw
abbrev rm_J7_checkLength_df : Room := { frames := 0, cells := 0, slots := 0, locals := 0 }
set_option maxHeartbeats 4000000 in
set_option maxRecDepth 100000 in
theorem t_J7_checkLength_df_0 (C0 : hX p s m args c cJ7_checkLength_df160 2 RJ7 wsJ7_checkLength_df160 D (gt u.2.1) A u.1 u.2.2) {S : hS}  (post : Prop) (hret : ∀ (S' : hS) (pc : Nat) (lv : List (Nat × Value)) (k n : Nat), k ≤ 0 → n ≤ 0 → (S' = S ∧ post) → decode cJ7_checkLength_df160 pc = .ok (.return_, 1) → gG p l e (rm_J7_checkLength_df) s m args below meth c Q D A 2 k n (hC X S') pc lv [])  : ∀ (z1 : Int32) (z2 : Int32), w_J7_checkLength_df u post   z1 z2 S → gG p l e (rm_J7_checkLength_df) s m args below meth c Q D A 2 0 0 (hC X S) 0 [(0, .int z1), (1, .int z2)] [] := by
  obtain ⟨⟨hx, hb, hml, ho, hts, hK, hA⟩, hR⟩ := id C0
  intro z1 z2 hw H locs ls hW hl
  rw [w_J7_checkLength_df] at hw
  refine lv_iload_n hx hb dJ7_checkLength_df160_0 rfl (lv_at hl 1 rfl) ?_
  refine lv_iload_n hx hb dJ7_checkLength_df160_1 rfl (lv_at hl 0 rfl) ?_
  refine lv_icmp_ge (tgt := 37) hx hb dJ7_checkLength_df160_2 (by decide) (fun c1 => ?_) (fun c1 => ?_)
  · replace hw := hw.1 c1
    exact hret S _ _ 0 0 (Nat.le_refl _) (Nat.le_refl _) ⟨rfl, hw⟩ dJ7_checkLength_df160_37 _ _ _ hW hl
  · replace hw := hw.2 c1
    exact hw.elim
set_option maxHeartbeats 4000000 in
set_option maxRecDepth 100000 in
theorem k_J7_checkLength_df {l : Launch} {D : va_G} {u : hU} {X : va_W} {sz : Nat} (post : Prop) (z1 : Int32) (z2 : Int32) (S : hS) (hw : w_J7_checkLength_df u post  z1 z2 S) : hMv l yJ7_checkLength_df160 wsJ7_checkLength_df160 rm_J7_checkLength_df D (gt u.2.1) u.1 u.2.2 sz X S [.int z1, .int z2] (fun S' => S' = S ∧ post) 0 0 := by
  refine hMv_of (cc := cJ7_checkLength_df160) (nL := 2) (own := RJ7) (by decide) rfl rfl (Nat.le_of_ble_eq_true rfl) ?_
  intro p e s m args below meth c A Q C0 hin hret
  exact t_J7_checkLength_df_0 C0  post hret z1 z2 hw
abbrev rm_J7_copyOfRangeByte_39 (MC MS : Nat) : Room := { frames := 1, cells := MC, slots := MS, locals := 21 }
set_option maxHeartbeats 4000000 in
set_option maxRecDepth 100000 in
theorem t_J7_copyOfRangeByte_39_0 (C0 : hX p s m args c cJ7_copyOfRangeByte_39247 5 RJ7 wsJ7_copyOfRangeByte_39247 D (gt u.2.1) A u.1 u.2.2)  (post : Option Nat → hS → Prop) (hret : ∀ (r : Option Nat) (S' : hS) (pc : Nat) (lv : List (Nat × Value)) (k n : Nat), k ≤ MC → n ≤ MS → post r S' → decode cJ7_copyOfRangeByte_39247 pc = .ok (.areturn, 1) → gG p l e (rm_J7_copyOfRangeByte_39 MC MS) s m args below meth c Q D A 5 k n (hC X S') pc lv [va_rf r])  : ∀ (p1 : Option Nat) (z2 : Int32) (z3 : Int32) (S : hS) (mc ms k n : Nat), k + mc ≤ MC ∧ n + ms ≤ MS → w_J7_copyOfRangeByte_39 u post   p1 z2 z3 S mc ms → gG p l e (rm_J7_copyOfRangeByte_39 MC MS) s m args below meth c Q D A 5 k n (hC X S) 0 [(0, va_rf p1), (1, .int z2), (2, .int z3)] [] := by
  obtain ⟨⟨hx, hb, hml, ho, hts, hK, hA⟩, hR⟩ := id C0
  intro p1 z2 z3 S mc ms k n hkn hw H locs ls hW hl
  rw [w_J7_copyOfRangeByte_39] at hw
  refine lv_iload_n hx hb dJ7_copyOfRangeByte_39247_0 rfl (lv_at hl 1 rfl) ?_
  refine lv_iload_n hx hb dJ7_copyOfRangeByte_39247_1 rfl (lv_at hl 2 rfl) ?_
  refine h_gov C0 hW (va_runS (As := [.int z2, .int z3]) (rest := []) ⟨hx, hb, hml, ho, hts⟩ (k_J7_checkLength_df (l := l) (u := u) (X := X) (sz := H.size) _ z2 z3 S  hw) (va_cwS 2 hts gJ7_copyOfRangeByte_39247_J7_checkLength_df160 rfl rfl rfl (by decide +kernel) ⟨Nat.le_of_ble_eq_true rfl, Nat.le_of_ble_eq_true rfl⟩) ⟨h_blind, (h_pre C0 hW [.int z2, .int z3])⟩ rfl rfl hl.1 rfl (lv_room (Nat.le_of_ble_eq_true rfl)) dJ7_copyOfRangeByte_39247_2 ⟨by show _ ≤ MC; omega, by show _ ≤ MS; omega⟩) (fun S2 H locs h3 hW => ?_)
  obtain ⟨h4, hp⟩ := h3
  rw [h4] at hW
  replace hw := hp
  refine lv_iload_n hx hb dJ7_copyOfRangeByte_39247_5 rfl (lv_at hl 2 rfl) ?_
  refine lv_iload_n hx hb dJ7_copyOfRangeByte_39247_6 rfl (lv_at hl 1 rfl) ?_
  refine lv_isub hx hb dJ7_copyOfRangeByte_39247_7 ?_
  refine lv_topi (fun v5 ev5 => ?_)
  replace hw := hw v5 ev5
  refine lv_istore_n (lv' := [(3, .int v5), (0, va_rf p1), (1, .int z2), (2, .int z3)]) hx hb dJ7_copyOfRangeByte_39247_8 rfl hl (by decide) rfl (fun ls hl9 => ?_)
  replace hl := hl9
  refine lv_iload_n hx hb dJ7_copyOfRangeByte_39247_9 rfl (lv_at hl 0 rfl) ?_
  obtain ⟨N13, h14, h12, h9, h10, hw⟩ := hw
  refine h_newB C0 hW rfl (List.mem_of_getElem? (i := 1) rfl) (N := N13) (by rw [h14]; exact nI_pos (by omega)) (by rw [h14]; exact nI_clamp (by omega)) h12 (by show _ ≤ MC; omega) (by show _ ≤ MS; omega) dJ7_copyOfRangeByte_39247_10 (fun q6 H h7 hW => ?_)
  obtain ⟨S8, eS8⟩ : ∃ z : hS, z = adS S q6 (.inl (u.2.1 2, N13, .inl (fun _ => 0))) := ⟨_, rfl⟩
  rw [← eS8] at hW
  replace hw := hw q6 S8 h7 eS8
  have hkn : (k + 1) + (mc - 1) ≤ MC ∧ (n + N13) + (ms - N13) ≤ MS := by omega
  refine lv_astore (i := 4) (lv' := [(4, .ref q6), (3, .int v5), (0, va_rf p1), (1, .int z2), (2, .int z3)]) hx hb dJ7_copyOfRangeByte_39247_12 hl (by decide) rfl (fun ls hl9 => ?_)
  replace hl := hl9
  refine lv_aloadV_n hx hb dJ7_copyOfRangeByte_39247_14 rfl (lv_at hl 2 rfl) ?_
  refine lv_iload_n hx hb dJ7_copyOfRangeByte_39247_15 rfl (lv_at hl 3 rfl) ?_
  refine lv_aload hx hb dJ7_copyOfRangeByte_39247_16 (lv_at hl 0 rfl) ?_
  refine lv_iconst (v := 0) hx hb dJ7_copyOfRangeByte_39247_18 (by decide) ?_
  refine lv_aloadV_n hx hb dJ7_copyOfRangeByte_39247_19 rfl (lv_at hl 2 rfl) ?_
  obtain ⟨a15, rfl, hw⟩ := hw
  obtain ⟨N16, g17, h18, hw⟩ := hw
  refine h_blen C0 hW h18 rfl dJ7_copyOfRangeByte_39247_20 ?_
  refine lv_iload_n hx hb dJ7_copyOfRangeByte_39247_21 rfl (lv_at hl 3 rfl) ?_
  refine lv_isub hx hb dJ7_copyOfRangeByte_39247_22 ?_
  refine lv_iload_n hx hb dJ7_copyOfRangeByte_39247_23 rfl (lv_at hl 1 rfl) ?_
  refine va_mmin hx hb (hml.trans hl.1.symm) ho (hts (.methodLink RJ7 304 Lib.Math.min.name) (List.mem_of_getElem? (i := 2) rfl)) (hts _ (List.mem_of_getElem? (i := 3) rfl)) (hts _ (List.mem_of_getElem? (i := 4) rfl)) (hts _ (List.mem_of_getElem? (i := 5) rfl)) (Nat.le_of_ble_eq_true rfl) (Nat.le_of_ble_eq_true rfl) (by show _ ≤ MC; omega) (by show _ ≤ MS; omega) dJ7_copyOfRangeByte_39247_24 ?_
  obtain ⟨N19, g20, N22, g23, h21, h24, h25, hw⟩ := hw
  refine h_copy C0 hW hl.1 rfl h21 h24 (List.mem_of_getElem? (i := 6) rfl) (List.mem_of_getElem? (i := 7) rfl) (List.mem_of_getElem? (i := 8) rfl) (List.mem_of_getElem? (i := 9) rfl) h25.1 h25.2.1 h25.2.2.1 h25.2.2.2.1 h25.2.2.2.2.1 h25.2.2.2.2.2 (Nat.le_of_ble_eq_true rfl) (Nat.le_of_ble_eq_true rfl) dJ7_copyOfRangeByte_39247_27 (fun H locs hW => ?_)
  obtain ⟨S26, eS26⟩ : ∃ z : hS, z = upS S8 q6 (.inl (u.2.1 2, N22, .inl (va_cpy g20 g23 (z2 : Int32).toNatClampNeg (0 : Int32).toNatClampNeg ((if v5 < ((nI N16) - z2) then v5 else ((nI N16) - z2)) : Int32).toNatClampNeg))) := ⟨_, rfl⟩
  rw [← eS26] at hW
  replace hw := hw S26 eS26
  refine lv_aload hx hb dJ7_copyOfRangeByte_39247_30 (lv_at hl 0 rfl) ?_
  exact hret (some q6) S26 _ _ _ _ (by omega) (by omega) hw dJ7_copyOfRangeByte_39247_32 _ _ _ hW hl
set_option maxHeartbeats 4000000 in
set_option maxRecDepth 100000 in
theorem k_J7_copyOfRangeByte_39 {l : Launch} {D : va_G} {u : hU} {X : va_W} {sz : Nat} (post : Option Nat → hS → Prop) (p1 : Option Nat) (z2 : Int32) (z3 : Int32) (S : hS) (mc ms : Nat) (hw : w_J7_copyOfRangeByte_39 u post  p1 z2 z3 S mc ms) : hMq l yJ7_copyOfRangeByte_39247 wsJ7_copyOfRangeByte_39247 (rm_J7_copyOfRangeByte_39 mc ms) D (gt u.2.1) u.1 u.2.2 sz X S [va_rf p1, .int z2, .int z3] post mc ms := by
  refine hMq_of (cc := cJ7_copyOfRangeByte_39247) (nL := 5) (ty := (.array .byte)) (own := RJ7) (by decide) rfl rfl (by cases p1 <;> exact Nat.le_of_ble_eq_true rfl) (Or.inr ⟨_, rfl⟩) ?_
  intro p e s m args below meth c A Q C0 hin hret
  have hfin := t_J7_copyOfRangeByte_39_0 C0  post hret p1 z2 z3 S mc ms 0 0 ⟨by omega, by omega⟩ hw
  intro H locs ls hW hl
  refine hfin H locs ls hW ?_
  cases p1 <;> exact hl
abbrev rm_J7_copyOfRange_39 (MC MS : Nat) : Room := { frames := 2, cells := MC, slots := MS, locals := 45 }
set_option maxHeartbeats 4000000 in
set_option maxRecDepth 100000 in
theorem t_J7_copyOfRange_39_10 (C0 : hX p s m args c cJ7_copyOfRange_39247 3 RJ7 wsJ7_copyOfRange_39247 D (gt u.2.1) A u.1 u.2.2)  (post : Option Nat → hS → Prop) (hret : ∀ (r : Option Nat) (S' : hS) (pc : Nat) (lv : List (Nat × Value)) (k n : Nat), k ≤ MC → n ≤ MS → post r S' → decode cJ7_copyOfRange_39247 pc = .ok (.areturn, 1) → gG p l e (rm_J7_copyOfRange_39 MC MS) s m args below meth c Q D A 3 k n (hC X S') pc lv [va_rf r])  : ∀ (x0 : Option Nat) (x1 : Int32) (x2 : Int32) (S : hS) (mc ms k n : Nat), k + mc ≤ MC ∧ n + ms ≤ MS → w_J7_copyOfRange_39_10 u post   x0 x1 x2 S mc ms → gG p l e (rm_J7_copyOfRange_39 MC MS) s m args below meth c Q D A 3 k n (hC X S) 10 [(0, va_rf x0), (1, .int x1), (2, .int x2)] [] := by
  obtain ⟨⟨hx, hb, hml, ho, hts, hK, hA⟩, hR⟩ := id C0
  intro x0 x1 x2 S mc ms k n hkn hw H locs ls hW hl
  rw [w_J7_copyOfRange_39_10] at hw
  refine lv_aloadV_n hx hb dJ7_copyOfRange_39247_10 rfl (lv_at hl 0 rfl) ?_
  refine lv_iload_n hx hb dJ7_copyOfRange_39247_11 rfl (lv_at hl 1 rfl) ?_
  refine lv_iload_n hx hb dJ7_copyOfRange_39247_12 rfl (lv_at hl 2 rfl) ?_
  obtain ⟨k20, n21, h22, h23, hw⟩ := hw
  refine h_goq C0 hW (va_runS (As := [va_rf x0, .int x1, .int x2]) (rest := []) ⟨hx, hb, hml, ho, hts⟩ (k_J7_copyOfRangeByte_39 (l := l) (u := u) (X := X) (sz := H.size) _ x0 x1 x2 S k20 n21 hw) (va_cwS 3 hts gJ7_copyOfRange_39247_J7_copyOfRangeByte_39247 rfl rfl rfl (by decide +kernel) ⟨Nat.le_of_ble_eq_true rfl, Nat.le_of_ble_eq_true rfl⟩) ⟨h_blind, (h_pre C0 hW [va_rf x0, .int x1, .int x2])⟩ rfl rfl hl.1 rfl (lv_room (Nat.le_of_ble_eq_true rfl)) dJ7_copyOfRange_39247_13 ⟨by show _ ≤ MC; omega, by show _ ≤ MS; omega⟩) (fun r19 S24 H locs h25 hW => ?_)
  replace hw := h25
  have hkn : (k + k20) + (mc - k20) ≤ MC ∧ (n + n21) + (ms - n21) ≤ MS := by omega
  exact hret r19 S24 _ _ _ _ (by omega) (by omega) hw dJ7_copyOfRange_39247_16 _ _ _ hW hl
set_option maxHeartbeats 4000000 in
set_option maxRecDepth 100000 in
theorem t_J7_copyOfRange_39_0 (C0 : hX p s m args c cJ7_copyOfRange_39247 3 RJ7 wsJ7_copyOfRange_39247 D (gt u.2.1) A u.1 u.2.2)  (post : Option Nat → hS → Prop) (hret : ∀ (r : Option Nat) (S' : hS) (pc : Nat) (lv : List (Nat × Value)) (k n : Nat), k ≤ MC → n ≤ MS → post r S' → decode cJ7_copyOfRange_39247 pc = .ok (.areturn, 1) → gG p l e (rm_J7_copyOfRange_39 MC MS) s m args below meth c Q D A 3 k n (hC X S') pc lv [va_rf r])  : ∀ (p1 : Option Nat) (z2 : Int32) (z3 : Int32) (S : hS) (mc ms k n : Nat), k + mc ≤ MC ∧ n + ms ≤ MS → w_J7_copyOfRange_39 u post   p1 z2 z3 S mc ms → gG p l e (rm_J7_copyOfRange_39 MC MS) s m args below meth c Q D A 3 k n (hC X S) 0 [(0, va_rf p1), (1, .int z2), (2, .int z3)] [] := by
  obtain ⟨⟨hx, hb, hml, ho, hts, hK, hA⟩, hR⟩ := id C0
  intro p1 z2 z3 S mc ms k n hkn hw H locs ls hW hl
  rw [w_J7_copyOfRange_39] at hw
  refine lv_iload_n hx hb dJ7_copyOfRange_39247_0 rfl (lv_at hl 1 rfl) ?_
  refine lv_if_ne (tgt := 10) hx hb dJ7_copyOfRange_39247_1 (by decide) (fun c1 => ?_) (fun c1 => ?_)
  · replace hw := hw.1 c1
    exact t_J7_copyOfRange_39_10 C0  post hret  p1 z2 z3 S mc ms _ _ hkn hw _ _ _ hW (lv_sub hl [0, 1, 2] rfl)
  · replace hw := hw.2 c1
    refine lv_iload_n hx hb dJ7_copyOfRange_39247_4 rfl (lv_at hl 2 rfl) ?_
    refine lv_aloadV_n hx hb dJ7_copyOfRange_39247_5 rfl (lv_at hl 0 rfl) ?_
    obtain ⟨a2, rfl, hw⟩ := hw
    obtain ⟨N3, g4, h5, hw⟩ := hw
    refine h_blen C0 hW h5 rfl dJ7_copyOfRange_39247_6 ?_
    refine lv_icmp_eq (tgt := 17) hx hb dJ7_copyOfRange_39247_7 (by decide) (fun c6 => ?_) (fun c6 => ?_)
    · replace hw := hw.1 c6
      refine lv_aload_n hx hb dJ7_copyOfRange_39247_17 rfl (lv_at hl 0 rfl) ?_
      obtain ⟨N7, g8, h9, h10, h11, h12, hw⟩ := hw
      refine h_clone C0 hW hl.1 rfl h9 (List.mem_of_getElem? (i := 1) rfl) (List.mem_of_getElem? (i := 2) rfl) (List.mem_of_getElem? (i := 3) rfl) (List.mem_of_getElem? (i := 4) rfl) (List.mem_of_getElem? (i := 5) rfl) h10 (Nat.le_of_ble_eq_true rfl) (Nat.le_of_ble_eq_true rfl) (by show _ ≤ MC; omega) (by show _ ≤ MS; omega) dJ7_copyOfRange_39247_18 (fun q13 H h15 hW => ?_)
      obtain ⟨S14, eS14⟩ : ∃ z : hS, z = adS S q13 (.inl (u.2.1 2, N7, .inl g8)) := ⟨_, rfl⟩
      rw [← eS14] at hW
      replace hw := hw q13 S14 h15 eS14
      have hkn : (k + 1) + (mc - 1) ≤ MC ∧ (n + N7) + (ms - N7) ≤ MS := by omega
      obtain ⟨N17, g18, h16, hw⟩ := hw
      refine h_castB C0 hW h16 rfl (List.mem_of_getElem? (i := 6) rfl) dJ7_copyOfRange_39247_21 ?_
      exact hret (some q13) S14 _ _ _ _ (by omega) (by omega) hw dJ7_copyOfRange_39247_24 _ _ _ hW hl
    · replace hw := hw.2 c6
      exact t_J7_copyOfRange_39_10 C0  post hret  (some a2) z2 z3 S mc ms _ _ hkn hw _ _ _ hW (lv_sub hl [0, 1, 2] rfl)
set_option maxHeartbeats 4000000 in
set_option maxRecDepth 100000 in
theorem k_J7_copyOfRange_39 {l : Launch} {D : va_G} {u : hU} {X : va_W} {sz : Nat} (post : Option Nat → hS → Prop) (p1 : Option Nat) (z2 : Int32) (z3 : Int32) (S : hS) (mc ms : Nat) (hw : w_J7_copyOfRange_39 u post  p1 z2 z3 S mc ms) : hMq l yJ7_copyOfRange_39247 wsJ7_copyOfRange_39247 (rm_J7_copyOfRange_39 mc ms) D (gt u.2.1) u.1 u.2.2 sz X S [va_rf p1, .int z2, .int z3] post mc ms := by
  refine hMq_of (cc := cJ7_copyOfRange_39247) (nL := 3) (ty := (.array .byte)) (own := RJ7) (by decide) rfl rfl (by cases p1 <;> exact Nat.le_of_ble_eq_true rfl) (Or.inr ⟨_, rfl⟩) ?_
  intro p e s m args below meth c A Q C0 hin hret
  have hfin := t_J7_copyOfRange_39_0 C0  post hret p1 z2 z3 S mc ms 0 0 ⟨by omega, by omega⟩ hw
  intro H locs ls hW hl
  refine hfin H locs ls hW ?_
  cases p1 <;> exact hl
abbrev rm_J0_init_db (MC MS : Nat) : Room := { frames := 3, cells := MC, slots := MS, locals := 67 }
theorem in_J0_init_db_RJ0 : ∀ w ∈ wsJ00, w ∈ wsJ0_init_db425 := fun w hw9 => List.mem_cons_of_mem _ (List.mem_append_left _ (List.mem_append_right _ hw9))
theorem in_J0_init_db_RJ4 : ∀ w ∈ wsJ40, w ∈ wsJ0_init_db425 := fun w hw9 => List.mem_cons_of_mem _ (List.mem_append_right _ hw9)
set_option maxHeartbeats 4000000 in
set_option maxRecDepth 100000 in
theorem t_J0_init_db_79 (C0 : hX p s m args c cJ0_init_db425 5 RJ0 wsJ0_init_db425 D (gt u.2.1) A u.1 u.2.2) (hin : yJ0_init_db425.name = "<init>" → meth.name = "<init>") (t0 : Nat) (post : hS → Prop) (hret : ∀ (S' : hS) (pc : Nat) (lv : List (Nat × Value)) (k n : Nat), k ≤ MC → n ≤ MS → post S' → decode cJ0_init_db425 pc = .ok (.return_, 1) → gG p l e (rm_J0_init_db MC MS) s m args below meth c Q D A 5 k n (hC X S') pc lv [])  : ∀ (x3 : Option Nat) (x4 : Int32) (S : hS) (mc ms k n : Nat), k + mc ≤ MC ∧ n + ms ≤ MS → w_J0_init_db_79 u post t0  x3 x4 S mc ms → gG p l e (rm_J0_init_db MC MS) s m args below meth c Q D A 5 k n (hC X S) 79 [(0, .ref t0), (3, va_rf x3), (4, .int x4)] [] := by
  obtain ⟨⟨hx, hb, hml, ho, hts, hK, hA⟩, hR⟩ := id C0
  intro x3 x4 S mc ms k n hkn hw H locs ls hW hl
  rw [w_J0_init_db_79] at hw
  refine lv_aload_n hx hb dJ0_init_db425_79 rfl (lv_at hl 0 rfl) ?_
  refine lv_iconst (v := 1) hx hb dJ0_init_db425_80 (by decide) ?_
  obtain ⟨fs37, h38, h39, hw⟩ := hw
  refine h_put C0 hW (T := TJ0) (kf := 1) (ty := .byte) in_J0_init_db_RJ0 h38 rfl (by decide) h39 tyJ0 tyJ0_ok nmJ0 (List.mem_of_getElem? (i := 4) rfl) rfl (Or.inr ⟨rfl, hin rfl, rfl⟩) (by decide +kernel) (by decide) (by decide) dJ0_init_db425_81 rfl (fun H locs hW => ?_)
  obtain ⟨S40, eS40⟩ : ∃ z : hS, z = upS S t0 (.inr (0, fs37.set 1 (.int 1))) := ⟨_, rfl⟩
  rw [← eS40] at hW
  replace hw := hw S40 eS40
  refine lv_aload_n hx hb dJ0_init_db425_84 rfl (lv_at hl 0 rfl) ?_
  refine lv_aloadV_n hx hb dJ0_init_db425_85 rfl (lv_at hl 1 rfl) ?_
  refine lv_iconst (v := 0) hx hb dJ0_init_db425_86 (by decide) ?_
  refine lv_iload hx hb dJ0_init_db425_87 (lv_at hl 2 rfl) ?_
  refine lv_iconst (v := 1) hx hb dJ0_init_db425_89 (by decide) ?_
  refine lv_ishl hx hb dJ0_init_db425_90 ?_
  obtain ⟨k42, n43, h44, h45, hw⟩ := hw
  refine h_goq C0 hW (va_runS (As := [va_rf x3, .int 0, .int (x4 <<< (1 &&& 31))]) (rest := [.ref t0]) ⟨hx, hb, hml, ho, hts⟩ (k_J7_copyOfRange_39 (l := l) (u := u) (X := X) (sz := H.size) _ x3 0 (x4 <<< (1 &&& 31)) S40 k42 n43 hw) (va_cwS 3 hts gJ0_init_db425_J7_copyOfRange_39247 rfl rfl rfl (by decide +kernel) ⟨Nat.le_of_ble_eq_true rfl, Nat.le_of_ble_eq_true rfl⟩) ⟨h_blind, (h_pre C0 hW [va_rf x3, .int 0, .int (x4 <<< (1 &&& 31))])⟩ rfl rfl hl.1 rfl (lv_room (Nat.le_of_ble_eq_true rfl)) dJ0_init_db425_91 ⟨by show _ ≤ MC; omega, by show _ ≤ MS; omega⟩) (fun r41 S46 H locs h47 hW => ?_)
  replace hw := h47
  have hkn : (k + k42) + (mc - k42) ≤ MC ∧ (n + n43) + (ms - n43) ≤ MS := by omega
  obtain ⟨fs48, h49, h50, hw⟩ := hw
  refine h_put C0 hW (T := TJ0) (kf := 0) (ty := .array (.byte)) in_J0_init_db_RJ0 h49 rfl (by decide) h50 tyJ0 tyJ0_ok nmJ0 (List.mem_of_getElem? (i := 5) rfl) rfl (Or.inr ⟨rfl, hin rfl, rfl⟩) (by decide +kernel) (by cases r41 <;> rfl) (by cases r41 <;> rfl) dJ0_init_db425_94 (va_rf_cat _) (fun H locs hW => ?_)
  obtain ⟨S51, eS51⟩ : ∃ z : hS, z = upS S46 t0 (.inr (0, fs48.set 0 (va_rf r41))) := ⟨_, rfl⟩
  rw [← eS51] at hW
  replace hw := hw S51 eS51
  exact hret S51 _ _ _ _ (by omega) (by omega) hw dJ0_init_db425_97 _ _ _ hW hl
set_option maxHeartbeats 4000000 in
set_option maxRecDepth 100000 in
theorem t_J0_init_db_0 (C0 : hX p s m args c cJ0_init_db425 5 RJ0 wsJ0_init_db425 D (gt u.2.1) A u.1 u.2.2) (hin : yJ0_init_db425.name = "<init>" → meth.name = "<init>") (t0 : Nat) (post : hS → Prop) (hret : ∀ (S' : hS) (pc : Nat) (lv : List (Nat × Value)) (k n : Nat), k ≤ MC → n ≤ MS → post S' → decode cJ0_init_db425 pc = .ok (.return_, 1) → gG p l e (rm_J0_init_db MC MS) s m args below meth c Q D A 5 k n (hC X S') pc lv [])  : ∀ (p1 : Option Nat) (p2 : Option Nat) (S : hS) (mc ms k n : Nat), k + mc ≤ MC ∧ n + ms ≤ MS → w_J0_init_db u post t0  p1 p2 S mc ms → gG p l e (rm_J0_init_db MC MS) s m args below meth c Q D A 5 k n (hC X S) 0 [(0, .ref t0), (1, va_rf p1), (2, va_rf p2)] [] := by
  obtain ⟨⟨hx, hb, hml, ho, hts, hK, hA⟩, hR⟩ := id C0
  intro p1 p2 S mc ms k n hkn hw H locs ls hW hl
  rw [w_J0_init_db] at hw
  refine lv_aload_n hx hb dJ0_init_db425_0 rfl (lv_at hl 0 rfl) ?_
  refine W.objInit hx hb ho (hts (.methodLink RJ0 1 objectInit) (List.mem_of_getElem? (i := 1) rfl)) (hts (.instanceMethod objectInit) (List.mem_of_getElem? (i := 2) rfl)) (hts (.code objectInit ⟨#[0xb1]⟩ 1 none) (List.mem_of_getElem? (i := 3) rfl)) rfl (by rw [hml]; exact hl.1) rfl dJ0_init_db425_1 (Nat.le_of_ble_eq_true rfl) (Nat.le_of_ble_eq_true rfl) ?_
  refine W.eq (g2 := F0 m 4 ls []) rfl ?_
  refine lv_aloadV_n hx hb dJ0_init_db425_4 rfl (lv_at hl 1 rfl) ?_
  obtain ⟨a1, rfl, hw⟩ := hw
  obtain ⟨h3, hw⟩ := hw
  refine h_goq C0 hW (va_runU (As := []) (rest := []) ⟨hx, hb, hml, ho, hts⟩ (k_J5_getValue_6d (l := l) (u := u) (X := X) (sz := H.size) _ a1  S  hw) (va_cwU 0 hts gJ0_init_db425_J5_getValue_6d5f1_u552J4 rfl rfl rfl rfl (by decide +kernel) ⟨Nat.le_of_ble_eq_true rfl, Nat.le_of_ble_eq_true rfl⟩) ⟨h_blind, (h_recv C0 hW (ci := 1) rfl h3), (h_pre C0 hW [.ref a1])⟩ rfl rfl hl.1 rfl (lv_room (Nat.le_of_ble_eq_true rfl)) dJ0_init_db425_5 ⟨by show _ ≤ MC; omega, by show _ ≤ MS; omega⟩) (fun r2 S4 H locs h5 hW => ?_)
  obtain ⟨h6, hp⟩ := h5
  rw [h6] at hW
  replace hw := hp
  refine lv_astoreV_n (i := 3) (lv' := [(3, va_rf r2), (0, .ref t0), (1, .ref a1), (2, va_rf p2)]) hx hb dJ0_init_db425_8 rfl hl (by decide) (by show (3, va_rf r2) :: List.filter (fun q : Nat × Value => !(q.1 == 3) && !(q.1 + 1 == 3 && q.2.category == 2)) [(0, .ref t0), (1, .ref a1), (2, va_rf p2)] = [(3, va_rf r2), (0, .ref t0), (1, .ref a1), (2, va_rf p2)]; simp [va_rf_cat, va_c_ref, va_c_int, va_c_null]) (fun ls hl9 => ?_)
  replace hl := hl9
  refine lv_aload_n hx hb dJ0_init_db425_9 rfl (lv_at hl 2 rfl) ?_
  obtain ⟨h8, hw⟩ := hw
  refine h_goi C0 hW (va_runU (As := []) (rest := []) ⟨hx, hb, hml, ho, hts⟩ (k_J4_length_8a (l := l) (u := u) (X := X) (sz := H.size) _ a1  S  hw) (va_cwO 0 hts gJ0_init_db425_J4_length_8abf5_u549J4 rfl rfl rfl (List.mem_of_getElem? (i := 25) rfl) (by decide +kernel) ⟨Nat.le_of_ble_eq_true rfl, Nat.le_of_ble_eq_true rfl⟩) ⟨h_blind, (h_recv C0 hW (ci := 1) rfl h8), (h_pre C0 hW [.ref a1])⟩ rfl rfl hl.1 rfl (lv_room (Nat.le_of_ble_eq_true rfl)) dJ0_init_db425_10 ⟨by show _ ≤ MC; omega, by show _ ≤ MS; omega⟩) (fun r7 S9 H locs h10 hW => ?_)
  obtain ⟨h11, hp⟩ := h10
  rw [h11] at hW
  replace hw := hp
  refine lv_istore (lv' := [(4, .int r7), (3, va_rf r2), (0, .ref t0), (1, .ref a1), (2, va_rf p2)]) hx hb dJ0_init_db425_13 hl (by decide) (by show (4, .int r7) :: List.filter (fun q : Nat × Value => !(q.1 == 4) && !(q.1 + 1 == 4 && q.2.category == 2)) [(3, va_rf r2), (0, .ref t0), (1, .ref a1), (2, va_rf p2)] = [(4, .int r7), (3, va_rf r2), (0, .ref t0), (1, .ref a1), (2, va_rf p2)]; simp [va_rf_cat, va_c_ref, va_c_int, va_c_null]) (fun ls hl9 => ?_)
  replace hl := hl9
  refine lv_aload_n hx hb dJ0_init_db425_15 rfl (lv_at hl 3 rfl) ?_
  obtain ⟨h13, hw⟩ := hw
  refine h_goi C0 hW (va_runU (As := []) (rest := []) ⟨hx, hb, hml, ho, hts⟩ (k_J5_isLatin1_aa (l := l) (u := u) (X := X) (sz := H.size) _ a1  S  hw) (va_cwU 0 hts gJ0_init_db425_J5_isLatin1_aae02_u1047J4 rfl rfl rfl rfl (by decide +kernel) ⟨Nat.le_of_ble_eq_true rfl, Nat.le_of_ble_eq_true rfl⟩) ⟨h_blind, (h_recv C0 hW (ci := 1) rfl h13), (h_pre C0 hW [.ref a1])⟩ rfl rfl hl.1 rfl (lv_room (Nat.le_of_ble_eq_true rfl)) dJ0_init_db425_16 ⟨by show _ ≤ MC; omega, by show _ ≤ MS; omega⟩) (fun r12 S14 H locs h15 hW => ?_)
  obtain ⟨h16, hp⟩ := h15
  rw [h16] at hW
  replace hw := hp
  refine lv_if_eq (tgt := 41) hx hb dJ0_init_db425_19 (by decide) (fun c17 => ?_) (fun c17 => ?_)
  · replace hw := hw.1 c17
    refine h_gets C0 hW (List.mem_of_getElem? (i := 6) rfl) dJ0_init_db425_41 ?_
    refine lv_if_eq (tgt := 79) hx hb dJ0_init_db425_44 (by decide) (fun c18 => ?_) (fun c18 => ?_)
    · replace hw := hw.1 c18
      exact t_J0_init_db_79 C0 hin t0 post hret  r2 r7 S mc ms _ _ hkn hw _ _ _ hW (lv_sub hl [2, 1, 0] rfl)
    · replace hw := hw.2 c18
      refine lv_aload_n hx hb dJ0_init_db425_47 rfl (lv_at hl 3 rfl) ?_
      obtain ⟨v19, h20, hw⟩ := hw
      refine h_getI C0 hW (T := TJ4) (kf := 2) in_J0_init_db_RJ4 h20 rfl (by decide) (List.mem_of_getElem? (i := 7) rfl) rfl dJ0_init_db425_48 ?_
      refine lv_if_eq (tgt := 79) hx hb dJ0_init_db425_51 (by decide) (fun c21 => ?_) (fun c21 => ?_)
      · replace hw := hw.1 c21
        exact t_J0_init_db_79 C0 hin t0 post hret  r2 r7 S mc ms _ _ hkn hw _ _ _ hW (lv_sub hl [2, 1, 0] rfl)
      · replace hw := hw.2 c21
        refine lv_aload_n hx hb dJ0_init_db425_54 rfl (lv_at hl 2 rfl) ?_
        refine lv_aloadV_n hx hb dJ0_init_db425_55 rfl (lv_at hl 1 rfl) ?_
        refine lv_iconst (v := 0) hx hb dJ0_init_db425_56 (by decide) ?_
        refine lv_iload hx hb dJ0_init_db425_57 (lv_at hl 0 rfl) ?_
        exact hw.elim
  · replace hw := hw.2 c17
    refine lv_aload_n hx hb dJ0_init_db425_22 rfl (lv_at hl 2 rfl) ?_
    refine lv_iconst (v := 0) hx hb dJ0_init_db425_23 (by decide) ?_
    obtain ⟨fs22, h23, h24, hw⟩ := hw
    refine h_put C0 hW (T := TJ0) (kf := 1) (ty := .byte) in_J0_init_db_RJ0 h23 rfl (by decide) h24 tyJ0 tyJ0_ok nmJ0 (List.mem_of_getElem? (i := 4) rfl) rfl (Or.inr ⟨rfl, hin rfl, rfl⟩) (by decide +kernel) (by decide) (by decide) dJ0_init_db425_24 rfl (fun H locs hW => ?_)
    obtain ⟨S25, eS25⟩ : ∃ z : hS, z = upS S t0 (.inr (0, fs22.set 1 (.int 0))) := ⟨_, rfl⟩
    rw [← eS25] at hW
    replace hw := hw S25 eS25
    refine lv_aload_n hx hb dJ0_init_db425_27 rfl (lv_at hl 2 rfl) ?_
    refine lv_aloadV_n hx hb dJ0_init_db425_28 rfl (lv_at hl 1 rfl) ?_
    refine lv_iconst (v := 0) hx hb dJ0_init_db425_29 (by decide) ?_
    refine lv_iload hx hb dJ0_init_db425_30 (lv_at hl 0 rfl) ?_
    obtain ⟨k27, n28, h29, h30, hw⟩ := hw
    refine h_goq C0 hW (va_runS (As := [va_rf r2, .int 0, .int r7]) (rest := [.ref t0]) ⟨hx, hb, hml, ho, hts⟩ (k_J7_copyOfRange_39 (l := l) (u := u) (X := X) (sz := H.size) _ r2 0 r7 S25 k27 n28 hw) (va_cwS 3 hts gJ0_init_db425_J7_copyOfRange_39247 rfl rfl rfl (by decide +kernel) ⟨Nat.le_of_ble_eq_true rfl, Nat.le_of_ble_eq_true rfl⟩) ⟨h_blind, (h_pre C0 hW [va_rf r2, .int 0, .int r7])⟩ rfl rfl hl.1 rfl (lv_room (Nat.le_of_ble_eq_true rfl)) dJ0_init_db425_32 ⟨by show _ ≤ MC; omega, by show _ ≤ MS; omega⟩) (fun r26 S31 H locs h32 hW => ?_)
    replace hw := h32
    have hkn : (k + k27) + (mc - k27) ≤ MC ∧ (n + n28) + (ms - n28) ≤ MS := by omega
    obtain ⟨fs33, h34, h35, hw⟩ := hw
    refine h_put C0 hW (T := TJ0) (kf := 0) (ty := .array (.byte)) in_J0_init_db_RJ0 h34 rfl (by decide) h35 tyJ0 tyJ0_ok nmJ0 (List.mem_of_getElem? (i := 5) rfl) rfl (Or.inr ⟨rfl, hin rfl, rfl⟩) (by decide +kernel) (by cases r26 <;> rfl) (by cases r26 <;> rfl) dJ0_init_db425_35 (va_rf_cat _) (fun H locs hW => ?_)
    obtain ⟨S36, eS36⟩ : ∃ z : hS, z = upS S31 t0 (.inr (0, fs33.set 0 (va_rf r26))) := ⟨_, rfl⟩
    rw [← eS36] at hW
    replace hw := hw S36 eS36
    refine lv_goto (tgt := 97) hx hb dJ0_init_db425_38 (by decide) ?_
    exact hret S36 _ _ _ _ (by omega) (by omega) hw dJ0_init_db425_97 _ _ _ hW hl
set_option maxHeartbeats 4000000 in
set_option maxRecDepth 100000 in
theorem k_J0_init_db {l : Launch} {D : va_G} {u : hU} {X : va_W} {sz : Nat} (post : hS → Prop) (t0 : Nat) (p1 : Option Nat) (p2 : Option Nat) (S : hS) (mc ms : Nat) (hw : w_J0_init_db u post t0 p1 p2 S mc ms) : hMv l yJ0_init_db425 wsJ0_init_db425 (rm_J0_init_db mc ms) D (gt u.2.1) u.1 u.2.2 sz X S [.ref t0, va_rf p1, va_rf p2] post mc ms := by
  refine hMv_of (cc := cJ0_init_db425) (nL := 5) (own := RJ0) (by decide) rfl rfl (by cases p1 <;> cases p2 <;> exact Nat.le_of_ble_eq_true rfl) ?_
  intro p e s m args below meth c A Q C0 hin hret
  have hfin := t_J0_init_db_0 C0 hin t0 post hret p1 p2 S mc ms 0 0 ⟨by omega, by omega⟩ hw
  intro H locs ls hW hl
  refine hfin H locs ls hW ?_
  cases p1 <;> cases p2 <;> exact hl
abbrev rm_J0_init_81 (MC MS : Nat) : Room := { frames := 4, cells := MC, slots := MS, locals := 91 }
set_option maxHeartbeats 4000000 in
set_option maxRecDepth 100000 in
theorem t_J0_init_81_0 (C0 : hX p s m args c cJ0_init_81219 2 RJ0 wsJ0_init_81219 D (gt u.2.1) A u.1 u.2.2) (hin : yJ0_init_81219.name = "<init>" → meth.name = "<init>") (t0 : Nat) (post : hS → Prop) (hret : ∀ (S' : hS) (pc : Nat) (lv : List (Nat × Value)) (k n : Nat), k ≤ MC → n ≤ MS → post S' → decode cJ0_init_81219 pc = .ok (.return_, 1) → gG p l e (rm_J0_init_81 MC MS) s m args below meth c Q D A 2 k n (hC X S') pc lv [])  : ∀ (p1 : Option Nat) (S : hS) (mc ms k n : Nat), k + mc ≤ MC ∧ n + ms ≤ MS → w_J0_init_81 u post t0  p1 S mc ms → gG p l e (rm_J0_init_81 MC MS) s m args below meth c Q D A 2 k n (hC X S) 0 [(0, .ref t0), (1, va_rf p1)] [] := by
  obtain ⟨⟨hx, hb, hml, ho, hts, hK, hA⟩, hR⟩ := id C0
  intro p1 S mc ms k n hkn hw H locs ls hW hl
  rw [w_J0_init_81] at hw
  refine lv_aload_n hx hb dJ0_init_81219_0 rfl (lv_at hl 0 rfl) ?_
  refine lv_aloadV_n hx hb dJ0_init_81219_1 rfl (lv_at hl 1 rfl) ?_
  refine lv_null hx hb dJ0_init_81219_2 ?_
  obtain ⟨k2, n3, h4, h5, hw⟩ := hw
  refine h_gov C0 hW (va_runI (As := [va_rf p1, .null]) (rest := []) ⟨hx, hb, hml, ho, hts⟩ (k_J0_init_db (l := l) (u := u) (X := X) (sz := H.size) _ t0 p1 none S k2 n3 hw) (cwI 2 hts gJ0_init_81219_J0_init_db425 rfl rfl rfl (hts _ (List.mem_of_getElem? (i := 3) rfl)) (hts _ (List.mem_of_getElem? (i := 1) rfl)) (hts _ (List.mem_of_getElem? (i := 2) rfl)) rfl (by decide +kernel) ⟨Nat.le_of_ble_eq_true rfl, Nat.le_of_ble_eq_true rfl⟩) ⟨h_blind, (h_pre C0 hW [.ref t0, va_rf p1, .null])⟩ rfl rfl hl.1 rfl (lv_room (Nat.le_of_ble_eq_true rfl)) dJ0_init_81219_3 ⟨by show _ ≤ MC; omega, by show _ ≤ MS; omega⟩) (fun S6 H locs h7 hW => ?_)
  replace hw := h7
  have hkn : (k + k2) + (mc - k2) ≤ MC ∧ (n + n3) + (ms - n3) ≤ MS := by omega
  exact hret S6 _ _ _ _ (by omega) (by omega) hw dJ0_init_81219_6 _ _ _ hW hl
set_option maxHeartbeats 4000000 in
set_option maxRecDepth 100000 in
theorem k_J0_init_81 {l : Launch} {D : va_G} {u : hU} {X : va_W} {sz : Nat} (post : hS → Prop) (t0 : Nat) (p1 : Option Nat) (S : hS) (mc ms : Nat) (hw : w_J0_init_81 u post t0 p1 S mc ms) : hMv l yJ0_init_81219 wsJ0_init_81219 (rm_J0_init_81 mc ms) D (gt u.2.1) u.1 u.2.2 sz X S [.ref t0, va_rf p1] post mc ms := by
  refine hMv_of (cc := cJ0_init_81219) (nL := 2) (own := RJ0) (by decide) rfl rfl (by cases p1 <;> exact Nat.le_of_ble_eq_true rfl) ?_
  intro p e s m args below meth c A Q C0 hin hret
  have hfin := t_J0_init_81_0 C0 hin t0 post hret p1 S mc ms 0 0 ⟨by omega, by omega⟩ hw
  intro H locs ls hW hl
  refine hfin H locs ls hW ?_
  cases p1 <;> exact hl
abbrev rm_J4_toString_0e (MC MS : Nat) : Room := { frames := 5, cells := MC, slots := MS, locals := 112 }
theorem in_J4_toString_0e_RJ0 : ∀ w ∈ wsJ00, w ∈ wsJ4_toString_0e30d := fun w hw9 => List.mem_cons_of_mem _ (List.mem_append_left _ (List.mem_append_right _ hw9))
set_option maxHeartbeats 4000000 in
set_option maxRecDepth 100000 in
theorem t_J4_toString_0e_0 (C0 : hX p s m args c cJ4_toString_0e30d 1 RJ4 wsJ4_toString_0e30d D (gt u.2.1) A u.1 u.2.2) (t0 : Nat) (post : Option Nat → hS → Prop) (hret : ∀ (r : Option Nat) (S' : hS) (pc : Nat) (lv : List (Nat × Value)) (k n : Nat), k ≤ MC → n ≤ MS → post r S' → decode cJ4_toString_0e30d pc = .ok (.areturn, 1) → gG p l e (rm_J4_toString_0e MC MS) s m args below meth c Q D A 1 k n (hC X S') pc lv [va_rf r])  : ∀ (S : hS) (mc ms k n : Nat), k + mc ≤ MC ∧ n + ms ≤ MS → w_J4_toString_0e u post t0   S mc ms → gG p l e (rm_J4_toString_0e MC MS) s m args below meth c Q D A 1 k n (hC X S) 0 [(0, .ref t0)] [] := by
  obtain ⟨⟨hx, hb, hml, ho, hts, hK, hA⟩, hR⟩ := id C0
  intro  S mc ms k n hkn hw H locs ls hW hl
  rw [w_J4_toString_0e] at hw
  obtain ⟨h4, h5, hw⟩ := hw
  refine h_new C0 hW (ci := 0) (fs := [.null, .int 0, .int 0, .int 0]) in_J4_toString_0e_RJ0 rfl tyJ0 tyJ0_ok (List.mem_of_getElem? (i := 1) rfl) (List.mem_of_getElem? (i := 2) rfl) (List.mem_of_getElem? (i := 3) rfl) (fun j hj => by rcases (show j = 0 ∨ j = 1 ∨ j = 2 ∨ j = 3 by omega) with rfl | rfl | rfl | rfl <;> rfl) (by show _ ≤ MC; omega) (by show _ ≤ MS; omega) dJ4_toString_0e30d_0 (fun q1 H h2 hW => ?_)
  obtain ⟨S3, eS3⟩ : ∃ z : hS, z = adS S q1 (.inr (0, [.null, .int 0, .int 0, .int 0])) := ⟨_, rfl⟩
  rw [← eS3] at hW
  replace hw := hw q1 S3 h2 eS3
  have hkn : (k + 1) + (mc - 1) ≤ MC ∧ (n + 4) + (ms - 4) ≤ MS := by omega
  refine lv_dup hx hb dJ4_toString_0e30d_3 rfl ?_
  refine lv_aload_n hx hb dJ4_toString_0e30d_4 rfl (lv_at hl 0 rfl) ?_
  obtain ⟨k7, n8, h9, h10, hw⟩ := hw
  refine h_gov C0 hW (va_runI (As := [.ref t0]) (rest := [.ref q1]) ⟨hx, hb, hml, ho, hts⟩ (k_J0_init_81 (l := l) (u := u) (X := X) (sz := H.size) _ q1 (some t0) S3 k7 n8 hw) (cwI 1 hts gJ4_toString_0e30d_J0_init_81219 rfl rfl rfl (hts _ (List.mem_of_getElem? (i := 3) rfl)) (hts _ (List.mem_of_getElem? (i := 4) rfl)) (hts _ (List.mem_of_getElem? (i := 5) rfl)) rfl (by decide +kernel) ⟨Nat.le_of_ble_eq_true rfl, Nat.le_of_ble_eq_true rfl⟩) ⟨h_blind, (h_pre C0 hW [.ref q1, .ref t0])⟩ rfl rfl hl.1 rfl (lv_room (Nat.le_of_ble_eq_true rfl)) dJ4_toString_0e30d_5 ⟨by show _ ≤ MC; omega, by show _ ≤ MS; omega⟩) (fun S11 H locs h12 hW => ?_)
  replace hw := h12
  have hkn : ((k + 1) + k7) + ((mc - 1) - k7) ≤ MC ∧ ((n + 4) + n8) + ((ms - 4) - n8) ≤ MS := by omega
  exact hret (some q1) S11 _ _ _ _ (by omega) (by omega) hw dJ4_toString_0e30d_8 _ _ _ hW hl
set_option maxHeartbeats 4000000 in
set_option maxRecDepth 100000 in
theorem k_J4_toString_0e {l : Launch} {D : va_G} {u : hU} {X : va_W} {sz : Nat} (post : Option Nat → hS → Prop) (t0 : Nat) (S : hS) (mc ms : Nat) (hw : w_J4_toString_0e u post t0  S mc ms) : hMq l yJ4_toString_0e30d wsJ4_toString_0e30d (rm_J4_toString_0e mc ms) D (gt u.2.1) u.1 u.2.2 sz X S [.ref t0] post mc ms := by
  refine hMq_of (cc := cJ4_toString_0e30d) (nL := 1) (ty := (.object "java/lang/String")) (own := RJ4) (by decide) rfl rfl (Nat.le_of_ble_eq_true rfl) (Or.inl ⟨_, rfl⟩) ?_
  intro p e s m args below meth c A Q C0 hin hret
  exact t_J4_toString_0e_0 C0 t0 post hret  S mc ms 0 0 ⟨by omega, by omega⟩ hw
abbrev rm_J1_equals_b5 : Room := { frames := 0, cells := 0, slots := 0, locals := 0 }
set_option maxHeartbeats 4000000 in
set_option maxRecDepth 100000 in
theorem t_J1_equals_b5_9 (C0 : hX p s m args c cJ1_equals_b5fdf 3 RJ1 wsJ1_equals_b5fdf D (gt u.2.1) A u.1 u.2.2) {S : hS}  (post : Int32 → Prop) (hret : ∀ (r : Int32) (S' : hS) (pc : Nat) (lv : List (Nat × Value)) (k n : Nat), k ≤ 0 → n ≤ 0 → (S' = S ∧ post r) → narrow .boolean (.int r) = .int r → decode cJ1_equals_b5fdf pc = .ok (.ireturn, 1) → gG p l e (rm_J1_equals_b5) s m args below meth c Q D A 3 k n (hC X S') pc lv [.int r])  : ∀ (nf : Nat) (x0 : Nat) (x1 : Nat) (x2 : Int32), w_J1_equals_b5_9 u post   nf x0 x1 x2 S → gG p l e (rm_J1_equals_b5) s m args below meth c Q D A 3 0 0 (hC X S) 9 [(0, .ref x0), (1, .ref x1), (2, .int x2)] [] := by
  obtain ⟨⟨hx, hb, hml, ho, hts, hK, hA⟩, hR⟩ := id C0
  intro nf
  induction nf with
  | zero => intro x0 x1 x2 hw; exact hw.elim
  | succ nf ih =>
    intro x0 x1 x2 hw H locs ls hW hl
    rw [w_J1_equals_b5_9] at hw
    refine lv_iload_n hx hb dJ1_equals_b5fdf_9 rfl (lv_at hl 2 rfl) ?_
    refine lv_aload_n hx hb dJ1_equals_b5fdf_10 rfl (lv_at hl 0 rfl) ?_
    obtain ⟨N11, g12, h13, hw⟩ := hw
    refine h_blen C0 hW h13 rfl dJ1_equals_b5fdf_11 ?_
    refine lv_icmp_ge (tgt := 32) hx hb dJ1_equals_b5fdf_12 (by decide) (fun c14 => ?_) (fun c14 => ?_)
    · replace hw := hw.1 c14
      refine lv_iconst (v := 1) hx hb dJ1_equals_b5fdf_32 (by decide) ?_
      exact hret 1 S _ _ 0 0 (Nat.le_refl _) (Nat.le_refl _) ⟨rfl, hw⟩ (by decide) dJ1_equals_b5fdf_33 _ _ _ hW hl
    · replace hw := hw.2 c14
      refine lv_aload_n hx hb dJ1_equals_b5fdf_15 rfl (lv_at hl 0 rfl) ?_
      refine lv_iload_n hx hb dJ1_equals_b5fdf_16 rfl (lv_at hl 2 rfl) ?_
      obtain ⟨N15, g16, h17, h18, hw⟩ := hw
      refine h_bald C0 hW h17 rfl h18 dJ1_equals_b5fdf_17 ?_
      refine lv_aload_n hx hb dJ1_equals_b5fdf_18 rfl (lv_at hl 1 rfl) ?_
      refine lv_iload_n hx hb dJ1_equals_b5fdf_19 rfl (lv_at hl 2 rfl) ?_
      obtain ⟨N19, g20, h21, h22, hw⟩ := hw
      refine h_bald C0 hW h21 rfl h22 dJ1_equals_b5fdf_20 ?_
      refine lv_icmp_eq (tgt := 26) hx hb dJ1_equals_b5fdf_21 (by decide) (fun c23 => ?_) (fun c23 => ?_)
      · replace hw := hw.1 c23
        obtain ⟨v24, ev24⟩ : ∃ y : Int32, y = x2 + 1 := ⟨_, rfl⟩
        replace hw := hw v24 ev24
        refine lv_iinc (v := v24) (lv' := [(2, .int v24), (0, .ref x0), (1, .ref x1)]) hx hb dJ1_equals_b5fdf_26 hl (k := 2) rfl (by rw [ev24]; rfl) (by decide) rfl (fun ls hl9 => ?_)
        replace hl := hl9
        refine lv_goto (tgt := 9) hx hb dJ1_equals_b5fdf_29 (by decide) ?_
        exact ih x0 x1 v24   hw _ _ _ hW (lv_sub hl [1, 2, 0] rfl)
      · replace hw := hw.2 c23
        refine lv_iconst (v := 0) hx hb dJ1_equals_b5fdf_24 (by decide) ?_
        exact hret 0 S _ _ 0 0 (Nat.le_refl _) (Nat.le_refl _) ⟨rfl, hw⟩ (by decide) dJ1_equals_b5fdf_25 _ _ _ hW hl
set_option maxHeartbeats 4000000 in
set_option maxRecDepth 100000 in
theorem t_J1_equals_b5_0 (C0 : hX p s m args c cJ1_equals_b5fdf 3 RJ1 wsJ1_equals_b5fdf D (gt u.2.1) A u.1 u.2.2) {S : hS}  (post : Int32 → Prop) (hret : ∀ (r : Int32) (S' : hS) (pc : Nat) (lv : List (Nat × Value)) (k n : Nat), k ≤ 0 → n ≤ 0 → (S' = S ∧ post r) → narrow .boolean (.int r) = .int r → decode cJ1_equals_b5fdf pc = .ok (.ireturn, 1) → gG p l e (rm_J1_equals_b5) s m args below meth c Q D A 3 k n (hC X S') pc lv [.int r])  : ∀ (p1 : Option Nat) (p2 : Option Nat), w_J1_equals_b5 u post   p1 p2 S → gG p l e (rm_J1_equals_b5) s m args below meth c Q D A 3 0 0 (hC X S) 0 [(0, va_rf p1), (1, va_rf p2)] [] := by
  obtain ⟨⟨hx, hb, hml, ho, hts, hK, hA⟩, hR⟩ := id C0
  intro p1 p2 hw H locs ls hW hl
  rw [w_J1_equals_b5] at hw
  refine lv_aloadV_n hx hb dJ1_equals_b5fdf_0 rfl (lv_at hl 0 rfl) ?_
  obtain ⟨a1, rfl, hw⟩ := hw
  obtain ⟨N2, g3, h4, hw⟩ := hw
  refine h_blen C0 hW h4 rfl dJ1_equals_b5fdf_1 ?_
  refine lv_aloadV_n hx hb dJ1_equals_b5fdf_2 rfl (lv_at hl 1 rfl) ?_
  obtain ⟨a5, rfl, hw⟩ := hw
  obtain ⟨N6, g7, h8, hw⟩ := hw
  refine h_blen C0 hW h8 rfl dJ1_equals_b5fdf_3 ?_
  refine lv_icmp_ne (tgt := 34) hx hb dJ1_equals_b5fdf_4 (by decide) (fun c9 => ?_) (fun c9 => ?_)
  · replace hw := hw.1 c9
    refine lv_iconst (v := 0) hx hb dJ1_equals_b5fdf_34 (by decide) ?_
    exact hret 0 S _ _ 0 0 (Nat.le_refl _) (Nat.le_refl _) ⟨rfl, hw⟩ (by decide) dJ1_equals_b5fdf_35 _ _ _ hW hl
  · replace hw := hw.2 c9
    refine lv_iconst (v := 0) hx hb dJ1_equals_b5fdf_7 (by decide) ?_
    refine lv_istore_n (lv' := [(2, .int 0), (0, .ref a1), (1, .ref a5)]) hx hb dJ1_equals_b5fdf_8 rfl hl (by decide) rfl (fun ls hl9 => ?_)
    replace hl := hl9
    obtain ⟨n10, hw⟩ := hw
    exact t_J1_equals_b5_9 C0  post hret  n10 a1 a5 0   hw _ _ _ hW (lv_sub hl [1, 2, 0] rfl)
set_option maxHeartbeats 4000000 in
set_option maxRecDepth 100000 in
theorem k_J1_equals_b5 {l : Launch} {D : va_G} {u : hU} {X : va_W} {sz : Nat} (post : Int32 → Prop) (p1 : Option Nat) (p2 : Option Nat) (S : hS) (hw : w_J1_equals_b5 u post  p1 p2 S) : hMi l yJ1_equals_b5fdf wsJ1_equals_b5fdf rm_J1_equals_b5 D (gt u.2.1) u.1 u.2.2 sz X S [va_rf p1, va_rf p2] (fun r S' => S' = S ∧ post r) 0 0 := by
  refine hMi_of (cc := cJ1_equals_b5fdf) (nL := 3) (ty := .boolean) (own := RJ1) (by decide) rfl rfl (by cases p1 <;> cases p2 <;> exact Nat.le_of_ble_eq_true rfl) ?_
  intro p e s m args below meth c A Q C0 hin hret
  have hfin := t_J1_equals_b5_0 C0  post hret p1 p2 hw
  intro H locs ls hW hl
  refine hfin H locs ls hW ?_
  cases p1 <;> cases p2 <;> exact hl
abbrev rm_J0_equals_9e : Room := { frames := 1, cells := 0, slots := 0, locals := 22 }
theorem in_J0_equals_9e_RJ0 : ∀ w ∈ wsJ00, w ∈ wsJ0_equals_9ea2d := fun w hw9 => List.mem_cons_of_mem _ (List.mem_append_right _ hw9)
set_option maxHeartbeats 4000000 in
set_option maxRecDepth 100000 in
theorem t_J0_equals_9e_36 (C0 : hX p s m args c cJ0_equals_9ea2d 3 RJ0 wsJ0_equals_9ea2d D (gt u.2.1) A u.1 u.2.2) {S : hS} (t0 : Nat) (post : Int32 → Prop) (hret : ∀ (r : Int32) (S' : hS) (pc : Nat) (lv : List (Nat × Value)) (k n : Nat), k ≤ 0 → n ≤ 0 → (S' = S ∧ post r) → narrow .boolean (.int r) = .int r → decode cJ0_equals_9ea2d pc = .ok (.ireturn, 1) → gG p l e (rm_J0_equals_9e) s m args below meth c Q D A 3 k n (hC X S') pc lv [.int r])  : ∀ (x2 : Nat), w_J0_equals_9e_36 u post t0  x2 S → gG p l e (rm_J0_equals_9e) s m args below meth c Q D A 3 0 0 (hC X S) 36 [(0, .ref t0), (2, .ref x2)] [] := by
  obtain ⟨⟨hx, hb, hml, ho, hts, hK, hA⟩, hR⟩ := id C0
  intro x2 hw H locs ls hW hl
  rw [w_J0_equals_9e_36] at hw
  refine lv_aload_n hx hb dJ0_equals_9ea2d_36 rfl (lv_at hl 0 rfl) ?_
  obtain ⟨b12, h13, hw⟩ := hw
  refine h_getSV C0 hW in_J0_equals_9e_RJ0 h13 (List.mem_of_getElem? (i := 4) rfl) dJ0_equals_9ea2d_37 ?_
  refine lv_aload_n hx hb dJ0_equals_9ea2d_40 rfl (lv_at hl 1 rfl) ?_
  obtain ⟨b14, h15, hw⟩ := hw
  refine h_getSV C0 hW in_J0_equals_9e_RJ0 h15 (List.mem_of_getElem? (i := 4) rfl) dJ0_equals_9ea2d_41 ?_
  refine h_goi C0 hW (va_runS (As := [.ref b12, .ref b14]) (rest := []) ⟨hx, hb, hml, ho, hts⟩ (k_J1_equals_b5 (l := l) (u := u) (X := X) (sz := H.size) _ (some b12) (some b14) S  hw) (va_cwS 2 hts gJ0_equals_9ea2d_J1_equals_b5fdf rfl rfl rfl (by decide +kernel) ⟨Nat.le_of_ble_eq_true rfl, Nat.le_of_ble_eq_true rfl⟩) ⟨h_blind, (h_pre C0 hW [.ref b12, .ref b14])⟩ rfl rfl hl.1 rfl (lv_room (Nat.le_of_ble_eq_true rfl)) dJ0_equals_9ea2d_44 ⟨Nat.le_refl _, Nat.le_refl _⟩) (fun r16 S17 H locs h18 hW => ?_)
  obtain ⟨h19, hp⟩ := h18
  rw [h19] at hW
  replace hw := hp
  refine lv_if_eq (tgt := 54) hx hb dJ0_equals_9ea2d_47 (by decide) (fun c20 => ?_) (fun c20 => ?_)
  · replace hw := hw.1 c20
    refine lv_iconst (v := 0) hx hb dJ0_equals_9ea2d_54 (by decide) ?_
    exact hret 0 S _ _ 0 0 (Nat.le_refl _) (Nat.le_refl _) ⟨rfl, hw⟩ (by decide) dJ0_equals_9ea2d_55 _ _ _ hW hl
  · replace hw := hw.2 c20
    refine lv_iconst (v := 1) hx hb dJ0_equals_9ea2d_50 (by decide) ?_
    refine lv_goto (tgt := 55) hx hb dJ0_equals_9ea2d_51 (by decide) ?_
    exact hret 1 S _ _ 0 0 (Nat.le_refl _) (Nat.le_refl _) ⟨rfl, hw⟩ (by decide) dJ0_equals_9ea2d_55 _ _ _ hW hl
set_option maxHeartbeats 4000000 in
set_option maxRecDepth 100000 in
theorem t_J0_equals_9e_0 (C0 : hX p s m args c cJ0_equals_9ea2d 3 RJ0 wsJ0_equals_9ea2d D (gt u.2.1) A u.1 u.2.2) {S : hS} (t0 : Nat) (post : Int32 → Prop) (hret : ∀ (r : Int32) (S' : hS) (pc : Nat) (lv : List (Nat × Value)) (k n : Nat), k ≤ 0 → n ≤ 0 → (S' = S ∧ post r) → narrow .boolean (.int r) = .int r → decode cJ0_equals_9ea2d pc = .ok (.ireturn, 1) → gG p l e (rm_J0_equals_9e) s m args below meth c Q D A 3 k n (hC X S') pc lv [.int r])  : ∀ (p1 : Option Nat), w_J0_equals_9e u post t0  p1 S → gG p l e (rm_J0_equals_9e) s m args below meth c Q D A 3 0 0 (hC X S) 0 [(0, .ref t0), (1, va_rf p1)] [] := by
  obtain ⟨⟨hx, hb, hml, ho, hts, hK, hA⟩, hR⟩ := id C0
  intro p1 hw H locs ls hW hl
  rw [w_J0_equals_9e] at hw
  refine lv_aload_n hx hb dJ0_equals_9ea2d_0 rfl (lv_at hl 0 rfl) ?_
  refine lv_aloadV_n hx hb dJ0_equals_9ea2d_1 rfl (lv_at hl 1 rfl) ?_
  refine lv_acmp_ne (rx := (some t0)) (ry := p1) (tgt := 7) hx hb dJ0_equals_9ea2d_2 (by decide) (fun c1 => ?_) (fun c1 => ?_)
  · replace hw := hw.1 c1
    refine lv_aloadV_n hx hb dJ0_equals_9ea2d_7 rfl (lv_at hl 1 rfl) ?_
    obtain ⟨a2, rfl, hw⟩ := hw
    obtain ⟨h3, hw⟩ := hw
    refine va_instE hx hb ho (hts (.classLink RJ0 10 "java/lang/String") (List.mem_of_getElem? (i := 1) rfl)) (h_recvS C0 hW h3) dJ0_equals_9ea2d_8 ?_
    refine lv_if_eq (tgt := 54) hx hb dJ0_equals_9ea2d_11 (by decide) (fun c4 => ?_) (fun c4 => ?_)
    · replace hw := hw.1 c4
      refine lv_iconst (v := 0) hx hb dJ0_equals_9ea2d_54 (by decide) ?_
      exact hret 0 S _ _ 0 0 (Nat.le_refl _) (Nat.le_refl _) ⟨rfl, hw⟩ (by decide) dJ0_equals_9ea2d_55 _ _ _ hW hl
    · replace hw := hw.2 c4
      refine lv_aload_n hx hb dJ0_equals_9ea2d_14 rfl (lv_at hl 1 rfl) ?_
      obtain ⟨h5, hw⟩ := hw
      refine va_castE hx hb ho (hts (.classLink RJ0 10 "java/lang/String") (List.mem_of_getElem? (i := 1) rfl)) (h_recvS C0 hW h5) dJ0_equals_9ea2d_15 ?_
      refine lv_astore_n (i := 2) (lv' := [(2, .ref a2), (0, .ref t0), (1, .ref a2)]) hx hb dJ0_equals_9ea2d_18 rfl hl (by decide) rfl (fun ls hl9 => ?_)
      replace hl := hl9
      refine h_gets C0 hW (List.mem_of_getElem? (i := 2) rfl) dJ0_equals_9ea2d_19 ?_
      refine lv_if_eq (tgt := 36) hx hb dJ0_equals_9ea2d_22 (by decide) (fun c6 => ?_) (fun c6 => ?_)
      · replace hw := hw.1 c6
        exact t_J0_equals_9e_36 C0 t0 post hret  a2   hw _ _ _ hW (lv_sub hl [1, 0] rfl)
      · replace hw := hw.2 c6
        refine lv_aload_n hx hb dJ0_equals_9ea2d_25 rfl (lv_at hl 1 rfl) ?_
        obtain ⟨v7, h8, hw⟩ := hw
        refine h_getSC C0 hW in_J0_equals_9e_RJ0 h8 (List.mem_of_getElem? (i := 3) rfl) dJ0_equals_9ea2d_26 ?_
        refine lv_aload_n hx hb dJ0_equals_9ea2d_29 rfl (lv_at hl 0 rfl) ?_
        obtain ⟨v9, h10, hw⟩ := hw
        refine h_getSC C0 hW in_J0_equals_9e_RJ0 h10 (List.mem_of_getElem? (i := 3) rfl) dJ0_equals_9ea2d_30 ?_
        refine lv_icmp_ne (tgt := 54) hx hb dJ0_equals_9ea2d_33 (by decide) (fun c11 => ?_) (fun c11 => ?_)
        · replace hw := hw.1 c11
          refine lv_iconst (v := 0) hx hb dJ0_equals_9ea2d_54 (by decide) ?_
          exact hret 0 S _ _ 0 0 (Nat.le_refl _) (Nat.le_refl _) ⟨rfl, hw⟩ (by decide) dJ0_equals_9ea2d_55 _ _ _ hW hl
        · replace hw := hw.2 c11
          exact t_J0_equals_9e_36 C0 t0 post hret  a2   hw _ _ _ hW (lv_sub hl [1, 0] rfl)
  · replace hw := hw.2 c1
    refine lv_iconst (v := 1) hx hb dJ0_equals_9ea2d_5 (by decide) ?_
    exact hret 1 S _ _ 0 0 (Nat.le_refl _) (Nat.le_refl _) ⟨rfl, hw⟩ (by decide) dJ0_equals_9ea2d_6 _ _ _ hW hl
set_option maxHeartbeats 4000000 in
set_option maxRecDepth 100000 in
theorem k_J0_equals_9e {l : Launch} {D : va_G} {u : hU} {X : va_W} {sz : Nat} (post : Int32 → Prop) (t0 : Nat) (p1 : Option Nat) (S : hS) (hw : w_J0_equals_9e u post t0 p1 S) : hMi l yJ0_equals_9ea2d wsJ0_equals_9ea2d rm_J0_equals_9e D (gt u.2.1) u.1 u.2.2 sz X S [.ref t0, va_rf p1] (fun r S' => S' = S ∧ post r) 0 0 := by
  refine hMi_of (cc := cJ0_equals_9ea2d) (nL := 3) (ty := .boolean) (own := RJ0) (by decide) rfl rfl (by cases p1 <;> exact Nat.le_of_ble_eq_true rfl) ?_
  intro p e s m args below meth c A Q C0 hin hret
  have hfin := t_J0_equals_9e_0 C0 t0 post hret p1 hw
  intro H locs ls hW hl
  refine hfin H locs ls hW ?_
  cases p1 <;> exact hl
abbrev rm_J5_charAt_50 : Room := { frames := 2, cells := 0, slots := 0, locals := 43 }
theorem in_J5_charAt_50_RJ4 : ∀ w ∈ wsJ40, w ∈ wsJ5_charAt_5068e := fun w hw9 => List.mem_cons_of_mem _ (List.mem_append_right _ hw9)
set_option maxHeartbeats 4000000 in
set_option maxRecDepth 100000 in
theorem t_J5_charAt_50_0 (C0 : hX p s m args c cJ5_charAt_5068e 5 RJ5 wsJ5_charAt_5068e D (gt u.2.1) A u.1 u.2.2) {S : hS} (t0 : Nat) (post : Int32 → Prop) (hret : ∀ (r : Int32) (S' : hS) (pc : Nat) (lv : List (Nat × Value)) (k n : Nat), k ≤ 0 → n ≤ 0 → (S' = S ∧ post r) → narrow .char (.int r) = .int r → decode cJ5_charAt_5068e pc = .ok (.ireturn, 1) → gG p l e (rm_J5_charAt_50) s m args below meth c Q D A 5 k n (hC X S') pc lv [.int r])  : ∀ (z1 : Int32), w_J5_charAt_50 u post t0  z1 S → gG p l e (rm_J5_charAt_50) s m args below meth c Q D A 5 0 0 (hC X S) 0 [(0, .ref t0), (1, .int z1)] [] := by
  obtain ⟨⟨hx, hb, hml, ho, hts, hK, hA⟩, hR⟩ := id C0
  intro z1 hw H locs ls hW hl
  rw [w_J5_charAt_50] at hw
  refine lv_aload_n hx hb dJ5_charAt_5068e_0 rfl (lv_at hl 0 rfl) ?_
  obtain ⟨v1, h2, hw⟩ := hw
  refine h_getI C0 hW (T := TJ4) (kf := 1) in_J5_charAt_50_RJ4 h2 rfl (by decide) (List.mem_of_getElem? (i := 1) rfl) rfl dJ5_charAt_5068e_1 ?_
  refine lv_istore_n (lv' := [(2, .int v1), (0, .ref t0), (1, .int z1)]) hx hb dJ5_charAt_5068e_4 rfl hl (by decide) rfl (fun ls hl9 => ?_)
  replace hl := hl9
  refine lv_aload_n hx hb dJ5_charAt_5068e_5 rfl (lv_at hl 1 rfl) ?_
  obtain ⟨o3, h4, hw⟩ := hw
  refine h_getR C0 hW (T := TJ4) (kf := 0) in_J5_charAt_50_RJ4 h4 rfl (by decide) (List.mem_of_getElem? (i := 2) rfl) rfl dJ5_charAt_5068e_6 ?_
  refine lv_astoreV_n (i := 3) (lv' := [(3, va_rf o3), (2, .int v1), (0, .ref t0), (1, .int z1)]) hx hb dJ5_charAt_5068e_9 rfl hl (by decide) rfl (fun ls hl9 => ?_)
  replace hl := hl9
  refine lv_aload_n hx hb dJ5_charAt_5068e_10 rfl (lv_at hl 2 rfl) ?_
  obtain ⟨v5, h6, hw⟩ := hw
  refine h_getI C0 hW (T := TJ4) (kf := 3) in_J5_charAt_50_RJ4 h6 rfl (by decide) (List.mem_of_getElem? (i := 3) rfl) rfl dJ5_charAt_5068e_11 ?_
  refine lv_aloadV_n hx hb dJ5_charAt_5068e_14 rfl (lv_at hl 0 rfl) ?_
  obtain ⟨a7, rfl, hw⟩ := hw
  obtain ⟨N8, g9, h10, hw⟩ := hw
  refine h_blen C0 hW h10 rfl dJ5_charAt_5068e_15 ?_
  refine lv_iload_n hx hb dJ5_charAt_5068e_16 rfl (lv_at hl 1 rfl) ?_
  refine lv_ishr hx hb dJ5_charAt_5068e_17 ?_
  refine va_mmin hx hb (hml.trans hl.1.symm) ho (hts (.methodLink RJ5 138 Lib.Math.min.name) (List.mem_of_getElem? (i := 4) rfl)) (hts _ (List.mem_of_getElem? (i := 5) rfl)) (hts _ (List.mem_of_getElem? (i := 6) rfl)) (hts _ (List.mem_of_getElem? (i := 7) rfl)) (Nat.le_of_ble_eq_true rfl) (Nat.le_of_ble_eq_true rfl) (Nat.zero_le _) (Nat.zero_le _) dJ5_charAt_5068e_18 ?_
  refine lv_topi (fun v11 ev11 => ?_)
  replace hw := hw v11 ev11
  refine lv_istore (lv' := [(4, .int v11), (3, .ref a7), (2, .int v1), (0, .ref t0), (1, .int z1)]) hx hb dJ5_charAt_5068e_21 hl (by decide) rfl (fun ls hl9 => ?_)
  replace hl := hl9
  refine lv_iload_n hx hb dJ5_charAt_5068e_23 rfl (lv_at hl 4 rfl) ?_
  refine lv_iload hx hb dJ5_charAt_5068e_24 (lv_at hl 0 rfl) ?_
  refine h_gov C0 hW (va_runS (As := [.int z1, .int v11]) (rest := []) ⟨hx, hb, hml, ho, hts⟩ (k_J0_checkIndex_df (l := l) (u := u) (X := X) (sz := H.size) _ z1 v11 S  hw) (va_cwS 2 hts gJ5_charAt_5068e_J0_checkIndex_df160 rfl rfl rfl (by decide +kernel) ⟨Nat.le_of_ble_eq_true rfl, Nat.le_of_ble_eq_true rfl⟩) ⟨h_blind, (h_pre C0 hW [.int z1, .int v11])⟩ rfl rfl hl.1 rfl (lv_room (Nat.le_of_ble_eq_true rfl)) dJ5_charAt_5068e_26 ⟨Nat.le_refl _, Nat.le_refl _⟩) (fun S13 H locs h14 hW => ?_)
  obtain ⟨h15, hp⟩ := h14
  rw [h15] at hW
  replace hw := hp
  refine lv_iload_n hx hb dJ5_charAt_5068e_29 rfl (lv_at hl 2 rfl) ?_
  refine lv_if_ne (tgt := 42) hx hb dJ5_charAt_5068e_30 (by decide) (fun c16 => ?_) (fun c16 => ?_)
  · replace hw := hw.1 c16
    refine lv_aload_n hx hb dJ5_charAt_5068e_42 rfl (lv_at hl 1 rfl) ?_
    refine lv_iload_n hx hb dJ5_charAt_5068e_43 rfl (lv_at hl 4 rfl) ?_
    exact hw.elim
  · replace hw := hw.2 c16
    refine lv_aload_n hx hb dJ5_charAt_5068e_33 rfl (lv_at hl 1 rfl) ?_
    refine lv_iload_n hx hb dJ5_charAt_5068e_34 rfl (lv_at hl 4 rfl) ?_
    obtain ⟨N17, g18, h19, h20, hw⟩ := hw
    refine h_bald C0 hW h19 rfl h20 dJ5_charAt_5068e_35 ?_
    refine lv_sipush (v := 255) hx hb dJ5_charAt_5068e_36 (by decide) ?_
    refine lv_iand hx hb dJ5_charAt_5068e_39 ?_
    refine lv_i2c hx hb dJ5_charAt_5068e_40 rfl ?_
    exact hret ((((g18 (z1 : Int32).toNatClampNeg) &&& 255) : Int32).toUInt32 % 65536).toInt32 S _ _ 0 0 (Nat.le_refl _) (Nat.le_refl _) ⟨rfl, hw.2⟩ hw.1 dJ5_charAt_5068e_41 _ _ _ hW hl
set_option maxHeartbeats 4000000 in
set_option maxRecDepth 100000 in
theorem k_J5_charAt_50 {l : Launch} {D : va_G} {u : hU} {X : va_W} {sz : Nat} (post : Int32 → Prop) (t0 : Nat) (z1 : Int32) (S : hS) (hw : w_J5_charAt_50 u post t0 z1 S) : hMi l yJ5_charAt_5068e wsJ5_charAt_5068e rm_J5_charAt_50 D (gt u.2.1) u.1 u.2.2 sz X S [.ref t0, .int z1] (fun r S' => S' = S ∧ post r) 0 0 := by
  refine hMi_of (cc := cJ5_charAt_5068e) (nL := 5) (ty := .char) (own := RJ5) (by decide) rfl rfl (Nat.le_of_ble_eq_true rfl) ?_
  intro p e s m args below meth c A Q C0 hin hret
  exact t_J5_charAt_50_0 C0 t0 post hret z1 hw
abbrev rm_J4_charAt_50 : Room := { frames := 3, cells := 0, slots := 0, locals := 67 }
set_option maxHeartbeats 4000000 in
set_option maxRecDepth 100000 in
theorem t_J4_charAt_50_0 (C0 : hX p s m args c cJ4_charAt_5068e 2 RJ4 wsJ4_charAt_5068e D (gt u.2.1) A u.1 u.2.2) {S : hS} (t0 : Nat) (post : Int32 → Prop) (hret : ∀ (r : Int32) (S' : hS) (pc : Nat) (lv : List (Nat × Value)) (k n : Nat), k ≤ 0 → n ≤ 0 → (S' = S ∧ post r) → narrow .char (.int r) = .int r → decode cJ4_charAt_5068e pc = .ok (.ireturn, 1) → gG p l e (rm_J4_charAt_50) s m args below meth c Q D A 2 k n (hC X S') pc lv [.int r])  : ∀ (z1 : Int32), w_J4_charAt_50 u post t0  z1 S → gG p l e (rm_J4_charAt_50) s m args below meth c Q D A 2 0 0 (hC X S) 0 [(0, .ref t0), (1, .int z1)] [] := by
  obtain ⟨⟨hx, hb, hml, ho, hts, hK, hA⟩, hR⟩ := id C0
  intro z1 hw H locs ls hW hl
  rw [w_J4_charAt_50] at hw
  refine lv_aload_n hx hb dJ4_charAt_5068e_0 rfl (lv_at hl 0 rfl) ?_
  refine lv_iload_n hx hb dJ4_charAt_5068e_1 rfl (lv_at hl 1 rfl) ?_
  obtain ⟨h2, hw⟩ := hw
  refine h_goi C0 hW (va_runSU (As := [.int z1]) (rest := []) ((C0.1.2.2.2.2.2.1.1 1 (RJ4, TJ4, 4) rfl).2) ⟨hx, hb, hml, ho, hts⟩ (k_J5_charAt_50 (l := l) (u := u) (X := X) (sz := H.size) _ t0 z1 S  hw) (va_cwSU 1 hts gJ4_charAt_5068e_J5_charAt_5068e_s329 rfl rfl rfl (by decide +kernel) ⟨Nat.le_of_ble_eq_true rfl, Nat.le_of_ble_eq_true rfl⟩) ⟨h_blind, (h_recv C0 hW (ci := 1) rfl h2), (h_pre C0 hW [.ref t0, .int z1])⟩ rfl rfl hl.1 rfl (lv_room (Nat.le_of_ble_eq_true rfl)) dJ4_charAt_5068e_2 ⟨Nat.le_refl _, Nat.le_refl _⟩) (fun r1 S3 H locs h4 hW => ?_)
  obtain ⟨h5, hp⟩ := h4
  rw [h5] at hW
  replace hw := hp
  exact hret r1 S _ _ 0 0 (Nat.le_refl _) (Nat.le_refl _) ⟨rfl, hw.2⟩ hw.1 dJ4_charAt_5068e_5 _ _ _ hW hl
set_option maxHeartbeats 4000000 in
set_option maxRecDepth 100000 in
theorem k_J4_charAt_50 {l : Launch} {D : va_G} {u : hU} {X : va_W} {sz : Nat} (post : Int32 → Prop) (t0 : Nat) (z1 : Int32) (S : hS) (hw : w_J4_charAt_50 u post t0 z1 S) : hMi l yJ4_charAt_5068e wsJ4_charAt_5068e rm_J4_charAt_50 D (gt u.2.1) u.1 u.2.2 sz X S [.ref t0, .int z1] (fun r S' => S' = S ∧ post r) 0 0 := by
  refine hMi_of (cc := cJ4_charAt_5068e) (nL := 2) (ty := .char) (own := RJ4) (by decide) rfl rfl (Nat.le_of_ble_eq_true rfl) ?_
  intro p e s m args below meth c A Q C0 hin hret
  exact t_J4_charAt_50_0 C0 t0 post hret z1 hw
abbrev rm_J5_setLength_d0 (MC MS : Nat) : Room := { frames := 4, cells := MC, slots := MS, locals := 84 }
theorem in_J5_setLength_d0_RJ4 : ∀ w ∈ wsJ40, w ∈ wsJ5_setLength_d00df := fun w hw9 => List.mem_cons_of_mem _ (List.mem_append_right _ hw9)
set_option maxHeartbeats 4000000 in
set_option maxRecDepth 100000 in
theorem t_J5_setLength_d0_0 (C0 : hX p s m args c cJ5_setLength_d00df 2 RJ5 wsJ5_setLength_d00df D (gt u.2.1) A u.1 u.2.2) (t0 : Nat) (post : hS → Prop) (hret : ∀ (S' : hS) (pc : Nat) (lv : List (Nat × Value)) (k n : Nat), k ≤ MC → n ≤ MS → post S' → decode cJ5_setLength_d00df pc = .ok (.return_, 1) → gG p l e (rm_J5_setLength_d0 MC MS) s m args below meth c Q D A 2 k n (hC X S') pc lv [])  : ∀ (z1 : Int32) (S : hS) (mc ms k n : Nat), k + mc ≤ MC ∧ n + ms ≤ MS → w_J5_setLength_d0 u post t0  z1 S mc ms → gG p l e (rm_J5_setLength_d0 MC MS) s m args below meth c Q D A 2 k n (hC X S) 0 [(0, .ref t0), (1, .int z1)] [] := by
  obtain ⟨⟨hx, hb, hml, ho, hts, hK, hA⟩, hR⟩ := id C0
  intro z1 S mc ms k n hkn hw H locs ls hW hl
  rw [w_J5_setLength_d0] at hw
  refine lv_iload_n hx hb dJ5_setLength_d00df_0 rfl (lv_at hl 1 rfl) ?_
  refine lv_if_ge (tgt := 13) hx hb dJ5_setLength_d00df_1 (by decide) (fun c1 => ?_) (fun c1 => ?_)
  · replace hw := hw.1 c1
    refine lv_aload_n hx hb dJ5_setLength_d00df_13 rfl (lv_at hl 0 rfl) ?_
    refine lv_iload_n hx hb dJ5_setLength_d00df_14 rfl (lv_at hl 1 rfl) ?_
    obtain ⟨h7, k3, n4, h5, h6, hw⟩ := hw
    refine h_gov C0 hW (va_runU (As := [.int z1]) (rest := []) ⟨hx, hb, hml, ho, hts⟩ (k_J5_ensureCapacityInternal_d0 (l := l) (u := u) (X := X) (sz := H.size) _ t0 z1 S k3 n4 hw) (va_cwU 1 hts gJ5_setLength_d00df_J5_ensureCapacityInternal_d00df_u100J4 rfl rfl rfl rfl (by decide +kernel) ⟨Nat.le_of_ble_eq_true rfl, Nat.le_of_ble_eq_true rfl⟩) ⟨h_blind, (h_recv C0 hW (ci := 1) rfl h7), (h_pre C0 hW [.ref t0, .int z1])⟩ rfl rfl hl.1 rfl (lv_room (Nat.le_of_ble_eq_true rfl)) dJ5_setLength_d00df_15 ⟨by show _ ≤ MC; omega, by show _ ≤ MS; omega⟩) (fun S8 H locs h9 hW => ?_)
    replace hw := h9
    have hkn : (k + k3) + (mc - k3) ≤ MC ∧ (n + n4) + (ms - n4) ≤ MS := by omega
    refine lv_aload_n hx hb dJ5_setLength_d00df_18 rfl (lv_at hl 0 rfl) ?_
    obtain ⟨v10, h11, hw⟩ := hw
    refine h_getI C0 hW (T := TJ4) (kf := 3) in_J5_setLength_d0_RJ4 h11 rfl (by decide) (List.mem_of_getElem? (i := 1) rfl) rfl dJ5_setLength_d00df_19 ?_
    refine lv_iload_n hx hb dJ5_setLength_d00df_22 rfl (lv_at hl 1 rfl) ?_
    refine lv_icmp_ge (tgt := 63) hx hb dJ5_setLength_d00df_23 (by decide) (fun c12 => ?_) (fun c12 => ?_)
    · replace hw := hw.1 c12
      refine lv_aload_n hx hb dJ5_setLength_d00df_63 rfl (lv_at hl 0 rfl) ?_
      obtain ⟨v13, h14, hw⟩ := hw
      refine h_getI C0 hW (T := TJ4) (kf := 3) in_J5_setLength_d0_RJ4 h14 rfl (by decide) (List.mem_of_getElem? (i := 1) rfl) rfl dJ5_setLength_d00df_64 ?_
      refine lv_iload_n hx hb dJ5_setLength_d00df_67 rfl (lv_at hl 1 rfl) ?_
      refine lv_icmp_le (tgt := 76) hx hb dJ5_setLength_d00df_68 (by decide) (fun c15 => ?_) (fun c15 => ?_)
      · replace hw := hw.1 c15
        refine lv_aload_n hx hb dJ5_setLength_d00df_76 rfl (lv_at hl 0 rfl) ?_
        refine lv_iload_n hx hb dJ5_setLength_d00df_77 rfl (lv_at hl 1 rfl) ?_
        obtain ⟨fs16, h17, h18, hw⟩ := hw
        refine h_put C0 hW (T := TJ4) (kf := 3) (ty := .int) in_J5_setLength_d0_RJ4 h17 rfl (by decide) h18 tyJ4 tyJ4_ok nmJ4 (List.mem_of_getElem? (i := 1) rfl) rfl (Or.inl rfl) (by decide +kernel) rfl rfl dJ5_setLength_d00df_78 rfl (fun H locs hW => ?_)
        obtain ⟨S19, eS19⟩ : ∃ z : hS, z = upS S8 t0 (.inr (1, fs16.set 3 (.int z1))) := ⟨_, rfl⟩
        rw [← eS19] at hW
        replace hw := hw S19 eS19
        exact hret S19 _ _ _ _ (by omega) (by omega) hw dJ5_setLength_d00df_81 _ _ _ hW hl
      · replace hw := hw.2 c15
        refine lv_aload_n hx hb dJ5_setLength_d00df_71 rfl (lv_at hl 0 rfl) ?_
        refine lv_iconst (v := 1) hx hb dJ5_setLength_d00df_72 (by decide) ?_
        obtain ⟨fs20, h21, h22, hw⟩ := hw
        refine h_put C0 hW (T := TJ4) (kf := 2) (ty := .boolean) in_J5_setLength_d0_RJ4 h21 rfl (by decide) h22 tyJ4 tyJ4_ok nmJ4 (List.mem_of_getElem? (i := 3) rfl) rfl (Or.inl rfl) (by decide +kernel) (by decide) (by decide) dJ5_setLength_d00df_73 rfl (fun H locs hW => ?_)
        obtain ⟨S23, eS23⟩ : ∃ z : hS, z = upS S8 t0 (.inr (1, fs20.set 2 (.int 1))) := ⟨_, rfl⟩
        rw [← eS23] at hW
        replace hw := hw S23 eS23
        refine lv_aload_n hx hb dJ5_setLength_d00df_76 rfl (lv_at hl 0 rfl) ?_
        refine lv_iload_n hx hb dJ5_setLength_d00df_77 rfl (lv_at hl 1 rfl) ?_
        obtain ⟨fs24, h25, h26, hw⟩ := hw
        refine h_put C0 hW (T := TJ4) (kf := 3) (ty := .int) in_J5_setLength_d0_RJ4 h25 rfl (by decide) h26 tyJ4 tyJ4_ok nmJ4 (List.mem_of_getElem? (i := 1) rfl) rfl (Or.inl rfl) (by decide +kernel) rfl rfl dJ5_setLength_d00df_78 rfl (fun H locs hW => ?_)
        obtain ⟨S27, eS27⟩ : ∃ z : hS, z = upS S23 t0 (.inr (1, fs24.set 3 (.int z1))) := ⟨_, rfl⟩
        rw [← eS27] at hW
        replace hw := hw S27 eS27
        exact hret S27 _ _ _ _ (by omega) (by omega) hw dJ5_setLength_d00df_81 _ _ _ hW hl
    · replace hw := hw.2 c12
      refine lv_aload_n hx hb dJ5_setLength_d00df_26 rfl (lv_at hl 0 rfl) ?_
      obtain ⟨h29, hw⟩ := hw
      refine h_goi C0 hW (va_runU (As := []) (rest := []) ⟨hx, hb, hml, ho, hts⟩ (k_J5_isLatin1_aa (l := l) (u := u) (X := X) (sz := H.size) _ t0  S8  hw) (va_cwU 0 hts gJ5_setLength_d00df_J5_isLatin1_aae02_u83J4 rfl rfl rfl rfl (by decide +kernel) ⟨Nat.le_of_ble_eq_true rfl, Nat.le_of_ble_eq_true rfl⟩) ⟨h_blind, (h_recv C0 hW (ci := 1) rfl h29), (h_pre C0 hW [.ref t0])⟩ rfl rfl hl.1 rfl (lv_room (Nat.le_of_ble_eq_true rfl)) dJ5_setLength_d00df_27 ⟨by show _ ≤ MC; omega, by show _ ≤ MS; omega⟩) (fun r28 S30 H locs h31 hW => ?_)
      obtain ⟨h32, hp⟩ := h31
      rw [h32] at hW
      replace hw := hp
      refine lv_if_eq (tgt := 48) hx hb dJ5_setLength_d00df_30 (by decide) (fun c33 => ?_) (fun c33 => ?_)
      · replace hw := hw.1 c33
        refine lv_aload_n hx hb dJ5_setLength_d00df_48 rfl (lv_at hl 0 rfl) ?_
        obtain ⟨o34, h35, hw⟩ := hw
        refine h_getR C0 hW (T := TJ4) (kf := 0) in_J5_setLength_d0_RJ4 h35 rfl (by decide) (List.mem_of_getElem? (i := 2) rfl) rfl dJ5_setLength_d00df_49 ?_
        refine lv_aload_n hx hb dJ5_setLength_d00df_52 rfl (lv_at hl 0 rfl) ?_
        obtain ⟨v36, h37, hw⟩ := hw
        refine h_getI C0 hW (T := TJ4) (kf := 3) in_J5_setLength_d0_RJ4 h37 rfl (by decide) (List.mem_of_getElem? (i := 1) rfl) rfl dJ5_setLength_d00df_53 ?_
        refine lv_iload_n hx hb dJ5_setLength_d00df_56 rfl (lv_at hl 1 rfl) ?_
        exact hw.elim
      · replace hw := hw.2 c33
        refine lv_aload_n hx hb dJ5_setLength_d00df_33 rfl (lv_at hl 0 rfl) ?_
        obtain ⟨o38, h39, hw⟩ := hw
        refine h_getR C0 hW (T := TJ4) (kf := 0) in_J5_setLength_d0_RJ4 h39 rfl (by decide) (List.mem_of_getElem? (i := 2) rfl) rfl dJ5_setLength_d00df_34 ?_
        refine lv_aload_n hx hb dJ5_setLength_d00df_37 rfl (lv_at hl 0 rfl) ?_
        obtain ⟨v40, h41, hw⟩ := hw
        refine h_getI C0 hW (T := TJ4) (kf := 3) in_J5_setLength_d0_RJ4 h41 rfl (by decide) (List.mem_of_getElem? (i := 1) rfl) rfl dJ5_setLength_d00df_38 ?_
        refine lv_iload_n hx hb dJ5_setLength_d00df_41 rfl (lv_at hl 1 rfl) ?_
        exact hw.elim
  · replace hw := hw.2 c1
    exact hw.elim
set_option maxHeartbeats 4000000 in
set_option maxRecDepth 100000 in
theorem k_J5_setLength_d0 {l : Launch} {D : va_G} {u : hU} {X : va_W} {sz : Nat} (post : hS → Prop) (t0 : Nat) (z1 : Int32) (S : hS) (mc ms : Nat) (hw : w_J5_setLength_d0 u post t0 z1 S mc ms) : hMv l yJ5_setLength_d00df wsJ5_setLength_d00df (rm_J5_setLength_d0 mc ms) D (gt u.2.1) u.1 u.2.2 sz X S [.ref t0, .int z1] post mc ms := by
  refine hMv_of (cc := cJ5_setLength_d00df) (nL := 2) (own := RJ5) (by decide) rfl rfl (Nat.le_of_ble_eq_true rfl) ?_
  intro p e s m args below meth c A Q C0 hin hret
  exact t_J5_setLength_d0_0 C0 t0 post hret z1 S mc ms 0 0 ⟨by omega, by omega⟩ hw
abbrev rm_J4_setLength_d0 (MC MS : Nat) : Room := { frames := 5, cells := MC, slots := MS, locals := 105 }
set_option maxHeartbeats 4000000 in
set_option maxRecDepth 100000 in
theorem t_J4_setLength_d0_0 (C0 : hX p s m args c cJ4_setLength_d00df 2 RJ4 wsJ4_setLength_d00df D (gt u.2.1) A u.1 u.2.2) (t0 : Nat) (post : hS → Prop) (hret : ∀ (S' : hS) (pc : Nat) (lv : List (Nat × Value)) (k n : Nat), k ≤ MC → n ≤ MS → post S' → decode cJ4_setLength_d00df pc = .ok (.return_, 1) → gG p l e (rm_J4_setLength_d0 MC MS) s m args below meth c Q D A 2 k n (hC X S') pc lv [])  : ∀ (z1 : Int32) (S : hS) (mc ms k n : Nat), k + mc ≤ MC ∧ n + ms ≤ MS → w_J4_setLength_d0 u post t0  z1 S mc ms → gG p l e (rm_J4_setLength_d0 MC MS) s m args below meth c Q D A 2 k n (hC X S) 0 [(0, .ref t0), (1, .int z1)] [] := by
  obtain ⟨⟨hx, hb, hml, ho, hts, hK, hA⟩, hR⟩ := id C0
  intro z1 S mc ms k n hkn hw H locs ls hW hl
  rw [w_J4_setLength_d0] at hw
  refine lv_aload_n hx hb dJ4_setLength_d00df_0 rfl (lv_at hl 0 rfl) ?_
  refine lv_iload_n hx hb dJ4_setLength_d00df_1 rfl (lv_at hl 1 rfl) ?_
  obtain ⟨h6, k2, n3, h4, h5, hw⟩ := hw
  refine h_gov C0 hW (va_runSU (As := [.int z1]) (rest := []) ((C0.1.2.2.2.2.2.1.1 1 (RJ4, TJ4, 4) rfl).2) ⟨hx, hb, hml, ho, hts⟩ (k_J5_setLength_d0 (l := l) (u := u) (X := X) (sz := H.size) _ t0 z1 S k2 n3 hw) (va_cwSU 1 hts gJ4_setLength_d00df_J5_setLength_d00df_s333 rfl rfl rfl (by decide +kernel) ⟨Nat.le_of_ble_eq_true rfl, Nat.le_of_ble_eq_true rfl⟩) ⟨h_blind, (h_recv C0 hW (ci := 1) rfl h6), (h_pre C0 hW [.ref t0, .int z1])⟩ rfl rfl hl.1 rfl (lv_room (Nat.le_of_ble_eq_true rfl)) dJ4_setLength_d00df_2 ⟨by show _ ≤ MC; omega, by show _ ≤ MS; omega⟩) (fun S7 H locs h8 hW => ?_)
  replace hw := h8
  have hkn : (k + k2) + (mc - k2) ≤ MC ∧ (n + n3) + (ms - n3) ≤ MS := by omega
  exact hret S7 _ _ _ _ (by omega) (by omega) hw dJ4_setLength_d00df_5 _ _ _ hW hl
set_option maxHeartbeats 4000000 in
set_option maxRecDepth 100000 in
theorem k_J4_setLength_d0 {l : Launch} {D : va_G} {u : hU} {X : va_W} {sz : Nat} (post : hS → Prop) (t0 : Nat) (z1 : Int32) (S : hS) (mc ms : Nat) (hw : w_J4_setLength_d0 u post t0 z1 S mc ms) : hMv l yJ4_setLength_d00df wsJ4_setLength_d00df (rm_J4_setLength_d0 mc ms) D (gt u.2.1) u.1 u.2.2 sz X S [.ref t0, .int z1] post mc ms := by
  refine hMv_of (cc := cJ4_setLength_d00df) (nL := 2) (own := RJ4) (by decide) rfl rfl (Nat.le_of_ble_eq_true rfl) ?_
  intro p e s m args below meth c A Q C0 hin hret
  exact t_J4_setLength_d0_0 C0 t0 post hret z1 S mc ms 0 0 ⟨by omega, by omega⟩ hw
abbrev rm_J1_canEncode_9a : Room := { frames := 0, cells := 0, slots := 0, locals := 0 }
set_option maxHeartbeats 4000000 in
set_option maxRecDepth 100000 in
theorem k_J1_canEncode_9a {l : Launch} (post : Int32 → Prop) (z1 : Int32) (hw : q_J1_canEncode_9a post z1) : gMs l yJ1_canEncode_9a6ad wsJ1_canEncode_9a6ad rm_J1_canEncode_9a [.int z1] post := by
  refine gMs_of (cc := cJ1_canEncode_9a6ad) (nL := 1) (ty := .boolean) (own := RJ1) (by decide) rfl rfl (Nat.le_of_ble_eq_true rfl) ?_
  intro p e s m args below meth c Q hx hb hml ho hts hret ls hl
  rw [q_J1_canEncode_9a] at hw
  refine lv_iload_n hx hb dJ1_canEncode_9a6ad_0 rfl (lv_at hl 0 rfl) ?_
  refine lv_if_lt (tgt := 15) hx hb dJ1_canEncode_9a6ad_1 (by decide) (fun c1 => ?_) (fun c1 => ?_)
  · replace hw := hw.1 c1
    refine lv_iconst (v := 0) hx hb dJ1_canEncode_9a6ad_15 (by decide) ?_
    exact hret 0 _ _ hw (by decide) dJ1_canEncode_9a6ad_16
  · replace hw := hw.2 c1
    refine lv_iload_n hx hb dJ1_canEncode_9a6ad_4 rfl (lv_at hl 0 rfl) ?_
    refine lv_sipush (v := 255) hx hb dJ1_canEncode_9a6ad_5 (by decide) ?_
    refine lv_icmp_gt (tgt := 15) hx hb dJ1_canEncode_9a6ad_8 (by decide) (fun c2 => ?_) (fun c2 => ?_)
    · replace hw := hw.1 c2
      refine lv_iconst (v := 0) hx hb dJ1_canEncode_9a6ad_15 (by decide) ?_
      exact hret 0 _ _ hw (by decide) dJ1_canEncode_9a6ad_16
    · replace hw := hw.2 c2
      refine lv_iconst (v := 1) hx hb dJ1_canEncode_9a6ad_11 (by decide) ?_
      refine lv_goto (tgt := 16) hx hb dJ1_canEncode_9a6ad_12 (by decide) ?_
      exact hret 1 _ _ hw (by decide) dJ1_canEncode_9a6ad_16
abbrev rm_J1_indexOfChar_4c : Room := { frames := 0, cells := 0, slots := 0, locals := 0 }
set_option maxHeartbeats 4000000 in
set_option maxRecDepth 100000 in
theorem t_J1_indexOfChar_4c_7 (C0 : hX p s m args c cJ1_indexOfChar_4cfef 6 RJ1 wsJ1_indexOfChar_4cfef D (gt u.2.1) A u.1 u.2.2) {S : hS}  (post : Int32 → Prop) (hret : ∀ (r : Int32) (S' : hS) (pc : Nat) (lv : List (Nat × Value)) (k n : Nat), k ≤ 0 → n ≤ 0 → (S' = S ∧ post r) → narrow .int (.int r) = .int r → decode cJ1_indexOfChar_4cfef pc = .ok (.ireturn, 1) → gG p l e (rm_J1_indexOfChar_4c) s m args below meth c Q D A 6 k n (hC X S') pc lv [.int r])  : ∀ (nf : Nat) (x0 : Option Nat) (x3 : Int32) (x4 : Int32) (x5 : Int32), w_J1_indexOfChar_4c_7 u post   nf x0 x3 x4 x5 S → gG p l e (rm_J1_indexOfChar_4c) s m args below meth c Q D A 6 0 0 (hC X S) 7 [(0, va_rf x0), (3, .int x3), (4, .int x4), (5, .int x5)] [] := by
  obtain ⟨⟨hx, hb, hml, ho, hts, hK, hA⟩, hR⟩ := id C0
  intro nf
  induction nf with
  | zero => intro x0 x3 x4 x5 hw; exact hw.elim
  | succ nf ih =>
    intro x0 x3 x4 x5 hw H locs ls hW hl
    rw [w_J1_indexOfChar_4c_7] at hw
    refine lv_iload hx hb dJ1_indexOfChar_4cfef_7 (lv_at hl 3 rfl) ?_
    refine lv_iload_n hx hb dJ1_indexOfChar_4cfef_9 rfl (lv_at hl 1 rfl) ?_
    refine lv_icmp_ge (tgt := 31) hx hb dJ1_indexOfChar_4cfef_10 (by decide) (fun c3 => ?_) (fun c3 => ?_)
    · replace hw := hw.1 c3
      refine lv_iconst (v := (-1)) hx hb dJ1_indexOfChar_4cfef_31 (by decide) ?_
      exact hret (-1) S _ _ 0 0 (Nat.le_refl _) (Nat.le_refl _) ⟨rfl, hw⟩ rfl dJ1_indexOfChar_4cfef_32 _ _ _ hW hl
    · replace hw := hw.2 c3
      refine lv_aloadV_n hx hb dJ1_indexOfChar_4cfef_13 rfl (lv_at hl 0 rfl) ?_
      refine lv_iload hx hb dJ1_indexOfChar_4cfef_14 (lv_at hl 3 rfl) ?_
      obtain ⟨a4, rfl, hw⟩ := hw
      obtain ⟨N5, g6, h7, h8, hw⟩ := hw
      refine h_bald C0 hW h7 rfl h8 dJ1_indexOfChar_4cfef_16 ?_
      refine lv_iload hx hb dJ1_indexOfChar_4cfef_17 (lv_at hl 2 rfl) ?_
      refine lv_icmp_ne (tgt := 25) hx hb dJ1_indexOfChar_4cfef_19 (by decide) (fun c9 => ?_) (fun c9 => ?_)
      · replace hw := hw.1 c9
        obtain ⟨v10, ev10⟩ : ∃ y : Int32, y = x5 + 1 := ⟨_, rfl⟩
        replace hw := hw v10 ev10
        refine lv_iinc (v := v10) (lv' := [(5, .int v10), (0, .ref a4), (3, .int x3), (4, .int x4)]) hx hb dJ1_indexOfChar_4cfef_25 hl (k := 3) rfl (by rw [ev10]; rfl) (by decide) rfl (fun ls hl9 => ?_)
        replace hl := hl9
        refine lv_goto (tgt := 7) hx hb dJ1_indexOfChar_4cfef_28 (by decide) ?_
        exact ih (some a4) x3 x4 v10   hw _ _ _ hW (lv_sub hl [1, 2, 3, 0] rfl)
      · replace hw := hw.2 c9
        refine lv_iload hx hb dJ1_indexOfChar_4cfef_22 (lv_at hl 3 rfl) ?_
        exact hret x5 S _ _ 0 0 (Nat.le_refl _) (Nat.le_refl _) ⟨rfl, hw⟩ rfl dJ1_indexOfChar_4cfef_24 _ _ _ hW hl
set_option maxHeartbeats 4000000 in
set_option maxRecDepth 100000 in
theorem t_J1_indexOfChar_4c_0 (C0 : hX p s m args c cJ1_indexOfChar_4cfef 6 RJ1 wsJ1_indexOfChar_4cfef D (gt u.2.1) A u.1 u.2.2) {S : hS}  (post : Int32 → Prop) (hret : ∀ (r : Int32) (S' : hS) (pc : Nat) (lv : List (Nat × Value)) (k n : Nat), k ≤ 0 → n ≤ 0 → (S' = S ∧ post r) → narrow .int (.int r) = .int r → decode cJ1_indexOfChar_4cfef pc = .ok (.ireturn, 1) → gG p l e (rm_J1_indexOfChar_4c) s m args below meth c Q D A 6 k n (hC X S') pc lv [.int r])  : ∀ (p1 : Option Nat) (z2 : Int32) (z3 : Int32) (z4 : Int32), w_J1_indexOfChar_4c u post   p1 z2 z3 z4 S → gG p l e (rm_J1_indexOfChar_4c) s m args below meth c Q D A 6 0 0 (hC X S) 0 [(0, va_rf p1), (1, .int z2), (2, .int z3), (3, .int z4)] [] := by
  obtain ⟨⟨hx, hb, hml, ho, hts, hK, hA⟩, hR⟩ := id C0
  intro p1 z2 z3 z4 hw H locs ls hW hl
  rw [w_J1_indexOfChar_4c] at hw
  refine lv_iload_n hx hb dJ1_indexOfChar_4cfef_0 rfl (lv_at hl 1 rfl) ?_
  refine lv_i2b hx hb dJ1_indexOfChar_4cfef_1 rfl ?_
  refine lv_topi (fun v1 ev1 => ?_)
  replace hw := hw v1 ev1
  refine lv_istore (lv' := [(4, .int v1), (0, va_rf p1), (1, .int z2), (2, .int z3), (3, .int z4)]) hx hb dJ1_indexOfChar_4cfef_2 hl (by decide) rfl (fun ls hl9 => ?_)
  replace hl := hl9
  refine lv_iload_n hx hb dJ1_indexOfChar_4cfef_4 rfl (lv_at hl 3 rfl) ?_
  refine lv_istore (lv' := [(5, .int z3), (4, .int v1), (0, va_rf p1), (1, .int z2), (2, .int z3), (3, .int z4)]) hx hb dJ1_indexOfChar_4cfef_5 hl (by decide) rfl (fun ls hl9 => ?_)
  replace hl := hl9
  obtain ⟨n2, hw⟩ := hw
  exact t_J1_indexOfChar_4c_7 C0  post hret  n2 p1 z4 v1 z3   hw _ _ _ hW (lv_sub hl [2, 5, 1, 0] rfl)
set_option maxHeartbeats 4000000 in
set_option maxRecDepth 100000 in
theorem k_J1_indexOfChar_4c {l : Launch} {D : va_G} {u : hU} {X : va_W} {sz : Nat} (post : Int32 → Prop) (p1 : Option Nat) (z2 : Int32) (z3 : Int32) (z4 : Int32) (S : hS) (hw : w_J1_indexOfChar_4c u post  p1 z2 z3 z4 S) : hMi l yJ1_indexOfChar_4cfef wsJ1_indexOfChar_4cfef rm_J1_indexOfChar_4c D (gt u.2.1) u.1 u.2.2 sz X S [va_rf p1, .int z2, .int z3, .int z4] (fun r S' => S' = S ∧ post r) 0 0 := by
  refine hMi_of (cc := cJ1_indexOfChar_4cfef) (nL := 6) (ty := .int) (own := RJ1) (by decide) rfl rfl (by cases p1 <;> exact Nat.le_of_ble_eq_true rfl) ?_
  intro p e s m args below meth c A Q C0 hin hret
  have hfin := t_J1_indexOfChar_4c_0 C0  post hret p1 z2 z3 z4 hw
  intro H locs ls hW hl
  refine hfin H locs ls hW ?_
  cases p1 <;> exact hl
abbrev rm_J1_indexOf_4c : Room := { frames := 1, cells := 0, slots := 0, locals := 25 }
set_option maxHeartbeats 4000000 in
set_option maxRecDepth 100000 in
theorem t_J1_indexOf_4c_0 (C0 : hX p s m args c cJ1_indexOf_4cfef 4 RJ1 wsJ1_indexOf_4cfef D (gt u.2.1) A u.1 u.2.2) {S : hS}  (post : Int32 → Prop) (hret : ∀ (r : Int32) (S' : hS) (pc : Nat) (lv : List (Nat × Value)) (k n : Nat), k ≤ 0 → n ≤ 0 → (S' = S ∧ post r) → narrow .int (.int r) = .int r → decode cJ1_indexOf_4cfef pc = .ok (.ireturn, 1) → gG p l e (rm_J1_indexOf_4c) s m args below meth c Q D A 4 k n (hC X S') pc lv [.int r])  : ∀ (p1 : Option Nat) (z2 : Int32) (z3 : Int32) (z4 : Int32), w_J1_indexOf_4c u post   p1 z2 z3 z4 S → gG p l e (rm_J1_indexOf_4c) s m args below meth c Q D A 4 0 0 (hC X S) 0 [(0, va_rf p1), (1, .int z2), (2, .int z3), (3, .int z4)] [] := by
  obtain ⟨⟨hx, hb, hml, ho, hts, hK, hA⟩, hR⟩ := id C0
  intro p1 z2 z3 z4 hw H locs ls hW hl
  rw [w_J1_indexOf_4c] at hw
  refine lv_iload_n hx hb dJ1_indexOf_4cfef_0 rfl (lv_at hl 1 rfl) ?_
  refine g_calls (As := [.int z2]) (rest := []) ⟨hx, hb, hml, ho, hts⟩ hl.1 (k_J1_canEncode_9a (l := l) _ z2 hw) (va_cwS 1 hts gJ1_indexOf_4cfef_J1_canEncode_9a6ad rfl rfl rfl (by decide +kernel) ⟨Nat.le_of_ble_eq_true rfl, Nat.le_of_ble_eq_true rfl⟩) (Nat.le_of_ble_eq_true rfl) dJ1_indexOf_4cfef_1 rfl ⟨Nat.le_refl _, Nat.le_refl _⟩ (fun r1 hp => ?_)
  replace hw := hp
  refine lv_if_ne (tgt := 9) hx hb dJ1_indexOf_4cfef_4 (by decide) (fun c2 => ?_) (fun c2 => ?_)
  · replace hw := hw.1 c2
    refine lv_iload_n hx hb dJ1_indexOf_4cfef_9 rfl (lv_at hl 2 rfl) ?_
    refine lv_iconst (v := 0) hx hb dJ1_indexOf_4cfef_10 (by decide) ?_
    refine va_mmax hx hb (hml.trans hl.1.symm) ho (hts (.methodLink RJ1 92 Lib.Math.max.name) (List.mem_of_getElem? (i := 1) rfl)) (hts _ (List.mem_of_getElem? (i := 2) rfl)) (hts _ (List.mem_of_getElem? (i := 3) rfl)) (hts _ (List.mem_of_getElem? (i := 4) rfl)) (Nat.le_of_ble_eq_true rfl) (Nat.le_of_ble_eq_true rfl) (Nat.zero_le _) (Nat.zero_le _) dJ1_indexOf_4cfef_11 ?_
    refine lv_topi (fun v3 ev3 => ?_)
    replace hw := hw v3 ev3
    refine lv_istore_n (lv' := [(2, .int v3), (0, va_rf p1), (1, .int z2), (3, .int z4)]) hx hb dJ1_indexOf_4cfef_14 rfl hl (by decide) rfl (fun ls hl9 => ?_)
    replace hl := hl9
    refine lv_iload_n hx hb dJ1_indexOf_4cfef_15 rfl (lv_at hl 3 rfl) ?_
    refine lv_aloadV_n hx hb dJ1_indexOf_4cfef_16 rfl (lv_at hl 1 rfl) ?_
    obtain ⟨a4, rfl, hw⟩ := hw
    obtain ⟨N5, g6, h7, hw⟩ := hw
    refine h_blen C0 hW h7 rfl dJ1_indexOf_4cfef_17 ?_
    refine va_mmin hx hb (hml.trans hl.1.symm) ho (hts (.methodLink RJ1 38 Lib.Math.min.name) (List.mem_of_getElem? (i := 5) rfl)) (hts _ (List.mem_of_getElem? (i := 6) rfl)) (hts _ (List.mem_of_getElem? (i := 3) rfl)) (hts _ (List.mem_of_getElem? (i := 7) rfl)) (Nat.le_of_ble_eq_true rfl) (Nat.le_of_ble_eq_true rfl) (Nat.zero_le _) (Nat.zero_le _) dJ1_indexOf_4cfef_18 ?_
    refine lv_topi (fun v8 ev8 => ?_)
    replace hw := hw v8 ev8
    refine lv_istore_n (lv' := [(3, .int v8), (2, .int v3), (0, .ref a4), (1, .int z2)]) hx hb dJ1_indexOf_4cfef_21 rfl hl (by decide) rfl (fun ls hl9 => ?_)
    replace hl := hl9
    refine lv_iload_n hx hb dJ1_indexOf_4cfef_22 rfl (lv_at hl 1 rfl) ?_
    refine lv_iload_n hx hb dJ1_indexOf_4cfef_23 rfl (lv_at hl 0 rfl) ?_
    refine lv_icmp_lt (tgt := 29) hx hb dJ1_indexOf_4cfef_24 (by decide) (fun c9 => ?_) (fun c9 => ?_)
    · replace hw := hw.1 c9
      refine lv_aload_n hx hb dJ1_indexOf_4cfef_29 rfl (lv_at hl 2 rfl) ?_
      refine lv_iload_n hx hb dJ1_indexOf_4cfef_30 rfl (lv_at hl 3 rfl) ?_
      refine lv_iload_n hx hb dJ1_indexOf_4cfef_31 rfl (lv_at hl 1 rfl) ?_
      refine lv_iload_n hx hb dJ1_indexOf_4cfef_32 rfl (lv_at hl 0 rfl) ?_
      refine h_goi C0 hW (va_runS (As := [.ref a4, .int z2, .int v3, .int v8]) (rest := []) ⟨hx, hb, hml, ho, hts⟩ (k_J1_indexOfChar_4c (l := l) (u := u) (X := X) (sz := H.size) _ (some a4) z2 v3 v8 S  hw) (va_cwS 4 hts gJ1_indexOf_4cfef_J1_indexOfChar_4cfef rfl rfl rfl (by decide +kernel) ⟨Nat.le_of_ble_eq_true rfl, Nat.le_of_ble_eq_true rfl⟩) ⟨h_blind, (h_pre C0 hW [.ref a4, .int z2, .int v3, .int v8])⟩ rfl rfl hl.1 rfl (lv_room (Nat.le_of_ble_eq_true rfl)) dJ1_indexOf_4cfef_33 ⟨Nat.le_refl _, Nat.le_refl _⟩) (fun r10 S11 H locs h12 hW => ?_)
      obtain ⟨h13, hp⟩ := h12
      rw [h13] at hW
      replace hw := hp
      exact hret r10 S _ _ 0 0 (Nat.le_refl _) (Nat.le_refl _) ⟨rfl, hw⟩ rfl dJ1_indexOf_4cfef_36 _ _ _ hW hl
    · replace hw := hw.2 c9
      refine lv_iconst (v := (-1)) hx hb dJ1_indexOf_4cfef_27 (by decide) ?_
      exact hret (-1) S _ _ 0 0 (Nat.le_refl _) (Nat.le_refl _) ⟨rfl, hw⟩ rfl dJ1_indexOf_4cfef_28 _ _ _ hW hl
  · replace hw := hw.2 c2
    refine lv_iconst (v := (-1)) hx hb dJ1_indexOf_4cfef_7 (by decide) ?_
    exact hret (-1) S _ _ 0 0 (Nat.le_refl _) (Nat.le_refl _) ⟨rfl, hw⟩ rfl dJ1_indexOf_4cfef_8 _ _ _ hW hl
set_option maxHeartbeats 4000000 in
set_option maxRecDepth 100000 in
theorem k_J1_indexOf_4c {l : Launch} {D : va_G} {u : hU} {X : va_W} {sz : Nat} (post : Int32 → Prop) (p1 : Option Nat) (z2 : Int32) (z3 : Int32) (z4 : Int32) (S : hS) (hw : w_J1_indexOf_4c u post  p1 z2 z3 z4 S) : hMi l yJ1_indexOf_4cfef wsJ1_indexOf_4cfef rm_J1_indexOf_4c D (gt u.2.1) u.1 u.2.2 sz X S [va_rf p1, .int z2, .int z3, .int z4] (fun r S' => S' = S ∧ post r) 0 0 := by
  refine hMi_of (cc := cJ1_indexOf_4cfef) (nL := 4) (ty := .int) (own := RJ1) (by decide) rfl rfl (by cases p1 <;> exact Nat.le_of_ble_eq_true rfl) ?_
  intro p e s m args below meth c A Q C0 hin hret
  have hfin := t_J1_indexOf_4c_0 C0  post hret p1 z2 z3 z4 hw
  intro H locs ls hW hl
  refine hfin H locs ls hW ?_
  cases p1 <;> exact hl
abbrev rm_J0_indexOf_7c : Room := { frames := 2, cells := 0, slots := 0, locals := 48 }
theorem in_J0_indexOf_7c_RJ0 : ∀ w ∈ wsJ00, w ∈ wsJ0_indexOf_7cf53 := fun w hw9 => List.mem_cons_of_mem _ (List.mem_append_right _ hw9)
set_option maxHeartbeats 4000000 in
set_option maxRecDepth 100000 in
theorem t_J0_indexOf_7c_0 (C0 : hX p s m args c cJ0_indexOf_7cf53 3 RJ0 wsJ0_indexOf_7cf53 D (gt u.2.1) A u.1 u.2.2) {S : hS} (t0 : Nat) (post : Int32 → Prop) (hret : ∀ (r : Int32) (S' : hS) (pc : Nat) (lv : List (Nat × Value)) (k n : Nat), k ≤ 0 → n ≤ 0 → (S' = S ∧ post r) → narrow .int (.int r) = .int r → decode cJ0_indexOf_7cf53 pc = .ok (.ireturn, 1) → gG p l e (rm_J0_indexOf_7c) s m args below meth c Q D A 3 k n (hC X S') pc lv [.int r])  : ∀ (z1 : Int32) (z2 : Int32), w_J0_indexOf_7c u post t0  z1 z2 S → gG p l e (rm_J0_indexOf_7c) s m args below meth c Q D A 3 0 0 (hC X S) 0 [(0, .ref t0), (1, .int z1), (2, .int z2)] [] := by
  obtain ⟨⟨hx, hb, hml, ho, hts, hK, hA⟩, hR⟩ := id C0
  intro z1 z2 hw H locs ls hW hl
  rw [w_J0_indexOf_7c] at hw
  refine lv_aload_n hx hb dJ0_indexOf_7cf53_0 rfl (lv_at hl 0 rfl) ?_
  obtain ⟨h2, hw⟩ := hw
  refine h_goi C0 hW (va_runV (As := []) (rest := []) ⟨hx, hb, hml, ho, hts⟩ (k_J0_isLatin1_aa (l := l) (u := u) (X := X) (sz := H.size) _ t0  S  hw) (cwV 0 hts gJ0_indexOf_7cf53_J0_isLatin1_aae02 rfl rfl rfl (by decide +kernel) ⟨Nat.le_of_ble_eq_true rfl, Nat.le_of_ble_eq_true rfl⟩) ⟨h_blind, (h_recvS C0 hW h2), (h_pre C0 hW [.ref t0])⟩ rfl rfl hl.1 rfl (lv_room (Nat.le_of_ble_eq_true rfl)) dJ0_indexOf_7cf53_1 ⟨Nat.le_refl _, Nat.le_refl _⟩) (fun r1 S3 H locs h4 hW => ?_)
  obtain ⟨h5, hp⟩ := h4
  rw [h5] at hW
  replace hw := hp
  refine lv_if_eq (tgt := 23) hx hb dJ0_indexOf_7cf53_4 (by decide) (fun c6 => ?_) (fun c6 => ?_)
  · replace hw := hw.1 c6
    refine lv_aload_n hx hb dJ0_indexOf_7cf53_23 rfl (lv_at hl 0 rfl) ?_
    obtain ⟨b7, h8, hw⟩ := hw
    refine h_getSV C0 hW in_J0_indexOf_7c_RJ0 h8 (List.mem_of_getElem? (i := 1) rfl) dJ0_indexOf_7cf53_24 ?_
    refine lv_iload_n hx hb dJ0_indexOf_7cf53_27 rfl (lv_at hl 1 rfl) ?_
    refine lv_iload_n hx hb dJ0_indexOf_7cf53_28 rfl (lv_at hl 2 rfl) ?_
    refine lv_aload_n hx hb dJ0_indexOf_7cf53_29 rfl (lv_at hl 0 rfl) ?_
    obtain ⟨h10, hw⟩ := hw
    refine h_goi C0 hW (va_runV (As := []) (rest := [.int z2, .int z1, .ref b7]) ⟨hx, hb, hml, ho, hts⟩ (k_J0_length_8a (l := l) (u := u) (X := X) (sz := H.size) _ t0  S  hw) (cwV 0 hts gJ0_indexOf_7cf53_J0_length_8abf5 rfl rfl rfl (by decide +kernel) ⟨Nat.le_of_ble_eq_true rfl, Nat.le_of_ble_eq_true rfl⟩) ⟨h_blind, (h_recvS C0 hW h10), (h_pre C0 hW [.ref t0])⟩ rfl rfl hl.1 rfl (lv_room (Nat.le_of_ble_eq_true rfl)) dJ0_indexOf_7cf53_30 ⟨Nat.le_refl _, Nat.le_refl _⟩) (fun r9 S11 H locs h12 hW => ?_)
    obtain ⟨h13, hp⟩ := h12
    rw [h13] at hW
    replace hw := hp
    exact hw.elim
  · replace hw := hw.2 c6
    refine lv_aload_n hx hb dJ0_indexOf_7cf53_7 rfl (lv_at hl 0 rfl) ?_
    obtain ⟨b14, h15, hw⟩ := hw
    refine h_getSV C0 hW in_J0_indexOf_7c_RJ0 h15 (List.mem_of_getElem? (i := 1) rfl) dJ0_indexOf_7cf53_8 ?_
    refine lv_iload_n hx hb dJ0_indexOf_7cf53_11 rfl (lv_at hl 1 rfl) ?_
    refine lv_iload_n hx hb dJ0_indexOf_7cf53_12 rfl (lv_at hl 2 rfl) ?_
    refine lv_aload_n hx hb dJ0_indexOf_7cf53_13 rfl (lv_at hl 0 rfl) ?_
    obtain ⟨h17, hw⟩ := hw
    refine h_goi C0 hW (va_runV (As := []) (rest := [.int z2, .int z1, .ref b14]) ⟨hx, hb, hml, ho, hts⟩ (k_J0_length_8a (l := l) (u := u) (X := X) (sz := H.size) _ t0  S  hw) (cwV 0 hts gJ0_indexOf_7cf53_J0_length_8abf5 rfl rfl rfl (by decide +kernel) ⟨Nat.le_of_ble_eq_true rfl, Nat.le_of_ble_eq_true rfl⟩) ⟨h_blind, (h_recvS C0 hW h17), (h_pre C0 hW [.ref t0])⟩ rfl rfl hl.1 rfl (lv_room (Nat.le_of_ble_eq_true rfl)) dJ0_indexOf_7cf53_14 ⟨Nat.le_refl _, Nat.le_refl _⟩) (fun r16 S18 H locs h19 hW => ?_)
    obtain ⟨h20, hp⟩ := h19
    rw [h20] at hW
    replace hw := hp
    refine h_goi C0 hW (va_runS (As := [.ref b14, .int z1, .int z2, .int r16]) (rest := []) ⟨hx, hb, hml, ho, hts⟩ (k_J1_indexOf_4c (l := l) (u := u) (X := X) (sz := H.size) _ (some b14) z1 z2 r16 S  hw) (va_cwS 4 hts gJ0_indexOf_7cf53_J1_indexOf_4cfef rfl rfl rfl (by decide +kernel) ⟨Nat.le_of_ble_eq_true rfl, Nat.le_of_ble_eq_true rfl⟩) ⟨h_blind, (h_pre C0 hW [.ref b14, .int z1, .int z2, .int r16])⟩ rfl rfl hl.1 rfl (lv_room (Nat.le_of_ble_eq_true rfl)) dJ0_indexOf_7cf53_17 ⟨Nat.le_refl _, Nat.le_refl _⟩) (fun r21 S22 H locs h23 hW => ?_)
    obtain ⟨h24, hp⟩ := h23
    rw [h24] at hW
    replace hw := hp
    refine lv_goto (tgt := 36) hx hb dJ0_indexOf_7cf53_20 (by decide) ?_
    exact hret r21 S _ _ 0 0 (Nat.le_refl _) (Nat.le_refl _) ⟨rfl, hw⟩ rfl dJ0_indexOf_7cf53_36 _ _ _ hW hl
set_option maxHeartbeats 4000000 in
set_option maxRecDepth 100000 in
theorem k_J0_indexOf_7c {l : Launch} {D : va_G} {u : hU} {X : va_W} {sz : Nat} (post : Int32 → Prop) (t0 : Nat) (z1 : Int32) (z2 : Int32) (S : hS) (hw : w_J0_indexOf_7c u post t0 z1 z2 S) : hMi l yJ0_indexOf_7cf53 wsJ0_indexOf_7cf53 rm_J0_indexOf_7c D (gt u.2.1) u.1 u.2.2 sz X S [.ref t0, .int z1, .int z2] (fun r S' => S' = S ∧ post r) 0 0 := by
  refine hMi_of (cc := cJ0_indexOf_7cf53) (nL := 3) (ty := .int) (own := RJ0) (by decide) rfl rfl (Nat.le_of_ble_eq_true rfl) ?_
  intro p e s m args below meth c A Q C0 hin hret
  exact t_J0_indexOf_7c_0 C0 t0 post hret z1 z2 hw
abbrev rm_J0_indexOf_0f : Room := { frames := 3, cells := 0, slots := 0, locals := 70 }
set_option maxHeartbeats 4000000 in
set_option maxRecDepth 100000 in
theorem t_J0_indexOf_0f_0 (C0 : hX p s m args c cJ0_indexOf_0f7a4 2 RJ0 wsJ0_indexOf_0f7a4 D (gt u.2.1) A u.1 u.2.2) {S : hS} (t0 : Nat) (post : Int32 → Prop) (hret : ∀ (r : Int32) (S' : hS) (pc : Nat) (lv : List (Nat × Value)) (k n : Nat), k ≤ 0 → n ≤ 0 → (S' = S ∧ post r) → narrow .int (.int r) = .int r → decode cJ0_indexOf_0f7a4 pc = .ok (.ireturn, 1) → gG p l e (rm_J0_indexOf_0f) s m args below meth c Q D A 2 k n (hC X S') pc lv [.int r])  : ∀ (z1 : Int32), w_J0_indexOf_0f u post t0  z1 S → gG p l e (rm_J0_indexOf_0f) s m args below meth c Q D A 2 0 0 (hC X S) 0 [(0, .ref t0), (1, .int z1)] [] := by
  obtain ⟨⟨hx, hb, hml, ho, hts, hK, hA⟩, hR⟩ := id C0
  intro z1 hw H locs ls hW hl
  rw [w_J0_indexOf_0f] at hw
  refine lv_aload_n hx hb dJ0_indexOf_0f7a4_0 rfl (lv_at hl 0 rfl) ?_
  refine lv_iload_n hx hb dJ0_indexOf_0f7a4_1 rfl (lv_at hl 1 rfl) ?_
  refine lv_iconst (v := 0) hx hb dJ0_indexOf_0f7a4_2 (by decide) ?_
  obtain ⟨h2, hw⟩ := hw
  refine h_goi C0 hW (va_runV (As := [.int z1, .int 0]) (rest := []) ⟨hx, hb, hml, ho, hts⟩ (k_J0_indexOf_7c (l := l) (u := u) (X := X) (sz := H.size) _ t0 z1 0 S  hw) (cwV 2 hts gJ0_indexOf_0f7a4_J0_indexOf_7cf53 rfl rfl rfl (by decide +kernel) ⟨Nat.le_of_ble_eq_true rfl, Nat.le_of_ble_eq_true rfl⟩) ⟨h_blind, (h_recvS C0 hW h2), (h_pre C0 hW [.ref t0, .int z1, .int 0])⟩ rfl rfl hl.1 rfl (lv_room (Nat.le_of_ble_eq_true rfl)) dJ0_indexOf_0f7a4_3 ⟨Nat.le_refl _, Nat.le_refl _⟩) (fun r1 S3 H locs h4 hW => ?_)
  obtain ⟨h5, hp⟩ := h4
  rw [h5] at hW
  replace hw := hp
  exact hret r1 S _ _ 0 0 (Nat.le_refl _) (Nat.le_refl _) ⟨rfl, hw⟩ rfl dJ0_indexOf_0f7a4_6 _ _ _ hW hl
set_option maxHeartbeats 4000000 in
set_option maxRecDepth 100000 in
theorem k_J0_indexOf_0f {l : Launch} {D : va_G} {u : hU} {X : va_W} {sz : Nat} (post : Int32 → Prop) (t0 : Nat) (z1 : Int32) (S : hS) (hw : w_J0_indexOf_0f u post t0 z1 S) : hMi l yJ0_indexOf_0f7a4 wsJ0_indexOf_0f7a4 rm_J0_indexOf_0f D (gt u.2.1) u.1 u.2.2 sz X S [.ref t0, .int z1] (fun r S' => S' = S ∧ post r) 0 0 := by
  refine hMi_of (cc := cJ0_indexOf_0f7a4) (nL := 2) (ty := .int) (own := RJ0) (by decide) rfl rfl (Nat.le_of_ble_eq_true rfl) ?_
  intro p e s m args below meth c A Q C0 hin hret
  exact t_J0_indexOf_0f_0 C0 t0 post hret z1 hw
abbrev rm_J3_checkFromToIndex_8c : Room := { frames := 0, cells := 0, slots := 0, locals := 0 }
set_option maxHeartbeats 4000000 in
set_option maxRecDepth 100000 in
theorem t_J3_checkFromToIndex_8c_14 (C0 : hX p s m args c cJ3_checkFromToIndex_8c36e 4 RJ3 wsJ3_checkFromToIndex_8c36e D (gt u.2.1) A u.1 u.2.2) {S : hS}  (post : Int32 → Prop) (hret : ∀ (r : Int32) (S' : hS) (pc : Nat) (lv : List (Nat × Value)) (k n : Nat), k ≤ 0 → n ≤ 0 → (S' = S ∧ post r) → narrow .int (.int r) = .int r → decode cJ3_checkFromToIndex_8c36e pc = .ok (.ireturn, 1) → gG p l e (rm_J3_checkFromToIndex_8c) s m args below meth c Q D A 4 k n (hC X S') pc lv [.int r])  : ∀ (x0 : Int32) (x1 : Int32) (x2 : Int32) (x3 : Option Nat), w_J3_checkFromToIndex_8c_14 u post   x0 x1 x2 x3 S → gG p l e (rm_J3_checkFromToIndex_8c) s m args below meth c Q D A 4 0 0 (hC X S) 14 [(0, .int x0), (1, .int x1), (2, .int x2), (3, va_rf x3)] [] := by
  obtain ⟨⟨hx, hb, hml, ho, hts, hK, hA⟩, hR⟩ := id C0
  intro x0 x1 x2 x3 hw H locs ls hW hl
  rw [w_J3_checkFromToIndex_8c_14] at hw
  refine lv_aloadV_n hx hb dJ3_checkFromToIndex_8c36e_14 rfl (lv_at hl 3 rfl) ?_
  refine lv_iload_n hx hb dJ3_checkFromToIndex_8c36e_15 rfl (lv_at hl 0 rfl) ?_
  refine lv_iload_n hx hb dJ3_checkFromToIndex_8c36e_16 rfl (lv_at hl 1 rfl) ?_
  refine lv_iload_n hx hb dJ3_checkFromToIndex_8c36e_17 rfl (lv_at hl 2 rfl) ?_
  exact hw.elim
set_option maxHeartbeats 4000000 in
set_option maxRecDepth 100000 in
theorem t_J3_checkFromToIndex_8c_0 (C0 : hX p s m args c cJ3_checkFromToIndex_8c36e 4 RJ3 wsJ3_checkFromToIndex_8c36e D (gt u.2.1) A u.1 u.2.2) {S : hS}  (post : Int32 → Prop) (hret : ∀ (r : Int32) (S' : hS) (pc : Nat) (lv : List (Nat × Value)) (k n : Nat), k ≤ 0 → n ≤ 0 → (S' = S ∧ post r) → narrow .int (.int r) = .int r → decode cJ3_checkFromToIndex_8c36e pc = .ok (.ireturn, 1) → gG p l e (rm_J3_checkFromToIndex_8c) s m args below meth c Q D A 4 k n (hC X S') pc lv [.int r])  : ∀ (z1 : Int32) (z2 : Int32) (z3 : Int32) (p4 : Option Nat), w_J3_checkFromToIndex_8c u post   z1 z2 z3 p4 S → gG p l e (rm_J3_checkFromToIndex_8c) s m args below meth c Q D A 4 0 0 (hC X S) 0 [(0, .int z1), (1, .int z2), (2, .int z3), (3, va_rf p4)] [] := by
  obtain ⟨⟨hx, hb, hml, ho, hts, hK, hA⟩, hR⟩ := id C0
  intro z1 z2 z3 p4 hw H locs ls hW hl
  rw [w_J3_checkFromToIndex_8c] at hw
  refine lv_iload_n hx hb dJ3_checkFromToIndex_8c36e_0 rfl (lv_at hl 0 rfl) ?_
  refine lv_if_lt (tgt := 14) hx hb dJ3_checkFromToIndex_8c36e_1 (by decide) (fun c1 => ?_) (fun c1 => ?_)
  · replace hw := hw.1 c1
    exact t_J3_checkFromToIndex_8c_14 C0  post hret  z1 z2 z3 p4   hw _ _ _ hW (lv_sub hl [0, 1, 2, 3] rfl)
  · replace hw := hw.2 c1
    refine lv_iload_n hx hb dJ3_checkFromToIndex_8c36e_4 rfl (lv_at hl 0 rfl) ?_
    refine lv_iload_n hx hb dJ3_checkFromToIndex_8c36e_5 rfl (lv_at hl 1 rfl) ?_
    refine lv_icmp_gt (tgt := 14) hx hb dJ3_checkFromToIndex_8c36e_6 (by decide) (fun c2 => ?_) (fun c2 => ?_)
    · replace hw := hw.1 c2
      exact t_J3_checkFromToIndex_8c_14 C0  post hret  z1 z2 z3 p4   hw _ _ _ hW (lv_sub hl [0, 1, 2, 3] rfl)
    · replace hw := hw.2 c2
      refine lv_iload_n hx hb dJ3_checkFromToIndex_8c36e_9 rfl (lv_at hl 1 rfl) ?_
      refine lv_iload_n hx hb dJ3_checkFromToIndex_8c36e_10 rfl (lv_at hl 2 rfl) ?_
      refine lv_icmp_le (tgt := 22) hx hb dJ3_checkFromToIndex_8c36e_11 (by decide) (fun c3 => ?_) (fun c3 => ?_)
      · replace hw := hw.1 c3
        refine lv_iload_n hx hb dJ3_checkFromToIndex_8c36e_22 rfl (lv_at hl 0 rfl) ?_
        exact hret z1 S _ _ 0 0 (Nat.le_refl _) (Nat.le_refl _) ⟨rfl, hw⟩ rfl dJ3_checkFromToIndex_8c36e_23 _ _ _ hW hl
      · replace hw := hw.2 c3
        exact t_J3_checkFromToIndex_8c_14 C0  post hret  z1 z2 z3 p4   hw _ _ _ hW (lv_sub hl [0, 1, 2, 3] rfl)
set_option maxHeartbeats 4000000 in
set_option maxRecDepth 100000 in
theorem k_J3_checkFromToIndex_8c {l : Launch} {D : va_G} {u : hU} {X : va_W} {sz : Nat} (post : Int32 → Prop) (z1 : Int32) (z2 : Int32) (z3 : Int32) (p4 : Option Nat) (S : hS) (hw : w_J3_checkFromToIndex_8c u post  z1 z2 z3 p4 S) : hMi l yJ3_checkFromToIndex_8c36e wsJ3_checkFromToIndex_8c36e rm_J3_checkFromToIndex_8c D (gt u.2.1) u.1 u.2.2 sz X S [.int z1, .int z2, .int z3, va_rf p4] (fun r S' => S' = S ∧ post r) 0 0 := by
  refine hMi_of (cc := cJ3_checkFromToIndex_8c36e) (nL := 4) (ty := .int) (own := RJ3) (by decide) rfl rfl (by cases p4 <;> exact Nat.le_of_ble_eq_true rfl) ?_
  intro p e s m args below meth c A Q C0 hin hret
  have hfin := t_J3_checkFromToIndex_8c_0 C0  post hret z1 z2 z3 p4 hw
  intro H locs ls hW hl
  refine hfin H locs ls hW ?_
  cases p4 <;> exact hl
end RAWM
