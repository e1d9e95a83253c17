section RAWM
variable {p : Program} {l : Launch} {e : Env} {s : State} {m : MethodId} {args : Array Value} {below : List Frame} {meth : Method} {c : Code} {Q : State → Prop}
variable {D : va_G} {A : Nat → Prop} {u : hU} {X : va_W} {MC MS : Nat}
abbrev rm_L_twice (MC MS : Nat) : Room := { frames := 11, cells := MC, slots := MS, locals := 246 }
set_option maxHeartbeats 4000000 in
set_option maxRecDepth 100000 in
theorem t_L_twice_100 (C0 : hX p s m args c cL_twice 4 RL wsL_twice D (gt u.2.1) A u.1 u.2.2)  (post : Int32 → hS → Prop) (hret : ∀ (r : Int32) (S' : hS) (pc : Nat) (lv : List (Nat × Value)) (k n : Nat), k ≤ MC → n ≤ MS → post r S' → narrow .boolean (.int r) = .int r → decode cL_twice pc = .ok (.ireturn, 1) → gG p l e (rm_L_twice MC MS) s m args below meth c Q D A 4 k n (hC X S') pc lv [.int r]) (K23 : Nat → Int32 → Int32 → Int32 → hS → Nat → Nat → Prop) (hK23 : ∀ (x0 : Nat) (x1 : Int32) (x2 : Int32) (x3 : Int32) (S : hS) (mc ms k n : Nat), k + mc ≤ MC ∧ n + ms ≤ MS → K23 x0 x1 x2 x3 S mc ms → gG p l e (rm_L_twice MC MS) s m args below meth c Q D A 4 k n (hC X S) 23 [(0, .ref x0), (1, .int x1), (2, .int x2), (3, .int x3)] []) : ∀ (x0 : Nat) (x1 : Int32) (x3 : Int32) (s0 : Int32) (s1 : Nat) (S : hS) (mc ms k n : Nat), k + mc ≤ MC ∧ n + ms ≤ MS → w_L_twice_100 u post  K23 x0 x1 x3 s0 s1 S mc ms → gG p l e (rm_L_twice MC MS) s m args below meth c Q D A 4 k n (hC X S) 100 [(0, .ref x0), (1, .int x1), (3, .int x3)] [.int s0, .ref s1] := by
  obtain ⟨⟨hx, hb, hml, ho, hts, hK, hA⟩, hR⟩ := id C0
  intro x0 x1 x3 s0 s1 S mc ms k n hkn hw H locs ls hW hl
  rw [w_L_twice_100] at hw
  obtain ⟨h90, k86, n87, h88, h89, hw⟩ := hw
  refine h_goi C0 hW (va_runV (As := [.int s0]) (rest := []) ⟨hx, hb, hml, ho, hts⟩ (k_X9_type (l := l) (u := u) (X := X) (sz := H.size) _ s1 s0 S k86 n87 hw) (cwV 1 hts gL_twice_X9_type rfl rfl rfl (by decide +kernel) ⟨Nat.le_of_ble_eq_true rfl, Nat.le_of_ble_eq_true rfl⟩) ⟨h_blind, (h_recv C0 hW (ci := 10) rfl h90), (h_pre C0 hW [.ref s1, .int s0])⟩ rfl rfl hl.1 rfl (lv_room (Nat.le_of_ble_eq_true rfl)) dL_twice_100 ⟨by show _ ≤ MC; omega, by show _ ≤ MS; omega⟩) (fun r85 S91 H locs h92 hW => ?_)
  replace hw := h92
  have hkn : (k + k86) + (mc - k86) ≤ MC ∧ (n + n87) + (ms - n87) ≤ MS := by omega
  refine lv_if_le (tgt := 110) hx hb dL_twice_103 (by decide) (fun c93 => ?_) (fun c93 => ?_)
  · replace hw := hw.1 c93
    refine lv_iconst (v := 0) hx hb dL_twice_110 (by decide) ?_
    refine lv_istore_n (lv' := [(2, .int 0), (0, .ref x0), (1, .int x1), (3, .int x3)]) hx hb dL_twice_111 rfl hl (by decide) rfl (fun ls hl9 => ?_)
    replace hl := hl9
    obtain ⟨v94, ev94⟩ : ∃ y : Int32, y = x3 + 1 := ⟨_, rfl⟩
    replace hw := hw v94 ev94
    refine lv_iinc (v := v94) (lv' := [(3, .int v94), (2, .int 0), (0, .ref x0), (1, .int x1)]) hx hb dL_twice_112 hl (k := 3) rfl (by rw [ev94]; rfl) (by decide) rfl (fun ls hl9 => ?_)
    replace hl := hl9
    refine lv_goto (tgt := 23) hx hb dL_twice_115 (by decide) ?_
    exact hK23 x0 x1 0 v94 S91 (mc - k86) (ms - n87) _ _ hkn hw _ _ _ hW (lv_sub hl [2, 3, 1, 0] rfl)
  · replace hw := hw.2 c93
    refine lv_iconst (v := 1) hx hb dL_twice_106 (by decide) ?_
    refine lv_goto (tgt := 111) hx hb dL_twice_107 (by decide) ?_
    refine lv_istore_n (lv' := [(2, .int 1), (0, .ref x0), (1, .int x1), (3, .int x3)]) hx hb dL_twice_111 rfl hl (by decide) rfl (fun ls hl9 => ?_)
    replace hl := hl9
    obtain ⟨v95, ev95⟩ : ∃ y : Int32, y = x3 + 1 := ⟨_, rfl⟩
    replace hw := hw v95 ev95
    refine lv_iinc (v := v95) (lv' := [(3, .int v95), (2, .int 1), (0, .ref x0), (1, .int x1)]) hx hb dL_twice_112 hl (k := 3) rfl (by rw [ev95]; rfl) (by decide) rfl (fun ls hl9 => ?_)
    replace hl := hl9
    refine lv_goto (tgt := 23) hx hb dL_twice_115 (by decide) ?_
    exact hK23 x0 x1 1 v95 S91 (mc - k86) (ms - n87) _ _ hkn hw _ _ _ hW (lv_sub hl [2, 3, 1, 0] rfl)
set_option maxHeartbeats 4000000 in
set_option maxRecDepth 100000 in
theorem t_L_twice_63 (C0 : hX p s m args c cL_twice 4 RL wsL_twice D (gt u.2.1) A u.1 u.2.2)  (post : Int32 → hS → Prop) (hret : ∀ (r : Int32) (S' : hS) (pc : Nat) (lv : List (Nat × Value)) (k n : Nat), k ≤ MC → n ≤ MS → post r S' → narrow .boolean (.int r) = .int r → decode cL_twice pc = .ok (.ireturn, 1) → gG p l e (rm_L_twice MC MS) s m args below meth c Q D A 4 k n (hC X S') pc lv [.int r]) (K23 : Nat → Int32 → Int32 → Int32 → hS → Nat → Nat → Prop) (hK23 : ∀ (x0 : Nat) (x1 : Int32) (x2 : Int32) (x3 : Int32) (S : hS) (mc ms k n : Nat), k + mc ≤ MC ∧ n + ms ≤ MS → K23 x0 x1 x2 x3 S mc ms → gG p l e (rm_L_twice MC MS) s m args below meth c Q D A 4 k n (hC X S) 23 [(0, .ref x0), (1, .int x1), (2, .int x2), (3, .int x3)] []) : ∀ (x0 : Nat) (x1 : Int32) (x3 : Int32) (s0 : Int32) (s1 : Nat) (S : hS) (mc ms k n : Nat), k + mc ≤ MC ∧ n + ms ≤ MS → w_L_twice_63 u post  K23 x0 x1 x3 s0 s1 S mc ms → gG p l e (rm_L_twice MC MS) s m args below meth c Q D A 4 k n (hC X S) 63 [(0, .ref x0), (1, .int x1), (3, .int x3)] [.int s0, .ref s1] := by
  obtain ⟨⟨hx, hb, hml, ho, hts, hK, hA⟩, hR⟩ := id C0
  intro x0 x1 x3 s0 s1 S mc ms k n hkn hw H locs ls hW hl
  rw [w_L_twice_63] at hw
  obtain ⟨h68, k64, n65, h66, h67, hw⟩ := hw
  refine h_goi C0 hW (va_runV (As := [.int s0]) (rest := []) ⟨hx, hb, hml, ho, hts⟩ (k_X9_type (l := l) (u := u) (X := X) (sz := H.size) _ s1 s0 S k64 n65 hw) (cwV 1 hts gL_twice_X9_type rfl rfl rfl (by decide +kernel) ⟨Nat.le_of_ble_eq_true rfl, Nat.le_of_ble_eq_true rfl⟩) ⟨h_blind, (h_recv C0 hW (ci := 10) rfl h68), (h_pre C0 hW [.ref s1, .int s0])⟩ rfl rfl hl.1 rfl (lv_room (Nat.le_of_ble_eq_true rfl)) dL_twice_63 ⟨by show _ ≤ MC; omega, by show _ ≤ MS; omega⟩) (fun r63 S69 H locs h70 hW => ?_)
  replace hw := h70
  have hkn : (k + k64) + (mc - k64) ≤ MC ∧ (n + n65) + (ms - n65) ≤ MS := by omega
  refine lv_if_le (tgt := 110) hx hb dL_twice_66 (by decide) (fun c71 => ?_) (fun c71 => ?_)
  · replace hw := hw.1 c71
    refine lv_iconst (v := 0) hx hb dL_twice_110 (by decide) ?_
    refine lv_istore_n (lv' := [(2, .int 0), (0, .ref x0), (1, .int x1), (3, .int x3)]) hx hb dL_twice_111 rfl hl (by decide) rfl (fun ls hl9 => ?_)
    replace hl := hl9
    obtain ⟨v72, ev72⟩ : ∃ y : Int32, y = x3 + 1 := ⟨_, rfl⟩
    replace hw := hw v72 ev72
    refine lv_iinc (v := v72) (lv' := [(3, .int v72), (2, .int 0), (0, .ref x0), (1, .int x1)]) hx hb dL_twice_112 hl (k := 3) rfl (by rw [ev72]; rfl) (by decide) rfl (fun ls hl9 => ?_)
    replace hl := hl9
    refine lv_goto (tgt := 23) hx hb dL_twice_115 (by decide) ?_
    exact hK23 x0 x1 0 v72 S69 (mc - k64) (ms - n65) _ _ hkn hw _ _ _ hW (lv_sub hl [2, 3, 1, 0] rfl)
  · replace hw := hw.2 c71
    refine lv_aload_n hx hb dL_twice_69 rfl (lv_at hl 0 rfl) ?_
    refine lv_bipush (v := 98) hx hb dL_twice_70 (by decide) ?_
    refine lv_iload_n hx hb dL_twice_72 rfl (lv_at hl 1 rfl) ?_
    refine lv_iload_n hx hb dL_twice_73 rfl (lv_at hl 2 rfl) ?_
    refine lv_ishr hx hb dL_twice_74 ?_
    refine lv_bipush (v := 9) hx hb dL_twice_75 (by decide) ?_
    refine g_calls (As := [.int (x1 >>> (x3 &&& 31)), .int 9]) (rest := [.int 98, .ref x0]) ⟨hx, hb, hml, ho, hts⟩ hl.1 (k_L_low (l := l) _ (x1 >>> (x3 &&& 31)) 9 (by decide) hw) (va_cwS 2 hts gL_twice_L_low rfl rfl rfl (by decide +kernel) ⟨Nat.le_of_ble_eq_true rfl, Nat.le_of_ble_eq_true rfl⟩) (Nat.le_of_ble_eq_true rfl) dL_twice_77 rfl ⟨by show _ ≤ MC; omega, by show _ ≤ MS; omega⟩ (fun r73 hp => ?_)
    replace hw := hp
    refine lv_iadd hx hb dL_twice_80 ?_
    obtain ⟨h79, k75, n76, h77, h78, hw⟩ := hw
    refine h_goi C0 hW (va_runV (As := [.int (98 + r73)]) (rest := []) ⟨hx, hb, hml, ho, hts⟩ (k_X9_type (l := l) (u := u) (X := X) (sz := H.size) _ x0 (98 + r73) S69 k75 n76 hw) (cwV 1 hts gL_twice_X9_type rfl rfl rfl (by decide +kernel) ⟨Nat.le_of_ble_eq_true rfl, Nat.le_of_ble_eq_true rfl⟩) ⟨h_blind, (h_recv C0 hW (ci := 10) rfl h79), (h_pre C0 hW [.ref x0, .int (98 + r73)])⟩ rfl rfl hl.1 rfl (lv_room (Nat.le_of_ble_eq_true rfl)) dL_twice_81 ⟨by show _ ≤ MC; omega, by show _ ≤ MS; omega⟩) (fun r74 S80 H locs h81 hW => ?_)
    replace hw := h81
    have hkn : ((k + k64) + k75) + ((mc - k64) - k75) ≤ MC ∧ ((n + n65) + n76) + ((ms - n65) - n76) ≤ MS := by omega
    refine lv_if_le (tgt := 110) hx hb dL_twice_84 (by decide) (fun c82 => ?_) (fun c82 => ?_)
    · replace hw := hw.1 c82
      refine lv_iconst (v := 0) hx hb dL_twice_110 (by decide) ?_
      refine lv_istore_n (lv' := [(2, .int 0), (0, .ref x0), (1, .int x1), (3, .int x3)]) hx hb dL_twice_111 rfl hl (by decide) rfl (fun ls hl9 => ?_)
      replace hl := hl9
      obtain ⟨v83, ev83⟩ : ∃ y : Int32, y = x3 + 1 := ⟨_, rfl⟩
      replace hw := hw v83 ev83
      refine lv_iinc (v := v83) (lv' := [(3, .int v83), (2, .int 0), (0, .ref x0), (1, .int x1)]) hx hb dL_twice_112 hl (k := 3) rfl (by rw [ev83]; rfl) (by decide) rfl (fun ls hl9 => ?_)
      replace hl := hl9
      refine lv_goto (tgt := 23) hx hb dL_twice_115 (by decide) ?_
      exact hK23 x0 x1 0 v83 S80 ((mc - k64) - k75) ((ms - n65) - n76) _ _ hkn hw _ _ _ hW (lv_sub hl [2, 3, 1, 0] rfl)
    · replace hw := hw.2 c82
      refine lv_aload_n hx hb dL_twice_87 rfl (lv_at hl 0 rfl) ?_
      refine lv_iload_n hx hb dL_twice_88 rfl (lv_at hl 2 rfl) ?_
      refine lv_iconst (v := 1) hx hb dL_twice_89 (by decide) ?_
      refine lv_icmp_ne (tgt := 98) hx hb dL_twice_90 (by decide) (fun c84 => ?_) (fun c84 => ?_)
      · replace hw := hw.1 c84
        refine lv_bipush (v := 10) hx hb dL_twice_98 (by decide) ?_
        exact t_L_twice_100 C0  post hret K23 hK23 x0 x1 x3 10 x0 S80 ((mc - k64) - k75) ((ms - n65) - n76) _ _ hkn hw _ _ _ hW (lv_sub hl [0, 1, 2] rfl)
      · replace hw := hw.2 c84
        refine lv_bipush (v := 13) hx hb dL_twice_93 (by decide) ?_
        refine lv_goto (tgt := 100) hx hb dL_twice_95 (by decide) ?_
        exact t_L_twice_100 C0  post hret K23 hK23 x0 x1 x3 13 x0 S80 ((mc - k64) - k75) ((ms - n65) - n76) _ _ hkn hw _ _ _ hW (lv_sub hl [0, 1, 2] rfl)
set_option maxHeartbeats 4000000 in
set_option maxRecDepth 100000 in
theorem t_L_twice_166 (C0 : hX p s m args c cL_twice 4 RL wsL_twice D (gt u.2.1) A u.1 u.2.2)  (post : Int32 → hS → Prop) (hret : ∀ (r : Int32) (S' : hS) (pc : Nat) (lv : List (Nat × Value)) (k n : Nat), k ≤ MC → n ≤ MS → post r S' → narrow .boolean (.int r) = .int r → decode cL_twice pc = .ok (.ireturn, 1) → gG p l e (rm_L_twice MC MS) s m args below meth c Q D A 4 k n (hC X S') pc lv [.int r])  : ∀ (x0 : Nat) (x1 : Int32) (s0 : Int32) (S : hS) (mc ms k n : Nat), k + mc ≤ MC ∧ n + ms ≤ MS → w_L_twice_166 u post   x0 x1 s0 S mc ms → gG p l e (rm_L_twice MC MS) s m args below meth c Q D A 4 k n (hC X S) 166 [(0, .ref x0), (1, .int x1)] [.int s0] := by
  obtain ⟨⟨hx, hb, hml, ho, hts, hK, hA⟩, hR⟩ := id C0
  intro x0 x1 s0 S mc ms k n hkn hw H locs ls hW hl
  rw [w_L_twice_166] at hw
  refine lv_istore_n (lv' := [(2, .int s0), (0, .ref x0), (1, .int x1)]) hx hb dL_twice_166 rfl hl (by decide) rfl (fun ls hl9 => ?_)
  replace hl := hl9
  refine lv_iload_n hx hb dL_twice_167 rfl (lv_at hl 0 rfl) ?_
  refine lv_if_eq (tgt := 195) hx hb dL_twice_168 (by decide) (fun c96 => ?_) (fun c96 => ?_)
  · replace hw := hw.1 c96
    refine lv_iconst (v := 0) hx hb dL_twice_195 (by decide) ?_
    exact hret 0 S _ _ _ _ (by omega) (by omega) hw (by decide) dL_twice_196 _ _ _ hW hl
  · replace hw := hw.2 c96
    refine lv_aload_n hx hb dL_twice_171 rfl (lv_at hl 1 rfl) ?_
    refine lv_iconst (v := 1) hx hb dL_twice_172 (by decide) ?_
    refine lv_iconst (v := 0) hx hb dL_twice_173 (by decide) ?_
    obtain ⟨h98, hw⟩ := hw
    refine h_goi C0 hW (va_runV (As := [.int 1, .int 0]) (rest := []) ⟨hx, hb, hml, ho, hts⟩ (k_X9_characterAt (l := l) (u := u) (X := X) (sz := H.size) _ x0 1 0 S  hw) (cwV 2 hts gL_twice_X9_characterAt rfl rfl rfl (by decide +kernel) ⟨Nat.le_of_ble_eq_true rfl, Nat.le_of_ble_eq_true rfl⟩) ⟨h_blind, (h_recv C0 hW (ci := 10) rfl h98), (h_pre C0 hW [.ref x0, .int 1, .int 0])⟩ rfl rfl hl.1 rfl (lv_room (Nat.le_of_ble_eq_true rfl)) dL_twice_174 ⟨by show _ ≤ MC; omega, by show _ ≤ MS; omega⟩) (fun r97 S99 H locs h100 hW => ?_)
    obtain ⟨h101, hp⟩ := h100
    rw [h101] at hW
    replace hw := hp
    refine lv_bipush (v := 98) hx hb dL_twice_177 (by decide) ?_
    refine lv_iload_n hx hb dL_twice_179 rfl (lv_at hl 2 rfl) ?_
    refine lv_iconst (v := 2) hx hb dL_twice_180 (by decide) ?_
    refine lv_ishr hx hb dL_twice_181 ?_
    refine lv_bipush (v := 9) hx hb dL_twice_182 (by decide) ?_
    refine g_calls (As := [.int (x1 >>> (2 &&& 31)), .int 9]) (rest := [.int 98, .int r97]) ⟨hx, hb, hml, ho, hts⟩ hl.1 (k_L_low (l := l) _ (x1 >>> (2 &&& 31)) 9 (by decide) hw) (va_cwS 2 hts gL_twice_L_low rfl rfl rfl (by decide +kernel) ⟨Nat.le_of_ble_eq_true rfl, Nat.le_of_ble_eq_true rfl⟩) (Nat.le_of_ble_eq_true rfl) dL_twice_184 rfl ⟨by show _ ≤ MC; omega, by show _ ≤ MS; omega⟩ (fun r102 hp => ?_)
    replace hw := hp
    refine lv_iadd hx hb dL_twice_187 ?_
    refine lv_icmp_ne (tgt := 195) hx hb dL_twice_188 (by decide) (fun c103 => ?_) (fun c103 => ?_)
    · replace hw := hw.1 c103
      refine lv_iconst (v := 0) hx hb dL_twice_195 (by decide) ?_
      exact hret 0 S _ _ _ _ (by omega) (by omega) hw (by decide) dL_twice_196 _ _ _ hW hl
    · replace hw := hw.2 c103
      refine lv_iconst (v := 1) hx hb dL_twice_191 (by decide) ?_
      refine lv_goto (tgt := 196) hx hb dL_twice_192 (by decide) ?_
      exact hret 1 S _ _ _ _ (by omega) (by omega) hw (by decide) dL_twice_196 _ _ _ hW hl
set_option maxHeartbeats 4000000 in
set_option maxRecDepth 100000 in
theorem t_L_twice_165 (C0 : hX p s m args c cL_twice 4 RL wsL_twice D (gt u.2.1) A u.1 u.2.2)  (post : Int32 → hS → Prop) (hret : ∀ (r : Int32) (S' : hS) (pc : Nat) (lv : List (Nat × Value)) (k n : Nat), k ≤ MC → n ≤ MS → post r S' → narrow .boolean (.int r) = .int r → decode cL_twice pc = .ok (.ireturn, 1) → gG p l e (rm_L_twice MC MS) s m args below meth c Q D A 4 k n (hC X S') pc lv [.int r])  : ∀ (x0 : Nat) (x1 : Int32) (S : hS) (mc ms k n : Nat), k + mc ≤ MC ∧ n + ms ≤ MS → w_L_twice_165 u post   x0 x1 S mc ms → gG p l e (rm_L_twice MC MS) s m args below meth c Q D A 4 k n (hC X S) 165 [(0, .ref x0), (1, .int x1)] [] := by
  obtain ⟨⟨hx, hb, hml, ho, hts, hK, hA⟩, hR⟩ := id C0
  intro x0 x1 S mc ms k n hkn hw H locs ls hW hl
  rw [w_L_twice_165] at hw
  refine lv_iconst (v := 0) hx hb dL_twice_165 (by decide) ?_
  exact t_L_twice_166 C0  post hret  x0 x1 0 S mc ms _ _ hkn hw _ _ _ hW (lv_sub hl [0, 1] rfl)
set_option maxHeartbeats 4000000 in
set_option maxRecDepth 100000 in
theorem t_L_twice_23 (C0 : hX p s m args c cL_twice 4 RL wsL_twice D (gt u.2.1) A u.1 u.2.2)  (post : Int32 → hS → Prop) (hret : ∀ (r : Int32) (S' : hS) (pc : Nat) (lv : List (Nat × Value)) (k n : Nat), k ≤ MC → n ≤ MS → post r S' → narrow .boolean (.int r) = .int r → decode cL_twice pc = .ok (.ireturn, 1) → gG p l e (rm_L_twice MC MS) s m args below meth c Q D A 4 k n (hC X S') pc lv [.int r])  : ∀ (nf : Nat) (x0 : Nat) (x1 : Int32) (x2 : Int32) (x3 : Int32) (S : hS) (mc ms k n : Nat), k + mc ≤ MC ∧ n + ms ≤ MS → w_L_twice_23 u post   nf x0 x1 x2 x3 S mc ms → gG p l e (rm_L_twice MC MS) s m args below meth c Q D A 4 k n (hC X S) 23 [(0, .ref x0), (1, .int x1), (2, .int x2), (3, .int x3)] [] := by
  obtain ⟨⟨hx, hb, hml, ho, hts, hK, hA⟩, hR⟩ := id C0
  intro nf
  induction nf with
  | zero => intro x0 x1 x2 x3 S mc ms k n hkn hw; exact hw.elim
  | succ nf ih =>
    intro x0 x1 x2 x3 S mc ms k n hkn hw H locs ls hW hl
    rw [w_L_twice_23] at hw
    refine lv_iload_n hx hb dL_twice_23 rfl (lv_at hl 3 rfl) ?_
    refine lv_iconst (v := 3) hx hb dL_twice_24 (by decide) ?_
    refine lv_icmp_ge (tgt := 118) hx hb dL_twice_25 (by decide) (fun c19 => ?_) (fun c19 => ?_)
    · replace hw := hw.1 c19
      refine lv_iload_n hx hb dL_twice_118 rfl (lv_at hl 2 rfl) ?_
      refine lv_if_eq (tgt := 165) hx hb dL_twice_119 (by decide) (fun c20 => ?_) (fun c20 => ?_)
      · replace hw := hw.1 c20
        exact t_L_twice_165 C0  post hret  x0 x1 S mc ms _ _ hkn hw _ _ _ hW (lv_sub hl [0, 1] rfl)
      · replace hw := hw.2 c20
        refine lv_aload_n hx hb dL_twice_122 rfl (lv_at hl 0 rfl) ?_
        refine lv_iconst (v := 3) hx hb dL_twice_123 (by decide) ?_
        obtain ⟨h26, k22, n23, h24, h25, hw⟩ := hw
        refine h_goi C0 hW (va_runV (As := [.int 3]) (rest := []) ⟨hx, hb, hml, ho, hts⟩ (k_X9_load (l := l) (u := u) (X := X) (sz := H.size) _ x0 3 S k22 n23 hw) (cwV 1 hts gL_twice_X9_load rfl rfl rfl (by decide +kernel) ⟨Nat.le_of_ble_eq_true rfl, Nat.le_of_ble_eq_true rfl⟩) ⟨h_blind, (h_recv C0 hW (ci := 10) rfl h26), (h_pre C0 hW [.ref x0, .int 3])⟩ rfl rfl hl.1 rfl (lv_room (Nat.le_of_ble_eq_true rfl)) dL_twice_124 ⟨by show _ ≤ MC; omega, by show _ ≤ MS; omega⟩) (fun r21 S27 H locs h28 hW => ?_)
        replace hw := h28
        have hkn : (k + k22) + (mc - k22) ≤ MC ∧ (n + n23) + (ms - n23) ≤ MS := by omega
        refine lv_iconst (v := 3) hx hb dL_twice_127 (by decide) ?_
        refine lv_icmp_ne (tgt := 165) hx hb dL_twice_128 (by decide) (fun c29 => ?_) (fun c29 => ?_)
        · replace hw := hw.1 c29
          exact t_L_twice_165 C0  post hret  x0 x1 S27 (mc - k22) (ms - n23) _ _ hkn hw _ _ _ hW (lv_sub hl [0, 1] rfl)
        · replace hw := hw.2 c29
          refine lv_aload_n hx hb dL_twice_131 rfl (lv_at hl 0 rfl) ?_
          refine lv_iconst (v := 3) hx hb dL_twice_132 (by decide) ?_
          obtain ⟨h31, hw⟩ := hw
          refine h_goi C0 hW (va_runV (As := [.int 3]) (rest := []) ⟨hx, hb, hml, ho, hts⟩ (k_X9_size (l := l) (u := u) (X := X) (sz := H.size) _ x0 3 S27  hw) (cwV 1 hts gL_twice_X9_size rfl rfl rfl (by decide +kernel) ⟨Nat.le_of_ble_eq_true rfl, Nat.le_of_ble_eq_true rfl⟩) ⟨h_blind, (h_recv C0 hW (ci := 10) rfl h31), (h_pre C0 hW [.ref x0, .int 3])⟩ rfl rfl hl.1 rfl (lv_room (Nat.le_of_ble_eq_true rfl)) dL_twice_133 ⟨by show _ ≤ MC; omega, by show _ ≤ MS; omega⟩) (fun r30 S32 H locs h33 hW => ?_)
          obtain ⟨h34, hp⟩ := h33
          rw [h34] at hW
          replace hw := hp
          refine lv_iconst (v := 1) hx hb dL_twice_136 (by decide) ?_
          refine lv_icmp_ne (tgt := 165) hx hb dL_twice_137 (by decide) (fun c35 => ?_) (fun c35 => ?_)
          · replace hw := hw.1 c35
            exact t_L_twice_165 C0  post hret  x0 x1 S27 (mc - k22) (ms - n23) _ _ hkn hw _ _ _ hW (lv_sub hl [0, 1] rfl)
          · replace hw := hw.2 c35
            refine lv_aload_n hx hb dL_twice_140 rfl (lv_at hl 0 rfl) ?_
            refine lv_iconst (v := 0) hx hb dL_twice_141 (by decide) ?_
            refine lv_bipush (v := 97) hx hb dL_twice_142 (by decide) ?_
            obtain ⟨k37, n38, h39, h40, hw⟩ := hw
            refine h_goi C0 hW (va_runS (As := [.ref x0, .int 0, .int 97]) (rest := []) ⟨hx, hb, hml, ho, hts⟩ (k_L_one (l := l) (u := u) (X := X) (sz := H.size) _ (some x0) 0 97 S27 k37 n38 hw) (va_cwS 3 hts gL_twice_L_one rfl rfl rfl (by decide +kernel) ⟨Nat.le_of_ble_eq_true rfl, Nat.le_of_ble_eq_true rfl⟩) ⟨h_blind, (h_pre C0 hW [.ref x0, .int 0, .int 97])⟩ rfl rfl hl.1 rfl (lv_room (Nat.le_of_ble_eq_true rfl)) dL_twice_144 ⟨by show _ ≤ MC; omega, by show _ ≤ MS; omega⟩) (fun r36 S41 H locs h42 hW => ?_)
            replace hw := h42
            have hkn : ((k + k22) + k37) + ((mc - k22) - k37) ≤ MC ∧ ((n + n23) + n38) + ((ms - n23) - n38) ≤ MS := by omega
            refine lv_if_eq (tgt := 165) hx hb dL_twice_147 (by decide) (fun c43 => ?_) (fun c43 => ?_)
            · replace hw := hw.1 c43
              exact t_L_twice_165 C0  post hret  x0 x1 S41 ((mc - k22) - k37) ((ms - n23) - n38) _ _ hkn hw _ _ _ hW (lv_sub hl [0, 1] rfl)
            · replace hw := hw.2 c43
              refine lv_aload_n hx hb dL_twice_150 rfl (lv_at hl 0 rfl) ?_
              refine lv_iconst (v := 3) hx hb dL_twice_151 (by decide) ?_
              refine lv_iconst (v := 0) hx hb dL_twice_152 (by decide) ?_
              refine lv_iconst (v := 1) hx hb dL_twice_153 (by decide) ?_
              obtain ⟨h45, hw⟩ := hw
              refine h_goi C0 hW (va_runV (As := [.int 3, .int 0, .int 1]) (rest := []) ⟨hx, hb, hml, ho, hts⟩ (k_X9_get (l := l) (u := u) (X := X) (sz := H.size) _ x0 3 0 1 S41  hw) (cwV 3 hts gL_twice_X9_get rfl rfl rfl (by decide +kernel) ⟨Nat.le_of_ble_eq_true rfl, Nat.le_of_ble_eq_true rfl⟩) ⟨h_blind, (h_recv C0 hW (ci := 10) rfl h45), (h_pre C0 hW [.ref x0, .int 3, .int 0, .int 1])⟩ rfl rfl hl.1 rfl (lv_room (Nat.le_of_ble_eq_true rfl)) dL_twice_154 ⟨by show _ ≤ MC; omega, by show _ ≤ MS; omega⟩) (fun r44 S46 H locs h47 hW => ?_)
              replace hw := h47
              refine lv_iconst (v := 1) hx hb dL_twice_157 (by decide) ?_
              refine lv_icmp_ne (tgt := 165) hx hb dL_twice_158 (by decide) (fun c48 => ?_) (fun c48 => ?_)
              · replace hw := hw.1 c48
                exact t_L_twice_165 C0  post hret  x0 x1 S46 ((mc - k22) - k37) ((ms - n23) - n38) _ _ hkn hw _ _ _ hW (lv_sub hl [0, 1] rfl)
              · replace hw := hw.2 c48
                refine lv_iconst (v := 1) hx hb dL_twice_161 (by decide) ?_
                refine lv_goto (tgt := 166) hx hb dL_twice_162 (by decide) ?_
                exact t_L_twice_166 C0  post hret  x0 x1 1 S46 ((mc - k22) - k37) ((ms - n23) - n38) _ _ hkn hw _ _ _ hW (lv_sub hl [0, 1] rfl)
    · replace hw := hw.2 c19
      refine lv_iload_n hx hb dL_twice_28 rfl (lv_at hl 2 rfl) ?_
      refine lv_if_eq (tgt := 110) hx hb dL_twice_29 (by decide) (fun c49 => ?_) (fun c49 => ?_)
      · replace hw := hw.1 c49
        refine lv_iconst (v := 0) hx hb dL_twice_110 (by decide) ?_
        refine lv_istore_n (lv' := [(2, .int 0), (0, .ref x0), (1, .int x1), (3, .int x3)]) hx hb dL_twice_111 rfl hl (by decide) rfl (fun ls hl9 => ?_)
        replace hl := hl9
        obtain ⟨v50, ev50⟩ : ∃ y : Int32, y = x3 + 1 := ⟨_, rfl⟩
        replace hw := hw v50 ev50
        refine lv_iinc (v := v50) (lv' := [(3, .int v50), (2, .int 0), (0, .ref x0), (1, .int x1)]) hx hb dL_twice_112 hl (k := 3) rfl (by rw [ev50]; rfl) (by decide) rfl (fun ls hl9 => ?_)
        replace hl := hl9
        refine lv_goto (tgt := 23) hx hb dL_twice_115 (by decide) ?_
        exact ih x0 x1 0 v50 S mc ms _ _ hkn hw _ _ _ hW (lv_sub hl [2, 3, 1, 0] rfl)
      · replace hw := hw.2 c49
        refine lv_aload_n hx hb dL_twice_32 rfl (lv_at hl 0 rfl) ?_
        refine lv_bipush (v := 97) hx hb dL_twice_33 (by decide) ?_
        obtain ⟨h56, k52, n53, h54, h55, hw⟩ := hw
        refine h_goi C0 hW (va_runV (As := [.int 97]) (rest := []) ⟨hx, hb, hml, ho, hts⟩ (k_X9_type (l := l) (u := u) (X := X) (sz := H.size) _ x0 97 S k52 n53 hw) (cwV 1 hts gL_twice_X9_type rfl rfl rfl (by decide +kernel) ⟨Nat.le_of_ble_eq_true rfl, Nat.le_of_ble_eq_true rfl⟩) ⟨h_blind, (h_recv C0 hW (ci := 10) rfl h56), (h_pre C0 hW [.ref x0, .int 97])⟩ rfl rfl hl.1 rfl (lv_room (Nat.le_of_ble_eq_true rfl)) dL_twice_35 ⟨by show _ ≤ MC; omega, by show _ ≤ MS; omega⟩) (fun r51 S57 H locs h58 hW => ?_)
        replace hw := h58
        have hkn : (k + k52) + (mc - k52) ≤ MC ∧ (n + n53) + (ms - n53) ≤ MS := by omega
        refine lv_if_le (tgt := 110) hx hb dL_twice_38 (by decide) (fun c59 => ?_) (fun c59 => ?_)
        · replace hw := hw.1 c59
          refine lv_iconst (v := 0) hx hb dL_twice_110 (by decide) ?_
          refine lv_istore_n (lv' := [(2, .int 0), (0, .ref x0), (1, .int x1), (3, .int x3)]) hx hb dL_twice_111 rfl hl (by decide) rfl (fun ls hl9 => ?_)
          replace hl := hl9
          obtain ⟨v60, ev60⟩ : ∃ y : Int32, y = x3 + 1 := ⟨_, rfl⟩
          replace hw := hw v60 ev60
          refine lv_iinc (v := v60) (lv' := [(3, .int v60), (2, .int 0), (0, .ref x0), (1, .int x1)]) hx hb dL_twice_112 hl (k := 3) rfl (by rw [ev60]; rfl) (by decide) rfl (fun ls hl9 => ?_)
          replace hl := hl9
          refine lv_goto (tgt := 23) hx hb dL_twice_115 (by decide) ?_
          exact ih x0 x1 0 v60 S57 (mc - k52) (ms - n53) _ _ hkn hw _ _ _ hW (lv_sub hl [2, 3, 1, 0] rfl)
        · replace hw := hw.2 c59
          refine lv_aload_n hx hb dL_twice_41 rfl (lv_at hl 0 rfl) ?_
          refine lv_iload_n hx hb dL_twice_42 rfl (lv_at hl 3 rfl) ?_
          refine lv_if_ne (tgt := 51) hx hb dL_twice_43 (by decide) (fun c61 => ?_) (fun c61 => ?_)
          · replace hw := hw.1 c61
            refine lv_iload_n hx hb dL_twice_51 rfl (lv_at hl 3 rfl) ?_
            refine lv_iconst (v := 1) hx hb dL_twice_52 (by decide) ?_
            refine lv_icmp_ne (tgt := 61) hx hb dL_twice_53 (by decide) (fun c62 => ?_) (fun c62 => ?_)
            · replace hw := hw.1 c62
              refine lv_bipush (v := 32) hx hb dL_twice_61 (by decide) ?_
              exact t_L_twice_63 C0  post hret (w_L_twice_23 u post   nf) ih x0 x1 x3 32 x0 S57 (mc - k52) (ms - n53) _ _ hkn hw _ _ _ hW (lv_sub hl [0, 1, 3] rfl)
            · replace hw := hw.2 c62
              refine lv_bipush (v := 58) hx hb dL_twice_56 (by decide) ?_
              refine lv_goto (tgt := 63) hx hb dL_twice_58 (by decide) ?_
              exact t_L_twice_63 C0  post hret (w_L_twice_23 u post   nf) ih x0 x1 x3 58 x0 S57 (mc - k52) (ms - n53) _ _ hkn hw _ _ _ hW (lv_sub hl [0, 1, 3] rfl)
          · replace hw := hw.2 c61
            refine lv_bipush (v := 61) hx hb dL_twice_46 (by decide) ?_
            refine lv_goto (tgt := 63) hx hb dL_twice_48 (by decide) ?_
            exact t_L_twice_63 C0  post hret (w_L_twice_23 u post   nf) ih x0 x1 x3 61 x0 S57 (mc - k52) (ms - n53) _ _ hkn hw _ _ _ hW (lv_sub hl [0, 1, 3] rfl)
set_option maxHeartbeats 4000000 in
set_option maxRecDepth 100000 in
theorem t_L_twice_0 (C0 : hX p s m args c cL_twice 4 RL wsL_twice D (gt u.2.1) A u.1 u.2.2)  (post : Int32 → hS → Prop) (hret : ∀ (r : Int32) (S' : hS) (pc : Nat) (lv : List (Nat × Value)) (k n : Nat), k ≤ MC → n ≤ MS → post r S' → narrow .boolean (.int r) = .int r → decode cL_twice pc = .ok (.ireturn, 1) → gG p l e (rm_L_twice MC MS) s m args below meth c Q D A 4 k n (hC X S') pc lv [.int r])  : ∀ (p1 : Option Nat) (z2 : Int32) (S : hS) (mc ms k n : Nat), k + mc ≤ MC ∧ n + ms ≤ MS → w_L_twice u post   p1 z2 S mc ms → gG p l e (rm_L_twice MC MS) s m args below meth c Q D A 4 k n (hC X S) 0 [(0, va_rf p1), (1, .int z2)] [] := by
  obtain ⟨⟨hx, hb, hml, ho, hts, hK, hA⟩, hR⟩ := id C0
  intro p1 z2 S mc ms k n hkn hw H locs ls hW hl
  rw [w_L_twice] at hw
  refine lv_aloadV_n hx hb dL_twice_0 rfl (lv_at hl 0 rfl) ?_
  obtain ⟨a1, rfl, hw⟩ := hw
  obtain ⟨h7, k3, n4, h5, h6, hw⟩ := hw
  refine h_goi C0 hW (va_runV (As := []) (rest := []) ⟨hx, hb, hml, ho, hts⟩ (k_X9_wipe (l := l) (u := u) (X := X) (sz := H.size) _ a1  S k3 n4 hw) (cwV 0 hts gL_twice_X9_wipe rfl rfl rfl (by decide +kernel) ⟨Nat.le_of_ble_eq_true rfl, Nat.le_of_ble_eq_true rfl⟩) ⟨h_blind, (h_recv C0 hW (ci := 10) rfl h7), (h_pre C0 hW [.ref a1])⟩ rfl rfl hl.1 rfl (lv_room (Nat.le_of_ble_eq_true rfl)) dL_twice_1 ⟨by show _ ≤ MC; omega, by show _ ≤ MS; omega⟩) (fun r2 S8 H locs h9 hW => ?_)
  replace hw := h9
  have hkn : (k + k3) + (mc - k3) ≤ MC ∧ (n + n4) + (ms - n4) ≤ MS := by omega
  refine lv_if_lt (tgt := 19) hx hb dL_twice_4 (by decide) (fun c10 => ?_) (fun c10 => ?_)
  · replace hw := hw.1 c10
    refine lv_iconst (v := 0) hx hb dL_twice_19 (by decide) ?_
    refine lv_istore_n (lv' := [(2, .int 0), (0, .ref a1), (1, .int z2)]) hx hb dL_twice_20 rfl hl (by decide) rfl (fun ls hl9 => ?_)
    replace hl := hl9
    refine lv_iconst (v := 0) hx hb dL_twice_21 (by decide) ?_
    refine lv_istore_n (lv' := [(3, .int 0), (2, .int 0), (0, .ref a1), (1, .int z2)]) hx hb dL_twice_22 rfl hl (by decide) rfl (fun ls hl9 => ?_)
    replace hl := hl9
    obtain ⟨n11, hw⟩ := hw
    exact t_L_twice_23 C0  post hret  n11 a1 z2 0 0 S8 (mc - k3) (ms - n4) _ _ hkn hw _ _ _ hW (lv_sub hl [2, 3, 1, 0] rfl)
  · replace hw := hw.2 c10
    refine lv_aload_n hx hb dL_twice_7 rfl (lv_at hl 0 rfl) ?_
    refine lv_iconst (v := 3) hx hb dL_twice_8 (by decide) ?_
    obtain ⟨h13, hw⟩ := hw
    refine h_goi C0 hW (va_runV (As := [.int 3]) (rest := []) ⟨hx, hb, hml, ho, hts⟩ (k_X9_empty (l := l) (u := u) (X := X) (sz := H.size) _ a1 3 S8  hw) (cwV 1 hts gL_twice_X9_empty rfl rfl rfl (by decide +kernel) ⟨Nat.le_of_ble_eq_true rfl, Nat.le_of_ble_eq_true rfl⟩) ⟨h_blind, (h_recv C0 hW (ci := 10) rfl h13), (h_pre C0 hW [.ref a1, .int 3])⟩ rfl rfl hl.1 rfl (lv_room (Nat.le_of_ble_eq_true rfl)) dL_twice_9 ⟨by show _ ≤ MC; omega, by show _ ≤ MS; omega⟩) (fun r12 S14 H locs h15 hW => ?_)
    replace hw := h15
    refine lv_if_lt (tgt := 19) hx hb dL_twice_12 (by decide) (fun c16 => ?_) (fun c16 => ?_)
    · replace hw := hw.1 c16
      refine lv_iconst (v := 0) hx hb dL_twice_19 (by decide) ?_
      refine lv_istore_n (lv' := [(2, .int 0), (0, .ref a1), (1, .int z2)]) hx hb dL_twice_20 rfl hl (by decide) rfl (fun ls hl9 => ?_)
      replace hl := hl9
      refine lv_iconst (v := 0) hx hb dL_twice_21 (by decide) ?_
      refine lv_istore_n (lv' := [(3, .int 0), (2, .int 0), (0, .ref a1), (1, .int z2)]) hx hb dL_twice_22 rfl hl (by decide) rfl (fun ls hl9 => ?_)
      replace hl := hl9
      obtain ⟨n17, hw⟩ := hw
      exact t_L_twice_23 C0  post hret  n17 a1 z2 0 0 S14 (mc - k3) (ms - n4) _ _ hkn hw _ _ _ hW (lv_sub hl [2, 3, 1, 0] rfl)
    · replace hw := hw.2 c16
      refine lv_iconst (v := 1) hx hb dL_twice_15 (by decide) ?_
      refine lv_goto (tgt := 20) hx hb dL_twice_16 (by decide) ?_
      refine lv_istore_n (lv' := [(2, .int 1), (0, .ref a1), (1, .int z2)]) hx hb dL_twice_20 rfl hl (by decide) rfl (fun ls hl9 => ?_)
      replace hl := hl9
      refine lv_iconst (v := 0) hx hb dL_twice_21 (by decide) ?_
      refine lv_istore_n (lv' := [(3, .int 0), (2, .int 1), (0, .ref a1), (1, .int z2)]) hx hb dL_twice_22 rfl hl (by decide) rfl (fun ls hl9 => ?_)
      replace hl := hl9
      obtain ⟨n18, hw⟩ := hw
      exact t_L_twice_23 C0  post hret  n18 a1 z2 1 0 S14 (mc - k3) (ms - n4) _ _ hkn hw _ _ _ hW (lv_sub hl [2, 3, 1, 0] rfl)
set_option maxHeartbeats 4000000 in
set_option maxRecDepth 100000 in
theorem k_L_twice {l : Launch} {D : va_G} {u : hU} {X : va_W} {sz : Nat} (post : Int32 → hS → Prop) (p1 : Option Nat) (z2 : Int32) (S : hS) (mc ms : Nat) (hw : w_L_twice u post  p1 z2 S mc ms) : hMi l yL_twice wsL_twice (rm_L_twice mc ms) D (gt u.2.1) u.1 u.2.2 sz X S [va_rf p1, .int z2] post mc ms := by
  refine hMi_of (cc := cL_twice) (nL := 4) (ty := .boolean) (own := RL) (by decide) rfl rfl (by cases p1 <;> exact Nat.le_of_ble_eq_true rfl) ?_
  intro p e s m args below meth c A Q C0 hin hret
  have hfin := t_L_twice_0 C0  post hret p1 z2 S mc ms 0 0 ⟨by omega, by omega⟩ hw
  intro H locs ls hW hl
  refine hfin H locs ls hW ?_
  cases p1 <;> exact hl
abbrev rm_L_hasNone : Room := { frames := 5, cells := 0, slots := 0, locals := 109 }
set_option maxHeartbeats 4000000 in
set_option maxRecDepth 100000 in
theorem t_L_hasNone_18 (C0 : hX p s m args c cL_hasNone 6 RL wsL_hasNone D (gt u.2.1) A u.1 u.2.2) {S : hS}  (post : Int32 → Prop) (hret : ∀ (r : Int32) (S' : hS) (pc : Nat) (lv : List (Nat × Value)) (k n : Nat), k ≤ 0 → n ≤ 0 → (S' = S ∧ post r) → narrow .boolean (.int r) = .int r → decode cL_hasNone pc = .ok (.ireturn, 1) → gG p l e (rm_L_hasNone) s m args below meth c Q D A 6 k n (hC X S') pc lv [.int r])  : ∀ (nf : Nat) (x0 : Nat) (x1 : Int32) (x2 : Int32) (x3 : Int32) (x4 : Int32) (x5 : Int32), w_L_hasNone_18 u post   nf x0 x1 x2 x3 x4 x5 S → gG p l e (rm_L_hasNone) s m args below meth c Q D A 6 0 0 (hC X S) 18 [(0, .ref x0), (1, .int x1), (2, .int x2), (3, .int x3), (4, .int x4), (5, .int x5)] [] := by
  obtain ⟨⟨hx, hb, hml, ho, hts, hK, hA⟩, hR⟩ := id C0
  intro nf
  induction nf with
  | zero => intro x0 x1 x2 x3 x4 x5 hw; exact hw.elim
  | succ nf ih =>
    intro x0 x1 x2 x3 x4 x5 hw H locs ls hW hl
    rw [w_L_hasNone_18] at hw
    refine lv_iload hx hb dL_hasNone_18 (lv_at hl 5 rfl) ?_
    refine lv_aload_n hx hb dL_hasNone_20 rfl (lv_at hl 0 rfl) ?_
    refine lv_iload_n hx hb dL_hasNone_21 rfl (lv_at hl 1 rfl) ?_
    obtain ⟨h11, hw⟩ := hw
    refine h_goi C0 hW (va_runV (As := [.int x1]) (rest := [.int x5]) ⟨hx, hb, hml, ho, hts⟩ (k_X9_length (l := l) (u := u) (X := X) (sz := H.size) _ x0 x1 S  hw) (cwV 1 hts gL_hasNone_X9_length rfl rfl rfl (by decide +kernel) ⟨Nat.le_of_ble_eq_true rfl, Nat.le_of_ble_eq_true rfl⟩) ⟨h_blind, (h_recv C0 hW (ci := 10) rfl h11), (h_pre C0 hW [.ref x0, .int x1])⟩ rfl rfl hl.1 rfl (lv_room (Nat.le_of_ble_eq_true rfl)) dL_hasNone_22 ⟨Nat.le_refl _, Nat.le_refl _⟩) (fun r10 S12 H locs h13 hW => ?_)
    obtain ⟨h14, hp⟩ := h13
    rw [h14] at hW
    replace hw := hp
    refine lv_icmp_ge (tgt := 68) hx hb dL_hasNone_25 (by decide) (fun c15 => ?_) (fun c15 => ?_)
    · replace hw := hw.1 c15
      refine lv_iload hx hb dL_hasNone_68 (lv_at hl 4 rfl) ?_
      exact hret x4 S _ _ 0 0 (Nat.le_refl _) (Nat.le_refl _) ⟨rfl, hw.2⟩ hw.1 dL_hasNone_70 _ _ _ hW hl
    · replace hw := hw.2 c15
      refine lv_iload hx hb dL_hasNone_28 (lv_at hl 4 rfl) ?_
      refine lv_if_eq (tgt := 59) hx hb dL_hasNone_30 (by decide) (fun c16 => ?_) (fun c16 => ?_)
      · replace hw := hw.1 c16
        refine lv_iconst (v := 0) hx hb dL_hasNone_59 (by decide) ?_
        refine lv_istore (lv' := [(4, .int 0), (0, .ref x0), (1, .int x1), (2, .int x2), (3, .int x3), (5, .int x5)]) hx hb dL_hasNone_60 hl (by decide) rfl (fun ls hl9 => ?_)
        replace hl := hl9
        obtain ⟨v17, ev17⟩ : ∃ y : Int32, y = x5 + 1 := ⟨_, rfl⟩
        replace hw := hw v17 ev17
        refine lv_iinc (v := v17) (lv' := [(5, .int v17), (4, .int 0), (0, .ref x0), (1, .int x1), (2, .int x2), (3, .int x3)]) hx hb dL_hasNone_62 hl (k := 5) rfl (by rw [ev17]; rfl) (by decide) rfl (fun ls hl9 => ?_)
        replace hl := hl9
        refine lv_goto (tgt := 18) hx hb dL_hasNone_65 (by decide) ?_
        exact ih x0 x1 x2 x3 0 v17   hw _ _ _ hW (lv_sub hl [2, 3, 4, 5, 1, 0] rfl)
      · replace hw := hw.2 c16
        refine lv_aload_n hx hb dL_hasNone_33 rfl (lv_at hl 0 rfl) ?_
        refine lv_iload_n hx hb dL_hasNone_34 rfl (lv_at hl 1 rfl) ?_
        refine lv_iload hx hb dL_hasNone_35 (lv_at hl 5 rfl) ?_
        obtain ⟨h19, hw⟩ := hw
        refine h_goi C0 hW (va_runV (As := [.int x1, .int x5]) (rest := []) ⟨hx, hb, hml, ho, hts⟩ (k_X9_characterAt (l := l) (u := u) (X := X) (sz := H.size) _ x0 x1 x5 S  hw) (cwV 2 hts gL_hasNone_X9_characterAt rfl rfl rfl (by decide +kernel) ⟨Nat.le_of_ble_eq_true rfl, Nat.le_of_ble_eq_true rfl⟩) ⟨h_blind, (h_recv C0 hW (ci := 10) rfl h19), (h_pre C0 hW [.ref x0, .int x1, .int x5])⟩ rfl rfl hl.1 rfl (lv_room (Nat.le_of_ble_eq_true rfl)) dL_hasNone_37 ⟨Nat.le_refl _, Nat.le_refl _⟩) (fun r18 S20 H locs h21 hW => ?_)
        obtain ⟨h22, hp⟩ := h21
        rw [h22] at hW
        replace hw := hp
        refine lv_iload_n hx hb dL_hasNone_40 rfl (lv_at hl 2 rfl) ?_
        refine lv_icmp_eq (tgt := 59) hx hb dL_hasNone_41 (by decide) (fun c23 => ?_) (fun c23 => ?_)
        · replace hw := hw.1 c23
          refine lv_iconst (v := 0) hx hb dL_hasNone_59 (by decide) ?_
          refine lv_istore (lv' := [(4, .int 0), (0, .ref x0), (1, .int x1), (2, .int x2), (3, .int x3), (5, .int x5)]) hx hb dL_hasNone_60 hl (by decide) rfl (fun ls hl9 => ?_)
          replace hl := hl9
          obtain ⟨v24, ev24⟩ : ∃ y : Int32, y = x5 + 1 := ⟨_, rfl⟩
          replace hw := hw v24 ev24
          refine lv_iinc (v := v24) (lv' := [(5, .int v24), (4, .int 0), (0, .ref x0), (1, .int x1), (2, .int x2), (3, .int x3)]) hx hb dL_hasNone_62 hl (k := 5) rfl (by rw [ev24]; rfl) (by decide) rfl (fun ls hl9 => ?_)
          replace hl := hl9
          refine lv_goto (tgt := 18) hx hb dL_hasNone_65 (by decide) ?_
          exact ih x0 x1 x2 x3 0 v24   hw _ _ _ hW (lv_sub hl [2, 3, 4, 5, 1, 0] rfl)
        · replace hw := hw.2 c23
          refine lv_aload_n hx hb dL_hasNone_44 rfl (lv_at hl 0 rfl) ?_
          refine lv_iload_n hx hb dL_hasNone_45 rfl (lv_at hl 1 rfl) ?_
          refine lv_iload hx hb dL_hasNone_46 (lv_at hl 5 rfl) ?_
          obtain ⟨h26, hw⟩ := hw
          refine h_goi C0 hW (va_runV (As := [.int x1, .int x5]) (rest := []) ⟨hx, hb, hml, ho, hts⟩ (k_X9_characterAt (l := l) (u := u) (X := X) (sz := H.size) _ x0 x1 x5 S  hw) (cwV 2 hts gL_hasNone_X9_characterAt rfl rfl rfl (by decide +kernel) ⟨Nat.le_of_ble_eq_true rfl, Nat.le_of_ble_eq_true rfl⟩) ⟨h_blind, (h_recv C0 hW (ci := 10) rfl h26), (h_pre C0 hW [.ref x0, .int x1, .int x5])⟩ rfl rfl hl.1 rfl (lv_room (Nat.le_of_ble_eq_true rfl)) dL_hasNone_48 ⟨Nat.le_refl _, Nat.le_refl _⟩) (fun r25 S27 H locs h28 hW => ?_)
          obtain ⟨h29, hp⟩ := h28
          rw [h29] at hW
          replace hw := hp
          refine lv_iload_n hx hb dL_hasNone_51 rfl (lv_at hl 3 rfl) ?_
          refine lv_icmp_eq (tgt := 59) hx hb dL_hasNone_52 (by decide) (fun c30 => ?_) (fun c30 => ?_)
          · replace hw := hw.1 c30
            refine lv_iconst (v := 0) hx hb dL_hasNone_59 (by decide) ?_
            refine lv_istore (lv' := [(4, .int 0), (0, .ref x0), (1, .int x1), (2, .int x2), (3, .int x3), (5, .int x5)]) hx hb dL_hasNone_60 hl (by decide) rfl (fun ls hl9 => ?_)
            replace hl := hl9
            obtain ⟨v31, ev31⟩ : ∃ y : Int32, y = x5 + 1 := ⟨_, rfl⟩
            replace hw := hw v31 ev31
            refine lv_iinc (v := v31) (lv' := [(5, .int v31), (4, .int 0), (0, .ref x0), (1, .int x1), (2, .int x2), (3, .int x3)]) hx hb dL_hasNone_62 hl (k := 5) rfl (by rw [ev31]; rfl) (by decide) rfl (fun ls hl9 => ?_)
            replace hl := hl9
            refine lv_goto (tgt := 18) hx hb dL_hasNone_65 (by decide) ?_
            exact ih x0 x1 x2 x3 0 v31   hw _ _ _ hW (lv_sub hl [2, 3, 4, 5, 1, 0] rfl)
          · replace hw := hw.2 c30
            refine lv_iconst (v := 1) hx hb dL_hasNone_55 (by decide) ?_
            refine lv_goto (tgt := 60) hx hb dL_hasNone_56 (by decide) ?_
            refine lv_istore (lv' := [(4, .int 1), (0, .ref x0), (1, .int x1), (2, .int x2), (3, .int x3), (5, .int x5)]) hx hb dL_hasNone_60 hl (by decide) rfl (fun ls hl9 => ?_)
            replace hl := hl9
            obtain ⟨v32, ev32⟩ : ∃ y : Int32, y = x5 + 1 := ⟨_, rfl⟩
            replace hw := hw v32 ev32
            refine lv_iinc (v := v32) (lv' := [(5, .int v32), (4, .int 1), (0, .ref x0), (1, .int x1), (2, .int x2), (3, .int x3)]) hx hb dL_hasNone_62 hl (k := 5) rfl (by rw [ev32]; rfl) (by decide) rfl (fun ls hl9 => ?_)
            replace hl := hl9
            refine lv_goto (tgt := 18) hx hb dL_hasNone_65 (by decide) ?_
            exact ih x0 x1 x2 x3 1 v32   hw _ _ _ hW (lv_sub hl [2, 3, 4, 5, 1, 0] rfl)
set_option maxHeartbeats 4000000 in
set_option maxRecDepth 100000 in
theorem t_L_hasNone_0 (C0 : hX p s m args c cL_hasNone 6 RL wsL_hasNone D (gt u.2.1) A u.1 u.2.2) {S : hS}  (post : Int32 → Prop) (hret : ∀ (r : Int32) (S' : hS) (pc : Nat) (lv : List (Nat × Value)) (k n : Nat), k ≤ 0 → n ≤ 0 → (S' = S ∧ post r) → narrow .boolean (.int r) = .int r → decode cL_hasNone pc = .ok (.ireturn, 1) → gG p l e (rm_L_hasNone) s m args below meth c Q D A 6 k n (hC X S') pc lv [.int r])  : ∀ (p1 : Option Nat) (z2 : Int32) (z3 : Int32) (z4 : Int32), w_L_hasNone u post   p1 z2 z3 z4 S → gG p l e (rm_L_hasNone) s m args below meth c Q D A 6 0 0 (hC X S) 0 [(0, va_rf p1), (1, .int z2), (2, .int z3), (3, .int z4)] [] := by
  obtain ⟨⟨hx, hb, hml, ho, hts, hK, hA⟩, hR⟩ := id C0
  intro p1 z2 z3 z4 hw H locs ls hW hl
  rw [w_L_hasNone] at hw
  refine lv_aloadV_n hx hb dL_hasNone_0 rfl (lv_at hl 0 rfl) ?_
  refine lv_iload_n hx hb dL_hasNone_1 rfl (lv_at hl 1 rfl) ?_
  obtain ⟨a1, rfl, hw⟩ := hw
  obtain ⟨h3, hw⟩ := hw
  refine h_goi C0 hW (va_runV (As := [.int z2]) (rest := []) ⟨hx, hb, hml, ho, hts⟩ (k_X9_length (l := l) (u := u) (X := X) (sz := H.size) _ a1 z2 S  hw) (cwV 1 hts gL_hasNone_X9_length rfl rfl rfl (by decide +kernel) ⟨Nat.le_of_ble_eq_true rfl, Nat.le_of_ble_eq_true rfl⟩) ⟨h_blind, (h_recv C0 hW (ci := 10) rfl h3), (h_pre C0 hW [.ref a1, .int z2])⟩ rfl rfl hl.1 rfl (lv_room (Nat.le_of_ble_eq_true rfl)) dL_hasNone_2 ⟨Nat.le_refl _, Nat.le_refl _⟩) (fun r2 S4 H locs h5 hW => ?_)
  obtain ⟨h6, hp⟩ := h5
  rw [h6] at hW
  replace hw := hp
  refine lv_if_le (tgt := 12) hx hb dL_hasNone_5 (by decide) (fun c7 => ?_) (fun c7 => ?_)
  · replace hw := hw.1 c7
    refine lv_iconst (v := 0) hx hb dL_hasNone_12 (by decide) ?_
    refine lv_istore (lv' := [(4, .int 0), (0, .ref a1), (1, .int z2), (2, .int z3), (3, .int z4)]) hx hb dL_hasNone_13 hl (by decide) rfl (fun ls hl9 => ?_)
    replace hl := hl9
    refine lv_iconst (v := 0) hx hb dL_hasNone_15 (by decide) ?_
    refine lv_istore (lv' := [(5, .int 0), (4, .int 0), (0, .ref a1), (1, .int z2), (2, .int z3), (3, .int z4)]) hx hb dL_hasNone_16 hl (by decide) rfl (fun ls hl9 => ?_)
    replace hl := hl9
    obtain ⟨n8, hw⟩ := hw
    exact t_L_hasNone_18 C0  post hret  n8 a1 z2 z3 z4 0 0   hw _ _ _ hW (lv_sub hl [2, 3, 4, 5, 1, 0] rfl)
  · replace hw := hw.2 c7
    refine lv_iconst (v := 1) hx hb dL_hasNone_8 (by decide) ?_
    refine lv_goto (tgt := 13) hx hb dL_hasNone_9 (by decide) ?_
    refine lv_istore (lv' := [(4, .int 1), (0, .ref a1), (1, .int z2), (2, .int z3), (3, .int z4)]) hx hb dL_hasNone_13 hl (by decide) rfl (fun ls hl9 => ?_)
    replace hl := hl9
    refine lv_iconst (v := 0) hx hb dL_hasNone_15 (by decide) ?_
    refine lv_istore (lv' := [(5, .int 0), (4, .int 1), (0, .ref a1), (1, .int z2), (2, .int z3), (3, .int z4)]) hx hb dL_hasNone_16 hl (by decide) rfl (fun ls hl9 => ?_)
    replace hl := hl9
    obtain ⟨n9, hw⟩ := hw
    exact t_L_hasNone_18 C0  post hret  n9 a1 z2 z3 z4 1 0   hw _ _ _ hW (lv_sub hl [2, 3, 4, 5, 1, 0] rfl)
set_option maxHeartbeats 4000000 in
set_option maxRecDepth 100000 in
theorem k_L_hasNone {l : Launch} {D : va_G} {u : hU} {X : va_W} {sz : Nat} (post : Int32 → Prop) (p1 : Option Nat) (z2 : Int32) (z3 : Int32) (z4 : Int32) (S : hS) (hw : w_L_hasNone u post  p1 z2 z3 z4 S) : hMi l yL_hasNone wsL_hasNone rm_L_hasNone D (gt u.2.1) u.1 u.2.2 sz X S [va_rf p1, .int z2, .int z3, .int z4] (fun r S' => S' = S ∧ post r) 0 0 := by
  refine hMi_of (cc := cL_hasNone) (nL := 6) (ty := .boolean) (own := RL) (by decide) rfl rfl (by cases p1 <;> exact Nat.le_of_ble_eq_true rfl) ?_
  intro p e s m args below meth c A Q C0 hin hret
  have hfin := t_L_hasNone_0 C0  post hret p1 z2 z3 z4 hw
  intro H locs ls hW hl
  refine hfin H locs ls hW ?_
  cases p1 <;> exact hl
abbrev rm_L_cut (MC MS : Nat) : Room := { frames := 10, cells := MC, slots := MS, locals := 230 }
set_option maxHeartbeats 4000000 in
set_option maxRecDepth 100000 in
theorem t_L_cut_319 (C0 : hX p s m args c cL_cut 9 RL wsL_cut D (gt u.2.1) A u.1 u.2.2)  (post : Int32 → hS → Prop) (hret : ∀ (r : Int32) (S' : hS) (pc : Nat) (lv : List (Nat × Value)) (k n : Nat), k ≤ MC → n ≤ MS → post r S' → narrow .boolean (.int r) = .int r → decode cL_cut pc = .ok (.ireturn, 1) → gG p l e (rm_L_cut MC MS) s m args below meth c Q D A 9 k n (hC X S') pc lv [.int r])  : ∀ (x0 : Nat) (x5 : Int32) (x6 : Int32) (x7 : Int32) (S : hS) (mc ms k n : Nat), k + mc ≤ MC ∧ n + ms ≤ MS → w_L_cut_319 u post   x0 x5 x6 x7 S mc ms → gG p l e (rm_L_cut MC MS) s m args below meth c Q D A 9 k n (hC X S) 319 [(0, .ref x0), (5, .int x5), (6, .int x6), (7, .int x7)] [] := by
  obtain ⟨⟨hx, hb, hml, ho, hts, hK, hA⟩, hR⟩ := id C0
  intro x0 x5 x6 x7 S mc ms k n hkn hw H locs ls hW hl
  rw [w_L_cut_319] at hw
  refine lv_iload hx hb dL_cut_319 (lv_at hl 1 rfl) ?_
  refine lv_if_eq (tgt := 348) hx hb dL_cut_321 (by decide) (fun c184 => ?_) (fun c184 => ?_)
  · replace hw := hw.1 c184
    refine lv_iconst (v := 0) hx hb dL_cut_348 (by decide) ?_
    exact hret 0 S _ _ _ _ (by omega) (by omega) hw (by decide) dL_cut_349 _ _ _ hW hl
  · replace hw := hw.2 c184
    refine lv_iload hx hb dL_cut_324 (lv_at hl 3 rfl) ?_
    refine lv_if_lt (tgt := 348) hx hb dL_cut_326 (by decide) (fun c185 => ?_) (fun c185 => ?_)
    · replace hw := hw.1 c185
      refine lv_iconst (v := 0) hx hb dL_cut_348 (by decide) ?_
      exact hret 0 S _ _ _ _ (by omega) (by omega) hw (by decide) dL_cut_349 _ _ _ hW hl
    · replace hw := hw.2 c185
      refine lv_iload hx hb dL_cut_329 (lv_at hl 3 rfl) ?_
      refine lv_iload hx hb dL_cut_331 (lv_at hl 2 rfl) ?_
      refine lv_icmp_gt (tgt := 348) hx hb dL_cut_333 (by decide) (fun c186 => ?_) (fun c186 => ?_)
      · replace hw := hw.1 c186
        refine lv_iconst (v := 0) hx hb dL_cut_348 (by decide) ?_
        exact hret 0 S _ _ _ _ (by omega) (by omega) hw (by decide) dL_cut_349 _ _ _ hW hl
      · replace hw := hw.2 c186
        refine lv_aload_n hx hb dL_cut_336 rfl (lv_at hl 0 rfl) ?_
        refine lv_iconst (v := 1) hx hb dL_cut_337 (by decide) ?_
        obtain ⟨h188, hw⟩ := hw
        refine h_goi C0 hW (va_runV (As := [.int 1]) (rest := []) ⟨hx, hb, hml, ho, hts⟩ (k_X9_more (l := l) (u := u) (X := X) (sz := H.size) _ x0 1 S  hw) (cwV 1 hts gL_cut_X9_more rfl rfl rfl (by decide +kernel) ⟨Nat.le_of_ble_eq_true rfl, Nat.le_of_ble_eq_true rfl⟩) ⟨h_blind, (h_recv C0 hW (ci := 10) rfl h188), (h_pre C0 hW [.ref x0, .int 1])⟩ rfl rfl hl.1 rfl (lv_room (Nat.le_of_ble_eq_true rfl)) dL_cut_338 ⟨by show _ ≤ MC; omega, by show _ ≤ MS; omega⟩) (fun r187 S189 H locs h190 hW => ?_)
        obtain ⟨h191, hp⟩ := h190
        rw [h191] at hW
        replace hw := hp
        refine lv_if_ne (tgt := 348) hx hb dL_cut_341 (by decide) (fun c192 => ?_) (fun c192 => ?_)
        · replace hw := hw.1 c192
          refine lv_iconst (v := 0) hx hb dL_cut_348 (by decide) ?_
          exact hret 0 S _ _ _ _ (by omega) (by omega) hw (by decide) dL_cut_349 _ _ _ hW hl
        · replace hw := hw.2 c192
          refine lv_iconst (v := 1) hx hb dL_cut_344 (by decide) ?_
          refine lv_goto (tgt := 349) hx hb dL_cut_345 (by decide) ?_
          exact hret 1 S _ _ _ _ (by omega) (by omega) hw (by decide) dL_cut_349 _ _ _ hW hl
set_option maxHeartbeats 4000000 in
set_option maxRecDepth 100000 in
theorem t_L_cut_261 (C0 : hX p s m args c cL_cut 9 RL wsL_cut D (gt u.2.1) A u.1 u.2.2)  (post : Int32 → hS → Prop) (hret : ∀ (r : Int32) (S' : hS) (pc : Nat) (lv : List (Nat × Value)) (k n : Nat), k ≤ MC → n ≤ MS → post r S' → narrow .boolean (.int r) = .int r → decode cL_cut pc = .ok (.ireturn, 1) → gG p l e (rm_L_cut MC MS) s m args below meth c Q D A 9 k n (hC X S') pc lv [.int r])  : ∀ (nf : Nat) (x0 : Nat) (x3 : Int32) (x4 : Int32) (x5 : Int32) (x6 : Int32) (x7 : Int32) (x8 : Int32) (S : hS) (mc ms k n : Nat), k + mc ≤ MC ∧ n + ms ≤ MS → w_L_cut_261 u post   nf x0 x3 x4 x5 x6 x7 x8 S mc ms → gG p l e (rm_L_cut MC MS) s m args below meth c Q D A 9 k n (hC X S) 261 [(0, .ref x0), (3, .int x3), (4, .int x4), (5, .int x5), (6, .int x6), (7, .int x7), (8, .int x8)] [] := by
  obtain ⟨⟨hx, hb, hml, ho, hts, hK, hA⟩, hR⟩ := id C0
  intro nf
  induction nf with
  | zero => intro x0 x3 x4 x5 x6 x7 x8 S mc ms k n hkn hw; exact hw.elim
  | succ nf ih =>
    intro x0 x3 x4 x5 x6 x7 x8 S mc ms k n hkn hw H locs ls hW hl
    rw [w_L_cut_261] at hw
    refine lv_iload hx hb dL_cut_261 (lv_at hl 6 rfl) ?_
    refine lv_iload hx hb dL_cut_263 (lv_at hl 5 rfl) ?_
    refine lv_icmp_ge (tgt := 319) hx hb dL_cut_265 (by decide) (fun c158 => ?_) (fun c158 => ?_)
    · replace hw := hw.1 c158
      exact t_L_cut_319 C0  post hret  x0 x5 x6 x7 S mc ms _ _ hkn hw _ _ _ hW (lv_sub hl [0, 3, 4, 5] rfl)
    · replace hw := hw.2 c158
      refine lv_iload hx hb dL_cut_268 (lv_at hl 3 rfl) ?_
      refine lv_if_eq (tgt := 319) hx hb dL_cut_270 (by decide) (fun c159 => ?_) (fun c159 => ?_)
      · replace hw := hw.1 c159
        exact t_L_cut_319 C0  post hret  x0 x5 x6 x7 S mc ms _ _ hkn hw _ _ _ hW (lv_sub hl [0, 3, 4, 5] rfl)
      · replace hw := hw.2 c159
        refine lv_aload_n hx hb dL_cut_273 rfl (lv_at hl 0 rfl) ?_
        refine lv_iconst (v := 1) hx hb dL_cut_274 (by decide) ?_
        obtain ⟨h161, hw⟩ := hw
        refine h_goi C0 hW (va_runV (As := [.int 1]) (rest := []) ⟨hx, hb, hml, ho, hts⟩ (k_X9_count (l := l) (u := u) (X := X) (sz := H.size) _ x0 1 S  hw) (cwV 1 hts gL_cut_X9_count rfl rfl rfl (by decide +kernel) ⟨Nat.le_of_ble_eq_true rfl, Nat.le_of_ble_eq_true rfl⟩) ⟨h_blind, (h_recv C0 hW (ci := 10) rfl h161), (h_pre C0 hW [.ref x0, .int 1])⟩ rfl rfl hl.1 rfl (lv_room (Nat.le_of_ble_eq_true rfl)) dL_cut_275 ⟨by show _ ≤ MC; omega, by show _ ≤ MS; omega⟩) (fun r160 S162 H locs h163 hW => ?_)
        obtain ⟨h164, hp⟩ := h163
        rw [h164] at hW
        replace hw := hp
        refine lv_iload hx hb dL_cut_278 (lv_at hl 5 rfl) ?_
        refine lv_iload hx hb dL_cut_280 (lv_at hl 6 rfl) ?_
        refine lv_isub hx hb dL_cut_282 ?_
        refine lv_icmp_ne (tgt := 310) hx hb dL_cut_283 (by decide) (fun c165 => ?_) (fun c165 => ?_)
        · replace hw := hw.1 c165
          refine lv_iconst (v := 0) hx hb dL_cut_310 (by decide) ?_
          refine lv_istore (lv' := [(5, .int 0), (0, .ref x0), (3, .int x3), (4, .int x4), (6, .int x6), (7, .int x7), (8, .int x8)]) hx hb dL_cut_311 hl (by decide) rfl (fun ls hl9 => ?_)
          replace hl := hl9
          obtain ⟨v166, ev166⟩ : ∃ y : Int32, y = x8 + 1 := ⟨_, rfl⟩
          replace hw := hw v166 ev166
          refine lv_iinc (v := v166) (lv' := [(8, .int v166), (5, .int 0), (0, .ref x0), (3, .int x3), (4, .int x4), (6, .int x6), (7, .int x7)]) hx hb dL_cut_313 hl (k := 6) rfl (by rw [ev166]; rfl) (by decide) rfl (fun ls hl9 => ?_)
          replace hl := hl9
          refine lv_goto (tgt := 261) hx hb dL_cut_316 (by decide) ?_
          exact ih x0 x3 x4 0 x6 x7 v166 S mc ms _ _ hkn hw _ _ _ hW (lv_sub hl [2, 3, 4, 1, 5, 6, 0] rfl)
        · replace hw := hw.2 c165
          refine lv_aload_n hx hb dL_cut_286 rfl (lv_at hl 0 rfl) ?_
          refine lv_iconst (v := 1) hx hb dL_cut_287 (by decide) ?_
          refine lv_iconst (v := 3) hx hb dL_cut_288 (by decide) ?_
          obtain ⟨h172, k168, n169, h170, h171, hw⟩ := hw
          refine h_goi C0 hW (va_runV (As := [.int 1, .int 3]) (rest := []) ⟨hx, hb, hml, ho, hts⟩ (k_X9_next (l := l) (u := u) (X := X) (sz := H.size) _ x0 1 3 S k168 n169 hw) (cwV 2 hts gL_cut_X9_next rfl rfl rfl (by decide +kernel) ⟨Nat.le_of_ble_eq_true rfl, Nat.le_of_ble_eq_true rfl⟩) ⟨h_blind, (h_recv C0 hW (ci := 10) rfl h172), (h_pre C0 hW [.ref x0, .int 1, .int 3])⟩ rfl rfl hl.1 rfl (lv_room (Nat.le_of_ble_eq_true rfl)) dL_cut_289 ⟨by show _ ≤ MC; omega, by show _ ≤ MS; omega⟩) (fun r167 S173 H locs h174 hW => ?_)
          replace hw := h174
          have hkn : (k + k168) + (mc - k168) ≤ MC ∧ (n + n169) + (ms - n169) ≤ MS := by omega
          refine lv_if_le (tgt := 310) hx hb dL_cut_292 (by decide) (fun c175 => ?_) (fun c175 => ?_)
          · replace hw := hw.1 c175
            refine lv_iconst (v := 0) hx hb dL_cut_310 (by decide) ?_
            refine lv_istore (lv' := [(5, .int 0), (0, .ref x0), (3, .int x3), (4, .int x4), (6, .int x6), (7, .int x7), (8, .int x8)]) hx hb dL_cut_311 hl (by decide) rfl (fun ls hl9 => ?_)
            replace hl := hl9
            obtain ⟨v176, ev176⟩ : ∃ y : Int32, y = x8 + 1 := ⟨_, rfl⟩
            replace hw := hw v176 ev176
            refine lv_iinc (v := v176) (lv' := [(8, .int v176), (5, .int 0), (0, .ref x0), (3, .int x3), (4, .int x4), (6, .int x6), (7, .int x7)]) hx hb dL_cut_313 hl (k := 6) rfl (by rw [ev176]; rfl) (by decide) rfl (fun ls hl9 => ?_)
            replace hl := hl9
            refine lv_goto (tgt := 261) hx hb dL_cut_316 (by decide) ?_
            exact ih x0 x3 x4 0 x6 x7 v176 S173 (mc - k168) (ms - n169) _ _ hkn hw _ _ _ hW (lv_sub hl [2, 3, 4, 1, 5, 6, 0] rfl)
          · replace hw := hw.2 c175
            refine lv_aload_n hx hb dL_cut_295 rfl (lv_at hl 0 rfl) ?_
            refine lv_iconst (v := 3) hx hb dL_cut_296 (by decide) ?_
            refine lv_iload_n hx hb dL_cut_297 rfl (lv_at hl 1 rfl) ?_
            refine lv_iload hx hb dL_cut_298 (lv_at hl 2 rfl) ?_
            refine h_goi C0 hW (va_runS (As := [.ref x0, .int 3, .int x3, .int x4]) (rest := []) ⟨hx, hb, hml, ho, hts⟩ (k_L_hasNone (l := l) (u := u) (X := X) (sz := H.size) _ (some x0) 3 x3 x4 S173  hw) (va_cwS 4 hts gL_cut_L_hasNone rfl rfl rfl (by decide +kernel) ⟨Nat.le_of_ble_eq_true rfl, Nat.le_of_ble_eq_true rfl⟩) ⟨h_blind, (h_pre C0 hW [.ref x0, .int 3, .int x3, .int x4])⟩ rfl rfl hl.1 rfl (lv_room (Nat.le_of_ble_eq_true rfl)) dL_cut_300 ⟨by show _ ≤ MC; omega, by show _ ≤ MS; omega⟩) (fun r177 S178 H locs h179 hW => ?_)
            obtain ⟨h180, hp⟩ := h179
            rw [h180] at hW
            replace hw := hp
            refine lv_if_eq (tgt := 310) hx hb dL_cut_303 (by decide) (fun c181 => ?_) (fun c181 => ?_)
            · replace hw := hw.1 c181
              refine lv_iconst (v := 0) hx hb dL_cut_310 (by decide) ?_
              refine lv_istore (lv' := [(5, .int 0), (0, .ref x0), (3, .int x3), (4, .int x4), (6, .int x6), (7, .int x7), (8, .int x8)]) hx hb dL_cut_311 hl (by decide) rfl (fun ls hl9 => ?_)
              replace hl := hl9
              obtain ⟨v182, ev182⟩ : ∃ y : Int32, y = x8 + 1 := ⟨_, rfl⟩
              replace hw := hw v182 ev182
              refine lv_iinc (v := v182) (lv' := [(8, .int v182), (5, .int 0), (0, .ref x0), (3, .int x3), (4, .int x4), (6, .int x6), (7, .int x7)]) hx hb dL_cut_313 hl (k := 6) rfl (by rw [ev182]; rfl) (by decide) rfl (fun ls hl9 => ?_)
              replace hl := hl9
              refine lv_goto (tgt := 261) hx hb dL_cut_316 (by decide) ?_
              exact ih x0 x3 x4 0 x6 x7 v182 S173 (mc - k168) (ms - n169) _ _ hkn hw _ _ _ hW (lv_sub hl [2, 3, 4, 1, 5, 6, 0] rfl)
            · replace hw := hw.2 c181
              refine lv_iconst (v := 1) hx hb dL_cut_306 (by decide) ?_
              refine lv_goto (tgt := 311) hx hb dL_cut_307 (by decide) ?_
              refine lv_istore (lv' := [(5, .int 1), (0, .ref x0), (3, .int x3), (4, .int x4), (6, .int x6), (7, .int x7), (8, .int x8)]) hx hb dL_cut_311 hl (by decide) rfl (fun ls hl9 => ?_)
              replace hl := hl9
              obtain ⟨v183, ev183⟩ : ∃ y : Int32, y = x8 + 1 := ⟨_, rfl⟩
              replace hw := hw v183 ev183
              refine lv_iinc (v := v183) (lv' := [(8, .int v183), (5, .int 1), (0, .ref x0), (3, .int x3), (4, .int x4), (6, .int x6), (7, .int x7)]) hx hb dL_cut_313 hl (k := 6) rfl (by rw [ev183]; rfl) (by decide) rfl (fun ls hl9 => ?_)
              replace hl := hl9
              refine lv_goto (tgt := 261) hx hb dL_cut_316 (by decide) ?_
              exact ih x0 x3 x4 1 x6 x7 v183 S173 (mc - k168) (ms - n169) _ _ hkn hw _ _ _ hW (lv_sub hl [2, 3, 4, 1, 5, 6, 0] rfl)
set_option maxHeartbeats 4000000 in
set_option maxRecDepth 100000 in
theorem t_L_cut_247 (C0 : hX p s m args c cL_cut 9 RL wsL_cut D (gt u.2.1) A u.1 u.2.2)  (post : Int32 → hS → Prop) (hret : ∀ (r : Int32) (S' : hS) (pc : Nat) (lv : List (Nat × Value)) (k n : Nat), k ≤ MC → n ≤ MS → post r S' → narrow .boolean (.int r) = .int r → decode cL_cut pc = .ok (.ireturn, 1) → gG p l e (rm_L_cut MC MS) s m args below meth c Q D A 9 k n (hC X S') pc lv [.int r])  : ∀ (x0 : Nat) (x3 : Int32) (x4 : Int32) (x6 : Int32) (s0 : Int32) (S : hS) (mc ms k n : Nat), k + mc ≤ MC ∧ n + ms ≤ MS → w_L_cut_247 u post   x0 x3 x4 x6 s0 S mc ms → gG p l e (rm_L_cut MC MS) s m args below meth c Q D A 9 k n (hC X S) 247 [(0, .ref x0), (3, .int x3), (4, .int x4), (6, .int x6)] [.int s0] := by
  obtain ⟨⟨hx, hb, hml, ho, hts, hK, hA⟩, hR⟩ := id C0
  intro x0 x3 x4 x6 s0 S mc ms k n hkn hw H locs ls hW hl
  rw [w_L_cut_247] at hw
  refine lv_istore (lv' := [(5, .int s0), (0, .ref x0), (3, .int x3), (4, .int x4), (6, .int x6)]) hx hb dL_cut_247 hl (by decide) rfl (fun ls hl9 => ?_)
  replace hl := hl9
  refine lv_aload_n hx hb dL_cut_249 rfl (lv_at hl 1 rfl) ?_
  refine lv_iconst (v := 1) hx hb dL_cut_250 (by decide) ?_
  refine lv_iconst (v := 0) hx hb dL_cut_251 (by decide) ?_
  refine lv_iconst (v := 1) hx hb dL_cut_252 (by decide) ?_
  obtain ⟨h154, k150, n151, h152, h153, hw⟩ := hw
  refine h_goi C0 hW (va_runV (As := [.int 1, .int 0, .int 1]) (rest := []) ⟨hx, hb, hml, ho, hts⟩ (k_X9_tokenizeBy (l := l) (u := u) (X := X) (sz := H.size) _ x0 1 0 1 S k150 n151 hw) (cwV 3 hts gL_cut_X9_tokenizeBy rfl rfl rfl (by decide +kernel) ⟨Nat.le_of_ble_eq_true rfl, Nat.le_of_ble_eq_true rfl⟩) ⟨h_blind, (h_recv C0 hW (ci := 10) rfl h154), (h_pre C0 hW [.ref x0, .int 1, .int 0, .int 1])⟩ rfl rfl hl.1 rfl (lv_room (Nat.le_of_ble_eq_true rfl)) dL_cut_253 ⟨by show _ ≤ MC; omega, by show _ ≤ MS; omega⟩) (fun r149 S155 H locs h156 hW => ?_)
  replace hw := h156
  have hkn : (k + k150) + (mc - k150) ≤ MC ∧ (n + n151) + (ms - n151) ≤ MS := by omega
  refine lv_istore (lv' := [(7, .int r149), (5, .int s0), (0, .ref x0), (3, .int x3), (4, .int x4), (6, .int x6)]) hx hb dL_cut_256 hl (by decide) rfl (fun ls hl9 => ?_)
  replace hl := hl9
  refine lv_iconst (v := 0) hx hb dL_cut_258 (by decide) ?_
  refine lv_istore (lv' := [(8, .int 0), (7, .int r149), (5, .int s0), (0, .ref x0), (3, .int x3), (4, .int x4), (6, .int x6)]) hx hb dL_cut_259 hl (by decide) rfl (fun ls hl9 => ?_)
  replace hl := hl9
  obtain ⟨n157, hw⟩ := hw
  exact t_L_cut_261 C0  post hret  n157 x0 x3 x4 s0 x6 r149 0 S155 (mc - k150) (ms - n151) _ _ hkn hw _ _ _ hW (lv_sub hl [3, 4, 5, 2, 6, 1, 0] rfl)
set_option maxHeartbeats 4000000 in
set_option maxRecDepth 100000 in
theorem t_L_cut_246 (C0 : hX p s m args c cL_cut 9 RL wsL_cut D (gt u.2.1) A u.1 u.2.2)  (post : Int32 → hS → Prop) (hret : ∀ (r : Int32) (S' : hS) (pc : Nat) (lv : List (Nat × Value)) (k n : Nat), k ≤ MC → n ≤ MS → post r S' → narrow .boolean (.int r) = .int r → decode cL_cut pc = .ok (.ireturn, 1) → gG p l e (rm_L_cut MC MS) s m args below meth c Q D A 9 k n (hC X S') pc lv [.int r])  : ∀ (x0 : Nat) (x3 : Int32) (x4 : Int32) (x6 : Int32) (S : hS) (mc ms k n : Nat), k + mc ≤ MC ∧ n + ms ≤ MS → w_L_cut_246 u post   x0 x3 x4 x6 S mc ms → gG p l e (rm_L_cut MC MS) s m args below meth c Q D A 9 k n (hC X S) 246 [(0, .ref x0), (3, .int x3), (4, .int x4), (6, .int x6)] [] := by
  obtain ⟨⟨hx, hb, hml, ho, hts, hK, hA⟩, hR⟩ := id C0
  intro x0 x3 x4 x6 S mc ms k n hkn hw H locs ls hW hl
  rw [w_L_cut_246] at hw
  refine lv_iconst (v := 0) hx hb dL_cut_246 (by decide) ?_
  exact t_L_cut_247 C0  post hret  x0 x3 x4 x6 0 S mc ms _ _ hkn hw _ _ _ hW (lv_sub hl [0, 1, 2, 3] rfl)
set_option maxHeartbeats 4000000 in
set_option maxRecDepth 100000 in
theorem t_L_cut_184 (C0 : hX p s m args c cL_cut 9 RL wsL_cut D (gt u.2.1) A u.1 u.2.2)  (post : Int32 → hS → Prop) (hret : ∀ (r : Int32) (S' : hS) (pc : Nat) (lv : List (Nat × Value)) (k n : Nat), k ≤ MC → n ≤ MS → post r S' → narrow .boolean (.int r) = .int r → decode cL_cut pc = .ok (.ireturn, 1) → gG p l e (rm_L_cut MC MS) s m args below meth c Q D A 9 k n (hC X S') pc lv [.int r])  : ∀ (x0 : Nat) (x3 : Int32) (x4 : Int32) (x5 : Int32) (x6 : Int32) (S : hS) (mc ms k n : Nat), k + mc ≤ MC ∧ n + ms ≤ MS → w_L_cut_184 u post   x0 x3 x4 x5 x6 S mc ms → gG p l e (rm_L_cut MC MS) s m args below meth c Q D A 9 k n (hC X S) 184 [(0, .ref x0), (3, .int x3), (4, .int x4), (5, .int x5), (6, .int x6)] [] := by
  obtain ⟨⟨hx, hb, hml, ho, hts, hK, hA⟩, hR⟩ := id C0
  intro x0 x3 x4 x5 x6 S mc ms k n hkn hw H locs ls hW hl
  rw [w_L_cut_184] at hw
  refine lv_iload hx hb dL_cut_184 (lv_at hl 3 rfl) ?_
  refine lv_if_eq (tgt := 246) hx hb dL_cut_186 (by decide) (fun c107 => ?_) (fun c107 => ?_)
  · replace hw := hw.1 c107
    exact t_L_cut_246 C0  post hret  x0 x3 x4 x6 S mc ms _ _ hkn hw _ _ _ hW (lv_sub hl [0, 1, 2, 4] rfl)
  · replace hw := hw.2 c107
    refine lv_aload_n hx hb dL_cut_189 rfl (lv_at hl 0 rfl) ?_
    refine lv_iconst (v := 0) hx hb dL_cut_190 (by decide) ?_
    obtain ⟨h109, hw⟩ := hw
    refine h_goi C0 hW (va_runV (As := [.int 0]) (rest := []) ⟨hx, hb, hml, ho, hts⟩ (k_X9_more (l := l) (u := u) (X := X) (sz := H.size) _ x0 0 S  hw) (cwV 1 hts gL_cut_X9_more rfl rfl rfl (by decide +kernel) ⟨Nat.le_of_ble_eq_true rfl, Nat.le_of_ble_eq_true rfl⟩) ⟨h_blind, (h_recv C0 hW (ci := 10) rfl h109), (h_pre C0 hW [.ref x0, .int 0])⟩ rfl rfl hl.1 rfl (lv_room (Nat.le_of_ble_eq_true rfl)) dL_cut_191 ⟨by show _ ≤ MC; omega, by show _ ≤ MS; omega⟩) (fun r108 S110 H locs h111 hW => ?_)
    obtain ⟨h112, hp⟩ := h111
    rw [h112] at hW
    replace hw := hp
    refine lv_if_ne (tgt := 246) hx hb dL_cut_194 (by decide) (fun c113 => ?_) (fun c113 => ?_)
    · replace hw := hw.1 c113
      exact t_L_cut_246 C0  post hret  x0 x3 x4 x6 S mc ms _ _ hkn hw _ _ _ hW (lv_sub hl [0, 1, 2, 4] rfl)
    · replace hw := hw.2 c113
      refine lv_aload_n hx hb dL_cut_197 rfl (lv_at hl 0 rfl) ?_
      refine lv_iconst (v := 0) hx hb dL_cut_198 (by decide) ?_
      refine lv_iconst (v := 4) hx hb dL_cut_199 (by decide) ?_
      obtain ⟨h119, k115, n116, h117, h118, hw⟩ := hw
      refine h_goi C0 hW (va_runV (As := [.int 0, .int 4]) (rest := []) ⟨hx, hb, hml, ho, hts⟩ (k_X9_joined (l := l) (u := u) (X := X) (sz := H.size) _ x0 0 4 S k115 n116 hw) (cwV 2 hts gL_cut_X9_joined rfl rfl rfl (by decide +kernel) ⟨Nat.le_of_ble_eq_true rfl, Nat.le_of_ble_eq_true rfl⟩) ⟨h_blind, (h_recv C0 hW (ci := 10) rfl h119), (h_pre C0 hW [.ref x0, .int 0, .int 4])⟩ rfl rfl hl.1 rfl (lv_room (Nat.le_of_ble_eq_true rfl)) dL_cut_200 ⟨by show _ ≤ MC; omega, by show _ ≤ MS; omega⟩) (fun r114 S120 H locs h121 hW => ?_)
      replace hw := h121
      have hkn : (k + k115) + (mc - k115) ≤ MC ∧ (n + n116) + (ms - n116) ≤ MS := by omega
      refine lv_aload_n hx hb dL_cut_203 rfl (lv_at hl 0 rfl) ?_
      refine lv_iconst (v := 0) hx hb dL_cut_204 (by decide) ?_
      obtain ⟨h123, hw⟩ := hw
      refine h_goi C0 hW (va_runV (As := [.int 0]) (rest := [.int r114]) ⟨hx, hb, hml, ho, hts⟩ (k_X9_length (l := l) (u := u) (X := X) (sz := H.size) _ x0 0 S120  hw) (cwV 1 hts gL_cut_X9_length rfl rfl rfl (by decide +kernel) ⟨Nat.le_of_ble_eq_true rfl, Nat.le_of_ble_eq_true rfl⟩) ⟨h_blind, (h_recv C0 hW (ci := 10) rfl h123), (h_pre C0 hW [.ref x0, .int 0])⟩ rfl rfl hl.1 rfl (lv_room (Nat.le_of_ble_eq_true rfl)) dL_cut_205 ⟨by show _ ≤ MC; omega, by show _ ≤ MS; omega⟩) (fun r122 S124 H locs h125 hW => ?_)
      obtain ⟨h126, hp⟩ := h125
      rw [h126] at hW
      replace hw := hp
      refine lv_icmp_ne (tgt := 246) hx hb dL_cut_208 (by decide) (fun c127 => ?_) (fun c127 => ?_)
      · replace hw := hw.1 c127
        exact t_L_cut_246 C0  post hret  x0 x3 x4 x6 S120 (mc - k115) (ms - n116) _ _ hkn hw _ _ _ hW (lv_sub hl [0, 1, 2, 4] rfl)
      · replace hw := hw.2 c127
        refine lv_aload_n hx hb dL_cut_211 rfl (lv_at hl 0 rfl) ?_
        refine lv_iconst (v := 0) hx hb dL_cut_212 (by decide) ?_
        refine lv_iconst (v := 4) hx hb dL_cut_213 (by decide) ?_
        obtain ⟨h129, hw⟩ := hw
        refine h_goi C0 hW (va_runV (As := [.int 0, .int 4]) (rest := []) ⟨hx, hb, hml, ho, hts⟩ (k_X9_same (l := l) (u := u) (X := X) (sz := H.size) _ x0 0 4 S120  hw) (cwV 2 hts gL_cut_X9_same rfl rfl rfl (by decide +kernel) ⟨Nat.le_of_ble_eq_true rfl, Nat.le_of_ble_eq_true rfl⟩) ⟨h_blind, (h_recv C0 hW (ci := 10) rfl h129), (h_pre C0 hW [.ref x0, .int 0, .int 4])⟩ rfl rfl hl.1 rfl (lv_room (Nat.le_of_ble_eq_true rfl)) dL_cut_214 ⟨by show _ ≤ MC; omega, by show _ ≤ MS; omega⟩) (fun r128 S130 H locs h131 hW => ?_)
        obtain ⟨h132, hp⟩ := h131
        rw [h132] at hW
        replace hw := hp
        refine lv_iconst (v := 1) hx hb dL_cut_217 (by decide) ?_
        refine lv_icmp_ne (tgt := 246) hx hb dL_cut_218 (by decide) (fun c133 => ?_) (fun c133 => ?_)
        · replace hw := hw.1 c133
          exact t_L_cut_246 C0  post hret  x0 x3 x4 x6 S120 (mc - k115) (ms - n116) _ _ hkn hw _ _ _ hW (lv_sub hl [0, 1, 2, 4] rfl)
        · replace hw := hw.2 c133
          refine lv_aload_n hx hb dL_cut_221 rfl (lv_at hl 0 rfl) ?_
          refine lv_iconst (v := 0) hx hb dL_cut_222 (by decide) ?_
          refine lv_iconst (v := 3) hx hb dL_cut_223 (by decide) ?_
          obtain ⟨h139, k135, n136, h137, h138, hw⟩ := hw
          refine h_goi C0 hW (va_runV (As := [.int 0, .int 3]) (rest := []) ⟨hx, hb, hml, ho, hts⟩ (k_X9_next (l := l) (u := u) (X := X) (sz := H.size) _ x0 0 3 S120 k135 n136 hw) (cwV 2 hts gL_cut_X9_next rfl rfl rfl (by decide +kernel) ⟨Nat.le_of_ble_eq_true rfl, Nat.le_of_ble_eq_true rfl⟩) ⟨h_blind, (h_recv C0 hW (ci := 10) rfl h139), (h_pre C0 hW [.ref x0, .int 0, .int 3])⟩ rfl rfl hl.1 rfl (lv_room (Nat.le_of_ble_eq_true rfl)) dL_cut_224 ⟨by show _ ≤ MC; omega, by show _ ≤ MS; omega⟩) (fun r134 S140 H locs h141 hW => ?_)
          replace hw := h141
          have hkn : ((k + k115) + k135) + ((mc - k115) - k135) ≤ MC ∧ ((n + n116) + n136) + ((ms - n116) - n136) ≤ MS := by omega
          refine lv_bipush (v := (-8)) hx hb dL_cut_227 (by decide) ?_
          refine lv_icmp_ne (tgt := 246) hx hb dL_cut_229 (by decide) (fun c142 => ?_) (fun c142 => ?_)
          · replace hw := hw.1 c142
            exact t_L_cut_246 C0  post hret  x0 x3 x4 x6 S140 ((mc - k115) - k135) ((ms - n116) - n136) _ _ hkn hw _ _ _ hW (lv_sub hl [0, 1, 2, 4] rfl)
          · replace hw := hw.2 c142
            refine lv_aload_n hx hb dL_cut_232 rfl (lv_at hl 0 rfl) ?_
            refine lv_iconst (v := 0) hx hb dL_cut_233 (by decide) ?_
            obtain ⟨h144, hw⟩ := hw
            refine h_goi C0 hW (va_runV (As := [.int 0]) (rest := []) ⟨hx, hb, hml, ho, hts⟩ (k_X9_more (l := l) (u := u) (X := X) (sz := H.size) _ x0 0 S140  hw) (cwV 1 hts gL_cut_X9_more rfl rfl rfl (by decide +kernel) ⟨Nat.le_of_ble_eq_true rfl, Nat.le_of_ble_eq_true rfl⟩) ⟨h_blind, (h_recv C0 hW (ci := 10) rfl h144), (h_pre C0 hW [.ref x0, .int 0])⟩ rfl rfl hl.1 rfl (lv_room (Nat.le_of_ble_eq_true rfl)) dL_cut_234 ⟨by show _ ≤ MC; omega, by show _ ≤ MS; omega⟩) (fun r143 S145 H locs h146 hW => ?_)
            obtain ⟨h147, hp⟩ := h146
            rw [h147] at hW
            replace hw := hp
            refine lv_bipush (v := (-4)) hx hb dL_cut_237 (by decide) ?_
            refine lv_icmp_ne (tgt := 246) hx hb dL_cut_239 (by decide) (fun c148 => ?_) (fun c148 => ?_)
            · replace hw := hw.1 c148
              exact t_L_cut_246 C0  post hret  x0 x3 x4 x6 S140 ((mc - k115) - k135) ((ms - n116) - n136) _ _ hkn hw _ _ _ hW (lv_sub hl [0, 1, 2, 4] rfl)
            · replace hw := hw.2 c148
              refine lv_iconst (v := 1) hx hb dL_cut_242 (by decide) ?_
              refine lv_goto (tgt := 247) hx hb dL_cut_243 (by decide) ?_
              exact t_L_cut_247 C0  post hret  x0 x3 x4 x6 1 S140 ((mc - k115) - k135) ((ms - n116) - n136) _ _ hkn hw _ _ _ hW (lv_sub hl [0, 1, 2, 4] rfl)
set_option maxHeartbeats 4000000 in
set_option maxRecDepth 100000 in
theorem t_L_cut_119 (C0 : hX p s m args c cL_cut 9 RL wsL_cut D (gt u.2.1) A u.1 u.2.2)  (post : Int32 → hS → Prop) (hret : ∀ (r : Int32) (S' : hS) (pc : Nat) (lv : List (Nat × Value)) (k n : Nat), k ≤ MC → n ≤ MS → post r S' → narrow .boolean (.int r) = .int r → decode cL_cut pc = .ok (.ireturn, 1) → gG p l e (rm_L_cut MC MS) s m args below meth c Q D A 9 k n (hC X S') pc lv [.int r])  : ∀ (nf : Nat) (x0 : Nat) (x3 : Int32) (x4 : Int32) (x5 : Int32) (x6 : Int32) (x7 : Int32) (S : hS) (mc ms k n : Nat), k + mc ≤ MC ∧ n + ms ≤ MS → w_L_cut_119 u post   nf x0 x3 x4 x5 x6 x7 S mc ms → gG p l e (rm_L_cut MC MS) s m args below meth c Q D A 9 k n (hC X S) 119 [(0, .ref x0), (3, .int x3), (4, .int x4), (5, .int x5), (6, .int x6), (7, .int x7)] [] := by
  obtain ⟨⟨hx, hb, hml, ho, hts, hK, hA⟩, hR⟩ := id C0
  intro nf
  induction nf with
  | zero => intro x0 x3 x4 x5 x6 x7 S mc ms k n hkn hw; exact hw.elim
  | succ nf ih =>
    intro x0 x3 x4 x5 x6 x7 S mc ms k n hkn hw H locs ls hW hl
    rw [w_L_cut_119] at hw
    refine lv_iload hx hb dL_cut_119 (lv_at hl 5 rfl) ?_
    refine lv_iload hx hb dL_cut_121 (lv_at hl 4 rfl) ?_
    refine lv_icmp_ge (tgt := 184) hx hb dL_cut_123 (by decide) (fun c70 => ?_) (fun c70 => ?_)
    · replace hw := hw.1 c70
      exact t_L_cut_184 C0  post hret  x0 x3 x4 x5 x6 S mc ms _ _ hkn hw _ _ _ hW (lv_sub hl [0, 1, 2, 3, 4] rfl)
    · replace hw := hw.2 c70
      refine lv_iload hx hb dL_cut_126 (lv_at hl 3 rfl) ?_
      refine lv_if_eq (tgt := 184) hx hb dL_cut_128 (by decide) (fun c71 => ?_) (fun c71 => ?_)
      · replace hw := hw.1 c71
        exact t_L_cut_184 C0  post hret  x0 x3 x4 x5 x6 S mc ms _ _ hkn hw _ _ _ hW (lv_sub hl [0, 1, 2, 3, 4] rfl)
      · replace hw := hw.2 c71
        refine lv_aload_n hx hb dL_cut_131 rfl (lv_at hl 0 rfl) ?_
        refine lv_iconst (v := 0) hx hb dL_cut_132 (by decide) ?_
        obtain ⟨h73, hw⟩ := hw
        refine h_goi C0 hW (va_runV (As := [.int 0]) (rest := []) ⟨hx, hb, hml, ho, hts⟩ (k_X9_count (l := l) (u := u) (X := X) (sz := H.size) _ x0 0 S  hw) (cwV 1 hts gL_cut_X9_count rfl rfl rfl (by decide +kernel) ⟨Nat.le_of_ble_eq_true rfl, Nat.le_of_ble_eq_true rfl⟩) ⟨h_blind, (h_recv C0 hW (ci := 10) rfl h73), (h_pre C0 hW [.ref x0, .int 0])⟩ rfl rfl hl.1 rfl (lv_room (Nat.le_of_ble_eq_true rfl)) dL_cut_133 ⟨by show _ ≤ MC; omega, by show _ ≤ MS; omega⟩) (fun r72 S74 H locs h75 hW => ?_)
        obtain ⟨h76, hp⟩ := h75
        rw [h76] at hW
        replace hw := hp
        refine lv_iload hx hb dL_cut_136 (lv_at hl 4 rfl) ?_
        refine lv_iload hx hb dL_cut_138 (lv_at hl 5 rfl) ?_
        refine lv_isub hx hb dL_cut_140 ?_
        refine lv_icmp_ne (tgt := 175) hx hb dL_cut_141 (by decide) (fun c77 => ?_) (fun c77 => ?_)
        · replace hw := hw.1 c77
          refine lv_iconst (v := 0) hx hb dL_cut_175 (by decide) ?_
          refine lv_istore (lv' := [(5, .int 0), (0, .ref x0), (3, .int x3), (4, .int x4), (6, .int x6), (7, .int x7)]) hx hb dL_cut_176 hl (by decide) rfl (fun ls hl9 => ?_)
          replace hl := hl9
          obtain ⟨v78, ev78⟩ : ∃ y : Int32, y = x7 + 1 := ⟨_, rfl⟩
          replace hw := hw v78 ev78
          refine lv_iinc (v := v78) (lv' := [(7, .int v78), (5, .int 0), (0, .ref x0), (3, .int x3), (4, .int x4), (6, .int x6)]) hx hb dL_cut_178 hl (k := 5) rfl (by rw [ev78]; rfl) (by decide) rfl (fun ls hl9 => ?_)
          replace hl := hl9
          refine lv_goto (tgt := 119) hx hb dL_cut_181 (by decide) ?_
          exact ih x0 x3 x4 0 x6 v78 S mc ms _ _ hkn hw _ _ _ hW (lv_sub hl [2, 3, 4, 1, 5, 0] rfl)
        · replace hw := hw.2 c77
          refine lv_aload_n hx hb dL_cut_144 rfl (lv_at hl 0 rfl) ?_
          refine lv_iconst (v := 0) hx hb dL_cut_145 (by decide) ?_
          obtain ⟨h80, hw⟩ := hw
          refine h_goi C0 hW (va_runV (As := [.int 0]) (rest := []) ⟨hx, hb, hml, ho, hts⟩ (k_X9_more (l := l) (u := u) (X := X) (sz := H.size) _ x0 0 S  hw) (cwV 1 hts gL_cut_X9_more rfl rfl rfl (by decide +kernel) ⟨Nat.le_of_ble_eq_true rfl, Nat.le_of_ble_eq_true rfl⟩) ⟨h_blind, (h_recv C0 hW (ci := 10) rfl h80), (h_pre C0 hW [.ref x0, .int 0])⟩ rfl rfl hl.1 rfl (lv_room (Nat.le_of_ble_eq_true rfl)) dL_cut_146 ⟨by show _ ≤ MC; omega, by show _ ≤ MS; omega⟩) (fun r79 S81 H locs h82 hW => ?_)
          obtain ⟨h83, hp⟩ := h82
          rw [h83] at hW
          replace hw := hp
          refine lv_iconst (v := 1) hx hb dL_cut_149 (by decide) ?_
          refine lv_icmp_ne (tgt := 175) hx hb dL_cut_150 (by decide) (fun c84 => ?_) (fun c84 => ?_)
          · replace hw := hw.1 c84
            refine lv_iconst (v := 0) hx hb dL_cut_175 (by decide) ?_
            refine lv_istore (lv' := [(5, .int 0), (0, .ref x0), (3, .int x3), (4, .int x4), (6, .int x6), (7, .int x7)]) hx hb dL_cut_176 hl (by decide) rfl (fun ls hl9 => ?_)
            replace hl := hl9
            obtain ⟨v85, ev85⟩ : ∃ y : Int32, y = x7 + 1 := ⟨_, rfl⟩
            replace hw := hw v85 ev85
            refine lv_iinc (v := v85) (lv' := [(7, .int v85), (5, .int 0), (0, .ref x0), (3, .int x3), (4, .int x4), (6, .int x6)]) hx hb dL_cut_178 hl (k := 5) rfl (by rw [ev85]; rfl) (by decide) rfl (fun ls hl9 => ?_)
            replace hl := hl9
            refine lv_goto (tgt := 119) hx hb dL_cut_181 (by decide) ?_
            exact ih x0 x3 x4 0 x6 v85 S mc ms _ _ hkn hw _ _ _ hW (lv_sub hl [2, 3, 4, 1, 5, 0] rfl)
          · replace hw := hw.2 c84
            refine lv_aload_n hx hb dL_cut_153 rfl (lv_at hl 0 rfl) ?_
            refine lv_iconst (v := 0) hx hb dL_cut_154 (by decide) ?_
            refine lv_iconst (v := 3) hx hb dL_cut_155 (by decide) ?_
            obtain ⟨h91, k87, n88, h89, h90, hw⟩ := hw
            refine h_goi C0 hW (va_runV (As := [.int 0, .int 3]) (rest := []) ⟨hx, hb, hml, ho, hts⟩ (k_X9_next (l := l) (u := u) (X := X) (sz := H.size) _ x0 0 3 S k87 n88 hw) (cwV 2 hts gL_cut_X9_next rfl rfl rfl (by decide +kernel) ⟨Nat.le_of_ble_eq_true rfl, Nat.le_of_ble_eq_true rfl⟩) ⟨h_blind, (h_recv C0 hW (ci := 10) rfl h91), (h_pre C0 hW [.ref x0, .int 0, .int 3])⟩ rfl rfl hl.1 rfl (lv_room (Nat.le_of_ble_eq_true rfl)) dL_cut_156 ⟨by show _ ≤ MC; omega, by show _ ≤ MS; omega⟩) (fun r86 S92 H locs h93 hW => ?_)
            replace hw := h93
            have hkn : (k + k87) + (mc - k87) ≤ MC ∧ (n + n88) + (ms - n88) ≤ MS := by omega
            refine lv_if_le (tgt := 175) hx hb dL_cut_159 (by decide) (fun c94 => ?_) (fun c94 => ?_)
            · replace hw := hw.1 c94
              refine lv_iconst (v := 0) hx hb dL_cut_175 (by decide) ?_
              refine lv_istore (lv' := [(5, .int 0), (0, .ref x0), (3, .int x3), (4, .int x4), (6, .int x6), (7, .int x7)]) hx hb dL_cut_176 hl (by decide) rfl (fun ls hl9 => ?_)
              replace hl := hl9
              obtain ⟨v95, ev95⟩ : ∃ y : Int32, y = x7 + 1 := ⟨_, rfl⟩
              replace hw := hw v95 ev95
              refine lv_iinc (v := v95) (lv' := [(7, .int v95), (5, .int 0), (0, .ref x0), (3, .int x3), (4, .int x4), (6, .int x6)]) hx hb dL_cut_178 hl (k := 5) rfl (by rw [ev95]; rfl) (by decide) rfl (fun ls hl9 => ?_)
              replace hl := hl9
              refine lv_goto (tgt := 119) hx hb dL_cut_181 (by decide) ?_
              exact ih x0 x3 x4 0 x6 v95 S92 (mc - k87) (ms - n88) _ _ hkn hw _ _ _ hW (lv_sub hl [2, 3, 4, 1, 5, 0] rfl)
            · replace hw := hw.2 c94
              refine lv_aload_n hx hb dL_cut_162 rfl (lv_at hl 0 rfl) ?_
              refine lv_iconst (v := 0) hx hb dL_cut_163 (by decide) ?_
              refine lv_iconst (v := 3) hx hb dL_cut_164 (by decide) ?_
              obtain ⟨h101, k97, n98, h99, h100, hw⟩ := hw
              refine h_goi C0 hW (va_runV (As := [.int 0, .int 3]) (rest := []) ⟨hx, hb, hml, ho, hts⟩ (k_X9_add (l := l) (u := u) (X := X) (sz := H.size) _ x0 0 3 S92 k97 n98 hw) (cwV 2 hts gL_cut_X9_add rfl rfl rfl (by decide +kernel) ⟨Nat.le_of_ble_eq_true rfl, Nat.le_of_ble_eq_true rfl⟩) ⟨h_blind, (h_recv C0 hW (ci := 10) rfl h101), (h_pre C0 hW [.ref x0, .int 0, .int 3])⟩ rfl rfl hl.1 rfl (lv_room (Nat.le_of_ble_eq_true rfl)) dL_cut_165 ⟨by show _ ≤ MC; omega, by show _ ≤ MS; omega⟩) (fun r96 S102 H locs h103 hW => ?_)
              replace hw := h103
              have hkn : ((k + k87) + k97) + ((mc - k87) - k97) ≤ MC ∧ ((n + n88) + n98) + ((ms - n88) - n98) ≤ MS := by omega
              refine lv_if_le (tgt := 175) hx hb dL_cut_168 (by decide) (fun c104 => ?_) (fun c104 => ?_)
              · replace hw := hw.1 c104
                refine lv_iconst (v := 0) hx hb dL_cut_175 (by decide) ?_
                refine lv_istore (lv' := [(5, .int 0), (0, .ref x0), (3, .int x3), (4, .int x4), (6, .int x6), (7, .int x7)]) hx hb dL_cut_176 hl (by decide) rfl (fun ls hl9 => ?_)
                replace hl := hl9
                obtain ⟨v105, ev105⟩ : ∃ y : Int32, y = x7 + 1 := ⟨_, rfl⟩
                replace hw := hw v105 ev105
                refine lv_iinc (v := v105) (lv' := [(7, .int v105), (5, .int 0), (0, .ref x0), (3, .int x3), (4, .int x4), (6, .int x6)]) hx hb dL_cut_178 hl (k := 5) rfl (by rw [ev105]; rfl) (by decide) rfl (fun ls hl9 => ?_)
                replace hl := hl9
                refine lv_goto (tgt := 119) hx hb dL_cut_181 (by decide) ?_
                exact ih x0 x3 x4 0 x6 v105 S102 ((mc - k87) - k97) ((ms - n88) - n98) _ _ hkn hw _ _ _ hW (lv_sub hl [2, 3, 4, 1, 5, 0] rfl)
              · replace hw := hw.2 c104
                refine lv_iconst (v := 1) hx hb dL_cut_171 (by decide) ?_
                refine lv_goto (tgt := 176) hx hb dL_cut_172 (by decide) ?_
                refine lv_istore (lv' := [(5, .int 1), (0, .ref x0), (3, .int x3), (4, .int x4), (6, .int x6), (7, .int x7)]) hx hb dL_cut_176 hl (by decide) rfl (fun ls hl9 => ?_)
                replace hl := hl9
                obtain ⟨v106, ev106⟩ : ∃ y : Int32, y = x7 + 1 := ⟨_, rfl⟩
                replace hw := hw v106 ev106
                refine lv_iinc (v := v106) (lv' := [(7, .int v106), (5, .int 1), (0, .ref x0), (3, .int x3), (4, .int x4), (6, .int x6)]) hx hb dL_cut_178 hl (k := 5) rfl (by rw [ev106]; rfl) (by decide) rfl (fun ls hl9 => ?_)
                replace hl := hl9
                refine lv_goto (tgt := 119) hx hb dL_cut_181 (by decide) ?_
                exact ih x0 x3 x4 1 x6 v106 S102 ((mc - k87) - k97) ((ms - n88) - n98) _ _ hkn hw _ _ _ hW (lv_sub hl [2, 3, 4, 1, 5, 0] rfl)
set_option maxHeartbeats 4000000 in
set_option maxRecDepth 100000 in
theorem t_L_cut_79 (C0 : hX p s m args c cL_cut 9 RL wsL_cut D (gt u.2.1) A u.1 u.2.2)  (post : Int32 → hS → Prop) (hret : ∀ (r : Int32) (S' : hS) (pc : Nat) (lv : List (Nat × Value)) (k n : Nat), k ≤ MC → n ≤ MS → post r S' → narrow .boolean (.int r) = .int r → decode cL_cut pc = .ok (.ireturn, 1) → gG p l e (rm_L_cut MC MS) s m args below meth c Q D A 9 k n (hC X S') pc lv [.int r])  : ∀ (x0 : Option Nat) (x3 : Int32) (x4 : Int32) (s0 : Int32) (S : hS) (mc ms k n : Nat), k + mc ≤ MC ∧ n + ms ≤ MS → w_L_cut_79 u post   x0 x3 x4 s0 S mc ms → gG p l e (rm_L_cut MC MS) s m args below meth c Q D A 9 k n (hC X S) 79 [(0, va_rf x0), (3, .int x3), (4, .int x4)] [.int s0] := by
  obtain ⟨⟨hx, hb, hml, ho, hts, hK, hA⟩, hR⟩ := id C0
  intro x0 x3 x4 s0 S mc ms k n hkn hw H locs ls hW hl
  rw [w_L_cut_79] at hw
  refine lv_istore (lv' := [(5, .int s0), (0, va_rf x0), (3, .int x3), (4, .int x4)]) hx hb dL_cut_79 hl (by decide) rfl (fun ls hl9 => ?_)
  replace hl := hl9
  refine lv_aloadV_n hx hb dL_cut_81 rfl (lv_at hl 1 rfl) ?_
  refine lv_iconst (v := 0) hx hb dL_cut_82 (by decide) ?_
  refine lv_iconst (v := 0) hx hb dL_cut_83 (by decide) ?_
  refine lv_iconst (v := 1) hx hb dL_cut_84 (by decide) ?_
  obtain ⟨a46, rfl, hw⟩ := hw
  obtain ⟨h52, k48, n49, h50, h51, hw⟩ := hw
  refine h_goi C0 hW (va_runV (As := [.int 0, .int 0, .int 1]) (rest := []) ⟨hx, hb, hml, ho, hts⟩ (k_X9_tokenizeAll (l := l) (u := u) (X := X) (sz := H.size) _ a46 0 0 1 S k48 n49 hw) (cwV 3 hts gL_cut_X9_tokenizeAll rfl rfl rfl (by decide +kernel) ⟨Nat.le_of_ble_eq_true rfl, Nat.le_of_ble_eq_true rfl⟩) ⟨h_blind, (h_recv C0 hW (ci := 10) rfl h52), (h_pre C0 hW [.ref a46, .int 0, .int 0, .int 1])⟩ rfl rfl hl.1 rfl (lv_room (Nat.le_of_ble_eq_true rfl)) dL_cut_85 ⟨by show _ ≤ MC; omega, by show _ ≤ MS; omega⟩) (fun r47 S53 H locs h54 hW => ?_)
  replace hw := h54
  have hkn : (k + k48) + (mc - k48) ≤ MC ∧ (n + n49) + (ms - n49) ≤ MS := by omega
  refine lv_istore (lv' := [(6, .int r47), (5, .int s0), (0, .ref a46), (3, .int x3), (4, .int x4)]) hx hb dL_cut_88 hl (by decide) rfl (fun ls hl9 => ?_)
  replace hl := hl9
  refine lv_iload hx hb dL_cut_90 (lv_at hl 1 rfl) ?_
  refine lv_if_eq (tgt := 113) hx hb dL_cut_92 (by decide) (fun c55 => ?_) (fun c55 => ?_)
  · replace hw := hw.1 c55
    refine lv_iconst (v := 0) hx hb dL_cut_113 (by decide) ?_
    refine lv_istore (lv' := [(5, .int 0), (6, .int r47), (0, .ref a46), (3, .int x3), (4, .int x4)]) hx hb dL_cut_114 hl (by decide) rfl (fun ls hl9 => ?_)
    replace hl := hl9
    refine lv_iconst (v := 0) hx hb dL_cut_116 (by decide) ?_
    refine lv_istore (lv' := [(7, .int 0), (5, .int 0), (6, .int r47), (0, .ref a46), (3, .int x3), (4, .int x4)]) hx hb dL_cut_117 hl (by decide) rfl (fun ls hl9 => ?_)
    replace hl := hl9
    obtain ⟨n56, hw⟩ := hw
    exact t_L_cut_119 C0  post hret  n56 a46 x3 x4 0 r47 0 S53 (mc - k48) (ms - n49) _ _ hkn hw _ _ _ hW (lv_sub hl [3, 4, 5, 1, 2, 0] rfl)
  · replace hw := hw.2 c55
    refine lv_iload hx hb dL_cut_95 (lv_at hl 0 rfl) ?_
    refine lv_if_le (tgt := 113) hx hb dL_cut_97 (by decide) (fun c57 => ?_) (fun c57 => ?_)
    · replace hw := hw.1 c57
      refine lv_iconst (v := 0) hx hb dL_cut_113 (by decide) ?_
      refine lv_istore (lv' := [(5, .int 0), (6, .int r47), (0, .ref a46), (3, .int x3), (4, .int x4)]) hx hb dL_cut_114 hl (by decide) rfl (fun ls hl9 => ?_)
      replace hl := hl9
      refine lv_iconst (v := 0) hx hb dL_cut_116 (by decide) ?_
      refine lv_istore (lv' := [(7, .int 0), (5, .int 0), (6, .int r47), (0, .ref a46), (3, .int x3), (4, .int x4)]) hx hb dL_cut_117 hl (by decide) rfl (fun ls hl9 => ?_)
      replace hl := hl9
      obtain ⟨n58, hw⟩ := hw
      exact t_L_cut_119 C0  post hret  n58 a46 x3 x4 0 r47 0 S53 (mc - k48) (ms - n49) _ _ hkn hw _ _ _ hW (lv_sub hl [3, 4, 5, 1, 2, 0] rfl)
    · replace hw := hw.2 c57
      refine lv_aload_n hx hb dL_cut_100 rfl (lv_at hl 2 rfl) ?_
      refine lv_iconst (v := 0) hx hb dL_cut_101 (by decide) ?_
      refine lv_iconst (v := 2) hx hb dL_cut_102 (by decide) ?_
      obtain ⟨h64, k60, n61, h62, h63, hw⟩ := hw
      refine h_goi C0 hW (va_runV (As := [.int 0, .int 2]) (rest := []) ⟨hx, hb, hml, ho, hts⟩ (k_X9_join (l := l) (u := u) (X := X) (sz := H.size) _ a46 0 2 S53 k60 n61 hw) (cwV 2 hts gL_cut_X9_join rfl rfl rfl (by decide +kernel) ⟨Nat.le_of_ble_eq_true rfl, Nat.le_of_ble_eq_true rfl⟩) ⟨h_blind, (h_recv C0 hW (ci := 10) rfl h64), (h_pre C0 hW [.ref a46, .int 0, .int 2])⟩ rfl rfl hl.1 rfl (lv_room (Nat.le_of_ble_eq_true rfl)) dL_cut_103 ⟨by show _ ≤ MC; omega, by show _ ≤ MS; omega⟩) (fun r59 S65 H locs h66 hW => ?_)
      replace hw := h66
      have hkn : ((k + k48) + k60) + ((mc - k48) - k60) ≤ MC ∧ ((n + n49) + n61) + ((ms - n49) - n61) ≤ MS := by omega
      refine lv_if_ne (tgt := 113) hx hb dL_cut_106 (by decide) (fun c67 => ?_) (fun c67 => ?_)
      · replace hw := hw.1 c67
        refine lv_iconst (v := 0) hx hb dL_cut_113 (by decide) ?_
        refine lv_istore (lv' := [(5, .int 0), (6, .int r47), (0, .ref a46), (3, .int x3), (4, .int x4)]) hx hb dL_cut_114 hl (by decide) rfl (fun ls hl9 => ?_)
        replace hl := hl9
        refine lv_iconst (v := 0) hx hb dL_cut_116 (by decide) ?_
        refine lv_istore (lv' := [(7, .int 0), (5, .int 0), (6, .int r47), (0, .ref a46), (3, .int x3), (4, .int x4)]) hx hb dL_cut_117 hl (by decide) rfl (fun ls hl9 => ?_)
        replace hl := hl9
        obtain ⟨n68, hw⟩ := hw
        exact t_L_cut_119 C0  post hret  n68 a46 x3 x4 0 r47 0 S65 ((mc - k48) - k60) ((ms - n49) - n61) _ _ hkn hw _ _ _ hW (lv_sub hl [3, 4, 5, 1, 2, 0] rfl)
      · replace hw := hw.2 c67
        refine lv_iconst (v := 1) hx hb dL_cut_109 (by decide) ?_
        refine lv_goto (tgt := 114) hx hb dL_cut_110 (by decide) ?_
        refine lv_istore (lv' := [(5, .int 1), (6, .int r47), (0, .ref a46), (3, .int x3), (4, .int x4)]) hx hb dL_cut_114 hl (by decide) rfl (fun ls hl9 => ?_)
        replace hl := hl9
        refine lv_iconst (v := 0) hx hb dL_cut_116 (by decide) ?_
        refine lv_istore (lv' := [(7, .int 0), (5, .int 1), (6, .int r47), (0, .ref a46), (3, .int x3), (4, .int x4)]) hx hb dL_cut_117 hl (by decide) rfl (fun ls hl9 => ?_)
        replace hl := hl9
        obtain ⟨n69, hw⟩ := hw
        exact t_L_cut_119 C0  post hret  n69 a46 x3 x4 1 r47 0 S65 ((mc - k48) - k60) ((ms - n49) - n61) _ _ hkn hw _ _ _ hW (lv_sub hl [3, 4, 5, 1, 2, 0] rfl)
set_option maxHeartbeats 4000000 in
set_option maxRecDepth 100000 in
theorem t_L_cut_78 (C0 : hX p s m args c cL_cut 9 RL wsL_cut D (gt u.2.1) A u.1 u.2.2)  (post : Int32 → hS → Prop) (hret : ∀ (r : Int32) (S' : hS) (pc : Nat) (lv : List (Nat × Value)) (k n : Nat), k ≤ MC → n ≤ MS → post r S' → narrow .boolean (.int r) = .int r → decode cL_cut pc = .ok (.ireturn, 1) → gG p l e (rm_L_cut MC MS) s m args below meth c Q D A 9 k n (hC X S') pc lv [.int r])  : ∀ (x0 : Option Nat) (x3 : Int32) (x4 : Int32) (S : hS) (mc ms k n : Nat), k + mc ≤ MC ∧ n + ms ≤ MS → w_L_cut_78 u post   x0 x3 x4 S mc ms → gG p l e (rm_L_cut MC MS) s m args below meth c Q D A 9 k n (hC X S) 78 [(0, va_rf x0), (3, .int x3), (4, .int x4)] [] := by
  obtain ⟨⟨hx, hb, hml, ho, hts, hK, hA⟩, hR⟩ := id C0
  intro x0 x3 x4 S mc ms k n hkn hw H locs ls hW hl
  rw [w_L_cut_78] at hw
  refine lv_iconst (v := 0) hx hb dL_cut_78 (by decide) ?_
  exact t_L_cut_79 C0  post hret  x0 x3 x4 0 S mc ms _ _ hkn hw _ _ _ hW (lv_sub hl [0, 1, 2] rfl)
set_option maxHeartbeats 4000000 in
set_option maxRecDepth 100000 in
theorem t_L_cut_0 (C0 : hX p s m args c cL_cut 9 RL wsL_cut D (gt u.2.1) A u.1 u.2.2)  (post : Int32 → hS → Prop) (hret : ∀ (r : Int32) (S' : hS) (pc : Nat) (lv : List (Nat × Value)) (k n : Nat), k ≤ MC → n ≤ MS → post r S' → narrow .boolean (.int r) = .int r → decode cL_cut pc = .ok (.ireturn, 1) → gG p l e (rm_L_cut MC MS) s m args below meth c Q D A 9 k n (hC X S') pc lv [.int r])  : ∀ (p1 : Option Nat) (p2 : Option Nat) (z3 : Int32) (S : hS) (mc ms k n : Nat), k + mc ≤ MC ∧ n + ms ≤ MS → w_L_cut u post   p1 p2 z3 S mc ms → gG p l e (rm_L_cut MC MS) s m args below meth c Q D A 9 k n (hC X S) 0 [(0, va_rf p1), (1, va_rf p2), (2, .int z3)] [] := by
  obtain ⟨⟨hx, hb, hml, ho, hts, hK, hA⟩, hR⟩ := id C0
  intro p1 p2 z3 S mc ms k n hkn hw H locs ls hW hl
  rw [w_L_cut] at hw
  refine lv_aloadV_n hx hb dL_cut_0 rfl (lv_at hl 1 rfl) ?_
  refine lv_iload_n hx hb dL_cut_1 rfl (lv_at hl 2 rfl) ?_
  refine h_goi C0 hW (va_runS (As := [va_rf p2, .int z3]) (rest := []) ⟨hx, hb, hml, ho, hts⟩ (k_L_cell (l := l) (u := u) (X := X) (sz := H.size) _ p2 z3 S  hw) (va_cwS 2 hts gL_cut_L_cell rfl rfl rfl (by decide +kernel) ⟨Nat.le_of_ble_eq_true rfl, Nat.le_of_ble_eq_true rfl⟩) ⟨h_blind, (h_pre C0 hW [va_rf p2, .int z3])⟩ rfl rfl hl.1 rfl (lv_room (Nat.le_of_ble_eq_true rfl)) dL_cut_2 ⟨by show _ ≤ MC; omega, by show _ ≤ MS; omega⟩) (fun r1 S2 H locs h3 hW => ?_)
  obtain ⟨h4, hp⟩ := h3
  rw [h4] at hW
  replace hw := hp
  refine g_calls (As := [.int r1]) (rest := []) ⟨hx, hb, hml, ho, hts⟩ hl.1 (k_L_sign (l := l) _ r1 hw) (va_cwS 1 hts gL_cut_L_sign rfl rfl rfl (by decide +kernel) ⟨Nat.le_of_ble_eq_true rfl, Nat.le_of_ble_eq_true rfl⟩) (Nat.le_of_ble_eq_true rfl) dL_cut_5 rfl ⟨by show _ ≤ MC; omega, by show _ ≤ MS; omega⟩ (fun r5 hp => ?_)
  replace hw := hp
  refine lv_istore_n (lv' := [(3, .int r5), (0, va_rf p1), (1, va_rf p2), (2, .int z3)]) hx hb dL_cut_8 rfl hl (by decide) rfl (fun ls hl9 => ?_)
  replace hl := hl9
  refine lv_aloadV_n hx hb dL_cut_9 rfl (lv_at hl 2 rfl) ?_
  refine lv_iload_n hx hb dL_cut_10 rfl (lv_at hl 3 rfl) ?_
  refine lv_iconst (v := 1) hx hb dL_cut_11 (by decide) ?_
  refine lv_iadd hx hb dL_cut_12 ?_
  refine h_goi C0 hW (va_runS (As := [va_rf p2, .int (z3 + 1)]) (rest := []) ⟨hx, hb, hml, ho, hts⟩ (k_L_cell (l := l) (u := u) (X := X) (sz := H.size) _ p2 (z3 + 1) S  hw) (va_cwS 2 hts gL_cut_L_cell rfl rfl rfl (by decide +kernel) ⟨Nat.le_of_ble_eq_true rfl, Nat.le_of_ble_eq_true rfl⟩) ⟨h_blind, (h_pre C0 hW [va_rf p2, .int (z3 + 1)])⟩ rfl rfl hl.1 rfl (lv_room (Nat.le_of_ble_eq_true rfl)) dL_cut_13 ⟨by show _ ≤ MC; omega, by show _ ≤ MS; omega⟩) (fun r6 S7 H locs h8 hW => ?_)
  obtain ⟨h9, hp⟩ := h8
  rw [h9] at hW
  replace hw := hp
  refine g_calls (As := [.int r6]) (rest := []) ⟨hx, hb, hml, ho, hts⟩ hl.1 (k_L_sign (l := l) _ r6 hw) (va_cwS 1 hts gL_cut_L_sign rfl rfl rfl (by decide +kernel) ⟨Nat.le_of_ble_eq_true rfl, Nat.le_of_ble_eq_true rfl⟩) (Nat.le_of_ble_eq_true rfl) dL_cut_16 rfl ⟨by show _ ≤ MC; omega, by show _ ≤ MS; omega⟩ (fun r10 hp => ?_)
  replace hw := hp
  refine lv_istore (lv' := [(4, .int r10), (3, .int r5), (0, va_rf p1), (1, va_rf p2), (2, .int z3)]) hx hb dL_cut_19 hl (by decide) rfl (fun ls hl9 => ?_)
  replace hl := hl9
  refine lv_aloadV_n hx hb dL_cut_21 rfl (lv_at hl 2 rfl) ?_
  refine lv_iconst (v := 0) hx hb dL_cut_22 (by decide) ?_
  refine lv_aloadV_n hx hb dL_cut_23 rfl (lv_at hl 3 rfl) ?_
  refine lv_iload_n hx hb dL_cut_24 rfl (lv_at hl 4 rfl) ?_
  refine lv_iconst (v := 2) hx hb dL_cut_25 (by decide) ?_
  refine lv_iadd hx hb dL_cut_26 ?_
  refine lv_iconst (v := 4) hx hb dL_cut_27 (by decide) ?_
  refine lv_aloadV_n hx hb dL_cut_28 rfl (lv_at hl 3 rfl) ?_
  refine lv_iload_n hx hb dL_cut_29 rfl (lv_at hl 4 rfl) ?_
  refine h_goi C0 hW (va_runS (As := [va_rf p2, .int z3]) (rest := [.int 4, .int (z3 + 2), va_rf p2, .int 0, va_rf p1]) ⟨hx, hb, hml, ho, hts⟩ (k_L_cell (l := l) (u := u) (X := X) (sz := H.size) _ p2 z3 S  hw) (va_cwS 2 hts gL_cut_L_cell rfl rfl rfl (by decide +kernel) ⟨Nat.le_of_ble_eq_true rfl, Nat.le_of_ble_eq_true rfl⟩) ⟨h_blind, (h_pre C0 hW [va_rf p2, .int z3])⟩ rfl rfl hl.1 rfl (lv_room (by simp [va_rf_cat, va_c_ref, va_c_int, va_c_null])) dL_cut_30 ⟨by show _ ≤ MC; omega, by show _ ≤ MS; omega⟩) (fun r11 S12 H locs h13 hW => ?_)
  obtain ⟨h14, hp⟩ := h13
  rw [h14] at hW
  replace hw := hp
  refine lv_bipush (v := 14) hx hb dL_cut_33 (by decide) ?_
  refine g_calls (As := [.int r11, .int 14]) (rest := [.int 4, .int (z3 + 2), va_rf p2, .int 0, va_rf p1]) ⟨hx, hb, hml, ho, hts⟩ hl.1 (k_L_low (l := l) _ r11 14 (by decide) hw) (va_cwS 2 hts gL_cut_L_low rfl rfl rfl (by decide +kernel) ⟨Nat.le_of_ble_eq_true rfl, Nat.le_of_ble_eq_true rfl⟩) (by simp [va_rf_cat, va_c_ref, va_c_int, va_c_null]) dL_cut_35 rfl ⟨by show _ ≤ MC; omega, by show _ ≤ MS; omega⟩ (fun r15 hp => ?_)
  replace hw := hp
  refine lv_iadd hx hb dL_cut_38 ?_
  obtain ⟨k17, n18, h19, h20, hw⟩ := hw
  refine h_goi C0 hW (va_runS (As := [va_rf p1, .int 0, va_rf p2, .int (z3 + 2), .int (4 + r15)]) (rest := []) ⟨hx, hb, hml, ho, hts⟩ (k_L_lays (l := l) (u := u) (X := X) (sz := H.size) _ p1 0 p2 (z3 + 2) (4 + r15) S k17 n18 hw) (va_cwS 5 hts gL_cut_L_lays rfl rfl rfl (by decide +kernel) ⟨Nat.le_of_ble_eq_true rfl, Nat.le_of_ble_eq_true rfl⟩) ⟨h_blind, (h_pre C0 hW [va_rf p1, .int 0, va_rf p2, .int (z3 + 2), .int (4 + r15)])⟩ rfl rfl hl.1 rfl (lv_room (Nat.le_of_ble_eq_true rfl)) dL_cut_39 ⟨by show _ ≤ MC; omega, by show _ ≤ MS; omega⟩) (fun r16 S21 H locs h22 hW => ?_)
  replace hw := h22
  have hkn : (k + k17) + (mc - k17) ≤ MC ∧ (n + n18) + (ms - n18) ≤ MS := by omega
  refine lv_if_eq (tgt := 78) hx hb dL_cut_42 (by decide) (fun c23 => ?_) (fun c23 => ?_)
  · replace hw := hw.1 c23
    exact t_L_cut_78 C0  post hret  p1 r5 r10 S21 (mc - k17) (ms - n18) _ _ hkn hw _ _ _ hW (lv_sub hl [2, 1, 0] rfl)
  · replace hw := hw.2 c23
    refine lv_aloadV_n hx hb dL_cut_45 rfl (lv_at hl 2 rfl) ?_
    refine lv_iconst (v := 1) hx hb dL_cut_46 (by decide) ?_
    refine lv_aloadV_n hx hb dL_cut_47 rfl (lv_at hl 3 rfl) ?_
    refine lv_iload_n hx hb dL_cut_48 rfl (lv_at hl 4 rfl) ?_
    refine lv_iconst (v := 2) hx hb dL_cut_49 (by decide) ?_
    obtain ⟨k25, n26, h27, h28, hw⟩ := hw
    refine h_goi C0 hW (va_runS (As := [va_rf p1, .int 1, va_rf p2, .int z3, .int 2]) (rest := []) ⟨hx, hb, hml, ho, hts⟩ (k_L_lays (l := l) (u := u) (X := X) (sz := H.size) _ p1 1 p2 z3 2 S21 k25 n26 hw) (va_cwS 5 hts gL_cut_L_lays rfl rfl rfl (by decide +kernel) ⟨Nat.le_of_ble_eq_true rfl, Nat.le_of_ble_eq_true rfl⟩) ⟨h_blind, (h_pre C0 hW [va_rf p1, .int 1, va_rf p2, .int z3, .int 2])⟩ rfl rfl hl.1 rfl (lv_room (Nat.le_of_ble_eq_true rfl)) dL_cut_50 ⟨by show _ ≤ MC; omega, by show _ ≤ MS; omega⟩) (fun r24 S29 H locs h30 hW => ?_)
    replace hw := h30
    have hkn : ((k + k17) + k25) + ((mc - k17) - k25) ≤ MC ∧ ((n + n18) + n26) + ((ms - n18) - n26) ≤ MS := by omega
    refine lv_if_eq (tgt := 78) hx hb dL_cut_53 (by decide) (fun c31 => ?_) (fun c31 => ?_)
    · replace hw := hw.1 c31
      exact t_L_cut_78 C0  post hret  p1 r5 r10 S29 ((mc - k17) - k25) ((ms - n18) - n26) _ _ hkn hw _ _ _ hW (lv_sub hl [2, 1, 0] rfl)
    · replace hw := hw.2 c31
      refine lv_aloadV_n hx hb dL_cut_56 rfl (lv_at hl 2 rfl) ?_
      refine lv_iconst (v := 2) hx hb dL_cut_57 (by decide) ?_
      refine lv_iconst (v := 0) hx hb dL_cut_58 (by decide) ?_
      obtain ⟨k33, n34, h35, h36, hw⟩ := hw
      refine h_goi C0 hW (va_runS (As := [va_rf p1, .int 2, .int 0]) (rest := []) ⟨hx, hb, hml, ho, hts⟩ (k_L_one (l := l) (u := u) (X := X) (sz := H.size) _ p1 2 0 S29 k33 n34 hw) (va_cwS 3 hts gL_cut_L_one rfl rfl rfl (by decide +kernel) ⟨Nat.le_of_ble_eq_true rfl, Nat.le_of_ble_eq_true rfl⟩) ⟨h_blind, (h_pre C0 hW [va_rf p1, .int 2, .int 0])⟩ rfl rfl hl.1 rfl (lv_room (Nat.le_of_ble_eq_true rfl)) dL_cut_59 ⟨by show _ ≤ MC; omega, by show _ ≤ MS; omega⟩) (fun r32 S37 H locs h38 hW => ?_)
      replace hw := h38
      have hkn : (((k + k17) + k25) + k33) + (((mc - k17) - k25) - k33) ≤ MC ∧ (((n + n18) + n26) + n34) + (((ms - n18) - n26) - n34) ≤ MS := by omega
      refine lv_if_eq (tgt := 78) hx hb dL_cut_62 (by decide) (fun c39 => ?_) (fun c39 => ?_)
      · replace hw := hw.1 c39
        exact t_L_cut_78 C0  post hret  p1 r5 r10 S37 (((mc - k17) - k25) - k33) (((ms - n18) - n26) - n34) _ _ hkn hw _ _ _ hW (lv_sub hl [2, 1, 0] rfl)
      · replace hw := hw.2 c39
        refine lv_aloadV_n hx hb dL_cut_65 rfl (lv_at hl 2 rfl) ?_
        refine lv_iconst (v := 2) hx hb dL_cut_66 (by decide) ?_
        obtain ⟨a40, rfl, hw⟩ := hw
        obtain ⟨h42, hw⟩ := hw
        refine h_goi C0 hW (va_runV (As := [.int 2]) (rest := []) ⟨hx, hb, hml, ho, hts⟩ (k_X9_erase (l := l) (u := u) (X := X) (sz := H.size) _ a40 2 S37  hw) (cwV 1 hts gL_cut_X9_erase rfl rfl rfl (by decide +kernel) ⟨Nat.le_of_ble_eq_true rfl, Nat.le_of_ble_eq_true rfl⟩) ⟨h_blind, (h_recv C0 hW (ci := 10) rfl h42), (h_pre C0 hW [.ref a40, .int 2])⟩ rfl rfl hl.1 rfl (lv_room (Nat.le_of_ble_eq_true rfl)) dL_cut_67 ⟨by show _ ≤ MC; omega, by show _ ≤ MS; omega⟩) (fun r41 S43 H locs h44 hW => ?_)
        replace hw := h44
        refine lv_iconst (v := 1) hx hb dL_cut_70 (by decide) ?_
        refine lv_icmp_ne (tgt := 78) hx hb dL_cut_71 (by decide) (fun c45 => ?_) (fun c45 => ?_)
        · replace hw := hw.1 c45
          exact t_L_cut_78 C0  post hret  (some a40) r5 r10 S43 (((mc - k17) - k25) - k33) (((ms - n18) - n26) - n34) _ _ hkn hw _ _ _ hW (lv_sub hl [2, 1, 0] rfl)
        · replace hw := hw.2 c45
          refine lv_iconst (v := 1) hx hb dL_cut_74 (by decide) ?_
          refine lv_goto (tgt := 79) hx hb dL_cut_75 (by decide) ?_
          exact t_L_cut_79 C0  post hret  (some a40) r5 r10 1 S43 (((mc - k17) - k25) - k33) (((ms - n18) - n26) - n34) _ _ hkn hw _ _ _ hW (lv_sub hl [2, 1, 0] rfl)
set_option maxHeartbeats 4000000 in
set_option maxRecDepth 100000 in
theorem k_L_cut {l : Launch} {D : va_G} {u : hU} {X : va_W} {sz : Nat} (post : Int32 → hS → Prop) (p1 : Option Nat) (p2 : Option Nat) (z3 : Int32) (S : hS) (mc ms : Nat) (hw : w_L_cut u post  p1 p2 z3 S mc ms) : hMi l yL_cut wsL_cut (rm_L_cut mc ms) D (gt u.2.1) u.1 u.2.2 sz X S [va_rf p1, va_rf p2, .int z3] post mc ms := by
  refine hMi_of (cc := cL_cut) (nL := 9) (ty := .boolean) (own := RL) (by decide) rfl rfl (by cases p1 <;> cases p2 <;> exact Nat.le_of_ble_eq_true rfl) ?_
  intro p e s m args below meth c A Q C0 hin hret
  have hfin := t_L_cut_0 C0  post hret p1 p2 z3 S mc ms 0 0 ⟨by omega, by omega⟩ hw
  intro H locs ls hW hl
  refine hfin H locs ls hW ?_
  cases p1 <;> cases p2 <;> exact hl
end RAWM
