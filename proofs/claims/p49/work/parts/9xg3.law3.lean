section RAWM
variable {p : Program} {l : Launch} {e : Env} {s : State} {m : MethodId} {args : Array Value} {below : List Frame} {meth : Method} {c : Code} {Q : State → Prop}
variable {D : va_G} {A : Nat → Prop} {u : hU} {X : va_W} {MC MS : Nat}
abbrev rm_L_joined (MC MS : Nat) : Room := { frames := 10, cells := MC, slots := MS, locals := 230 }
set_option maxHeartbeats 4000000 in
set_option maxRecDepth 100000 in
theorem t_L_joined_103 (C0 : hX p s m args c cL_joined 6 RL wsL_joined D (gt u.2.1) A u.1 u.2.2)  (post : Int32 → hS → Prop) (hret : ∀ (r : Int32) (S' : hS) (pc : Nat) (lv : List (Nat × Value)) (k n : Nat), k ≤ MC → n ≤ MS → post r S' → narrow .boolean (.int r) = .int r → decode cL_joined pc = .ok (.ireturn, 1) → gG p l e (rm_L_joined MC MS) s m args below meth c Q D A 6 k n (hC X S') pc lv [.int r]) (K41 : Option Nat → Option Nat → Int32 → Int32 → Int32 → Int32 → hS → Nat → Nat → Prop) (hK41 : ∀ (x0 : Option Nat) (x1 : Option Nat) (x2 : Int32) (x3 : Int32) (x4 : Int32) (x5 : Int32) (S : hS) (mc ms k n : Nat), k + mc ≤ MC ∧ n + ms ≤ MS → K41 x0 x1 x2 x3 x4 x5 S mc ms → gG p l e (rm_L_joined MC MS) s m args below meth c Q D A 6 k n (hC X S) 41 [(0, va_rf x0), (1, va_rf x1), (2, .int x2), (3, .int x3), (4, .int x4), (5, .int x5)] []) : ∀ (x0 : Option Nat) (x1 : Option Nat) (x2 : Int32) (x3 : Int32) (x5 : Int32) (S : hS) (mc ms k n : Nat), k + mc ≤ MC ∧ n + ms ≤ MS → w_L_joined_103 u post  K41 x0 x1 x2 x3 x5 S mc ms → gG p l e (rm_L_joined MC MS) s m args below meth c Q D A 6 k n (hC X S) 103 [(0, va_rf x0), (1, va_rf x1), (2, .int x2), (3, .int x3), (5, .int x5)] [] := by
  obtain ⟨⟨hx, hb, hml, ho, hts, hK, hA⟩, hR⟩ := id C0
  intro x0 x1 x2 x3 x5 S mc ms k n hkn hw H locs ls hW hl
  rw [w_L_joined_103] at hw
  refine lv_aloadV_n hx hb dL_joined_103 rfl (lv_at hl 0 rfl) ?_
  refine lv_iconst (v := 1) hx hb dL_joined_104 (by decide) ?_
  refine lv_iconst (v := 1) hx hb dL_joined_105 (by decide) ?_
  obtain ⟨a91, rfl, hw⟩ := hw
  obtain ⟨h97, k93, n94, h95, h96, hw⟩ := hw
  refine h_goi C0 hW (va_runV (As := [.int 1, .int 1]) (rest := []) ⟨hx, hb, hml, ho, hts⟩ (k_X9_add (l := l) (u := u) (X := X) (sz := H.size) _ a91 1 1 S k93 n94 hw) (cwV 2 hts gL_joined_X9_add rfl rfl rfl (by decide +kernel) ⟨Nat.le_of_ble_eq_true rfl, Nat.le_of_ble_eq_true rfl⟩) ⟨h_blind, (h_recv C0 hW (ci := 10) rfl h97), (h_pre C0 hW [.ref a91, .int 1, .int 1])⟩ rfl rfl hl.1 rfl (lv_room (Nat.le_of_ble_eq_true rfl)) dL_joined_106 ⟨by show _ ≤ MC; omega, by show _ ≤ MS; omega⟩) (fun r92 S98 H locs h99 hW => ?_)
  replace hw := h99
  have hkn : (k + k93) + (mc - k93) ≤ MC ∧ (n + n94) + (ms - n94) ≤ MS := by omega
  refine lv_if_le (tgt := 116) hx hb dL_joined_109 (by decide) (fun c100 => ?_) (fun c100 => ?_)
  · replace hw := hw.1 c100
    refine lv_iconst (v := 0) hx hb dL_joined_116 (by decide) ?_
    refine lv_istore (lv' := [(4, .int 0), (0, .ref a91), (1, va_rf x1), (2, .int x2), (3, .int x3), (5, .int x5)]) hx hb dL_joined_117 hl (by decide) rfl (fun ls hl9 => ?_)
    replace hl := hl9
    obtain ⟨v101, ev101⟩ : ∃ y : Int32, y = x5 + 1 := ⟨_, rfl⟩
    replace hw := hw v101 ev101
    refine lv_iinc (v := v101) (lv' := [(5, .int v101), (4, .int 0), (0, .ref a91), (1, va_rf x1), (2, .int x2), (3, .int x3)]) hx hb dL_joined_119 hl (k := 5) rfl (by rw [ev101]; rfl) (by decide) rfl (fun ls hl9 => ?_)
    replace hl := hl9
    refine lv_goto (tgt := 41) hx hb dL_joined_122 (by decide) ?_
    exact hK41 (some a91) x1 x2 x3 0 v101 S98 (mc - k93) (ms - n94) _ _ hkn hw _ _ _ hW (lv_sub hl [2, 3, 4, 5, 1, 0] rfl)
  · replace hw := hw.2 c100
    refine lv_iconst (v := 1) hx hb dL_joined_112 (by decide) ?_
    refine lv_goto (tgt := 117) hx hb dL_joined_113 (by decide) ?_
    refine lv_istore (lv' := [(4, .int 1), (0, .ref a91), (1, va_rf x1), (2, .int x2), (3, .int x3), (5, .int x5)]) hx hb dL_joined_117 hl (by decide) rfl (fun ls hl9 => ?_)
    replace hl := hl9
    obtain ⟨v102, ev102⟩ : ∃ y : Int32, y = x5 + 1 := ⟨_, rfl⟩
    replace hw := hw v102 ev102
    refine lv_iinc (v := v102) (lv' := [(5, .int v102), (4, .int 1), (0, .ref a91), (1, va_rf x1), (2, .int x2), (3, .int x3)]) hx hb dL_joined_119 hl (k := 5) rfl (by rw [ev102]; rfl) (by decide) rfl (fun ls hl9 => ?_)
    replace hl := hl9
    refine lv_goto (tgt := 41) hx hb dL_joined_122 (by decide) ?_
    exact hK41 (some a91) x1 x2 x3 1 v102 S98 (mc - k93) (ms - n94) _ _ hkn hw _ _ _ hW (lv_sub hl [2, 3, 4, 5, 1, 0] rfl)
set_option maxHeartbeats 4000000 in
set_option maxRecDepth 100000 in
theorem t_L_joined_238 (C0 : hX p s m args c cL_joined 6 RL wsL_joined D (gt u.2.1) A u.1 u.2.2)  (post : Int32 → hS → Prop) (hret : ∀ (r : Int32) (S' : hS) (pc : Nat) (lv : List (Nat × Value)) (k n : Nat), k ≤ MC → n ≤ MS → post r S' → narrow .boolean (.int r) = .int r → decode cL_joined pc = .ok (.ireturn, 1) → gG p l e (rm_L_joined MC MS) s m args below meth c Q D A 6 k n (hC X S') pc lv [.int r])  : ∀ (x0 : Option Nat) (x4 : Int32) (S : hS) (mc ms k n : Nat), k + mc ≤ MC ∧ n + ms ≤ MS → w_L_joined_238 u post   x0 x4 S mc ms → gG p l e (rm_L_joined MC MS) s m args below meth c Q D A 6 k n (hC X S) 238 [(0, va_rf x0), (4, .int x4)] [] := by
  obtain ⟨⟨hx, hb, hml, ho, hts, hK, hA⟩, hR⟩ := id C0
  intro x0 x4 S mc ms k n hkn hw H locs ls hW hl
  rw [w_L_joined_238] at hw
  refine lv_iload hx hb dL_joined_238 (lv_at hl 1 rfl) ?_
  refine lv_if_eq (tgt := 255) hx hb dL_joined_240 (by decide) (fun c134 => ?_) (fun c134 => ?_)
  · replace hw := hw.1 c134
    refine lv_iconst (v := 0) hx hb dL_joined_255 (by decide) ?_
    exact hret 0 S _ _ _ _ (by omega) (by omega) hw (by decide) dL_joined_256 _ _ _ hW hl
  · replace hw := hw.2 c134
    refine lv_aloadV_n hx hb dL_joined_243 rfl (lv_at hl 0 rfl) ?_
    refine lv_iconst (v := 0) hx hb dL_joined_244 (by decide) ?_
    obtain ⟨a135, rfl, hw⟩ := hw
    obtain ⟨h137, hw⟩ := hw
    refine h_goi C0 hW (va_runV (As := [.int 0]) (rest := []) ⟨hx, hb, hml, ho, hts⟩ (k_X9_more (l := l) (u := u) (X := X) (sz := H.size) _ a135 0 S  hw) (cwV 1 hts gL_joined_X9_more rfl rfl rfl (by decide +kernel) ⟨Nat.le_of_ble_eq_true rfl, Nat.le_of_ble_eq_true rfl⟩) ⟨h_blind, (h_recv C0 hW (ci := 10) rfl h137), (h_pre C0 hW [.ref a135, .int 0])⟩ rfl rfl hl.1 rfl (lv_room (Nat.le_of_ble_eq_true rfl)) dL_joined_245 ⟨by show _ ≤ MC; omega, by show _ ≤ MS; omega⟩) (fun r136 S138 H locs h139 hW => ?_)
    obtain ⟨h140, hp⟩ := h139
    rw [h140] at hW
    replace hw := hp
    refine lv_if_ne (tgt := 255) hx hb dL_joined_248 (by decide) (fun c141 => ?_) (fun c141 => ?_)
    · replace hw := hw.1 c141
      refine lv_iconst (v := 0) hx hb dL_joined_255 (by decide) ?_
      exact hret 0 S _ _ _ _ (by omega) (by omega) hw (by decide) dL_joined_256 _ _ _ hW hl
    · replace hw := hw.2 c141
      refine lv_iconst (v := 1) hx hb dL_joined_251 (by decide) ?_
      refine lv_goto (tgt := 256) hx hb dL_joined_252 (by decide) ?_
      exact hret 1 S _ _ _ _ (by omega) (by omega) hw (by decide) dL_joined_256 _ _ _ hW hl
set_option maxHeartbeats 4000000 in
set_option maxRecDepth 100000 in
theorem t_L_joined_165 (C0 : hX p s m args c cL_joined 6 RL wsL_joined D (gt u.2.1) A u.1 u.2.2)  (post : Int32 → hS → Prop) (hret : ∀ (r : Int32) (S' : hS) (pc : Nat) (lv : List (Nat × Value)) (k n : Nat), k ≤ MC → n ≤ MS → post r S' → narrow .boolean (.int r) = .int r → decode cL_joined pc = .ok (.ireturn, 1) → gG p l e (rm_L_joined MC MS) s m args below meth c Q D A 6 k n (hC X S') pc lv [.int r])  : ∀ (nf : Nat) (x0 : Option Nat) (x1 : Option Nat) (x2 : Int32) (x3 : Int32) (x4 : Int32) (x5 : Int32) (S : hS) (mc ms k n : Nat), k + mc ≤ MC ∧ n + ms ≤ MS → w_L_joined_165 u post   nf x0 x1 x2 x3 x4 x5 S mc ms → gG p l e (rm_L_joined MC MS) s m args below meth c Q D A 6 k n (hC X S) 165 [(0, va_rf x0), (1, va_rf x1), (2, .int x2), (3, .int x3), (4, .int x4), (5, .int x5)] [] := by
  obtain ⟨⟨hx, hb, hml, ho, hts, hK, hA⟩, hR⟩ := id C0
  intro nf
  induction nf with
  | zero => intro x0 x1 x2 x3 x4 x5 S mc ms k n hkn hw; exact hw.elim
  | succ nf ih =>
    intro x0 x1 x2 x3 x4 x5 S mc ms k n hkn hw H locs ls hW hl
    rw [w_L_joined_165] at hw
    refine lv_iload hx hb dL_joined_165 (lv_at hl 5 rfl) ?_
    refine lv_iload_n hx hb dL_joined_167 rfl (lv_at hl 3 rfl) ?_
    refine lv_icmp_ge (tgt := 238) hx hb dL_joined_168 (by decide) (fun c103 => ?_) (fun c103 => ?_)
    · replace hw := hw.1 c103
      exact t_L_joined_238 C0  post hret  x0 x4 S mc ms _ _ hkn hw _ _ _ hW (lv_sub hl [0, 4] rfl)
    · replace hw := hw.2 c103
      refine lv_iload hx hb dL_joined_171 (lv_at hl 4 rfl) ?_
      refine lv_if_eq (tgt := 238) hx hb dL_joined_173 (by decide) (fun c104 => ?_) (fun c104 => ?_)
      · replace hw := hw.1 c104
        exact t_L_joined_238 C0  post hret  x0 x4 S mc ms _ _ hkn hw _ _ _ hW (lv_sub hl [0, 4] rfl)
      · replace hw := hw.2 c104
        refine lv_aloadV_n hx hb dL_joined_176 rfl (lv_at hl 0 rfl) ?_
        refine lv_iconst (v := 0) hx hb dL_joined_177 (by decide) ?_
        refine lv_iconst (v := 3) hx hb dL_joined_178 (by decide) ?_
        obtain ⟨a105, rfl, hw⟩ := hw
        obtain ⟨h111, k107, n108, h109, h110, hw⟩ := hw
        refine h_goi C0 hW (va_runV (As := [.int 0, .int 3]) (rest := []) ⟨hx, hb, hml, ho, hts⟩ (k_X9_next (l := l) (u := u) (X := X) (sz := H.size) _ a105 0 3 S k107 n108 hw) (cwV 2 hts gL_joined_X9_next rfl rfl rfl (by decide +kernel) ⟨Nat.le_of_ble_eq_true rfl, Nat.le_of_ble_eq_true rfl⟩) ⟨h_blind, (h_recv C0 hW (ci := 10) rfl h111), (h_pre C0 hW [.ref a105, .int 0, .int 3])⟩ rfl rfl hl.1 rfl (lv_room (Nat.le_of_ble_eq_true rfl)) dL_joined_179 ⟨by show _ ≤ MC; omega, by show _ ≤ MS; omega⟩) (fun r106 S112 H locs h113 hW => ?_)
        replace hw := h113
        have hkn : (k + k107) + (mc - k107) ≤ MC ∧ (n + n108) + (ms - n108) ≤ MS := by omega
        refine lv_iconst (v := 1) hx hb dL_joined_182 (by decide) ?_
        refine lv_aloadV_n hx hb dL_joined_183 rfl (lv_at hl 1 rfl) ?_
        refine lv_iload_n hx hb dL_joined_184 rfl (lv_at hl 2 rfl) ?_
        refine lv_iload hx hb dL_joined_185 (lv_at hl 5 rfl) ?_
        refine lv_iadd hx hb dL_joined_187 ?_
        refine h_goi C0 hW (va_runS (As := [va_rf x1, .int (x2 + x5)]) (rest := [.int 1, .int r106]) ⟨hx, hb, hml, ho, hts⟩ (k_L_cell (l := l) (u := u) (X := X) (sz := H.size) _ x1 (x2 + x5) S112  hw) (va_cwS 2 hts gL_joined_L_cell rfl rfl rfl (by decide +kernel) ⟨Nat.le_of_ble_eq_true rfl, Nat.le_of_ble_eq_true rfl⟩) ⟨h_blind, (h_pre C0 hW [va_rf x1, .int (x2 + x5)])⟩ rfl rfl hl.1 rfl (lv_room (Nat.le_of_ble_eq_true rfl)) dL_joined_188 ⟨by show _ ≤ MC; omega, by show _ ≤ MS; omega⟩) (fun r114 S115 H locs h116 hW => ?_)
        obtain ⟨h117, hp⟩ := h116
        rw [h117] at hW
        replace hw := hp
        refine lv_iconst (v := 2) hx hb dL_joined_191 (by decide) ?_
        refine g_calls (As := [.int r114, .int 2]) (rest := [.int 1, .int r106]) ⟨hx, hb, hml, ho, hts⟩ hl.1 (k_L_low (l := l) _ r114 2 (by decide) hw) (va_cwS 2 hts gL_joined_L_low rfl rfl rfl (by decide +kernel) ⟨Nat.le_of_ble_eq_true rfl, Nat.le_of_ble_eq_true rfl⟩) (Nat.le_of_ble_eq_true rfl) dL_joined_192 rfl ⟨by show _ ≤ MC; omega, by show _ ≤ MS; omega⟩ (fun r118 hp => ?_)
        replace hw := hp
        refine lv_iadd hx hb dL_joined_195 ?_
        refine lv_icmp_ne (tgt := 229) hx hb dL_joined_196 (by decide) (fun c119 => ?_) (fun c119 => ?_)
        · replace hw := hw.1 c119
          refine lv_iconst (v := 0) hx hb dL_joined_229 (by decide) ?_
          refine lv_istore (lv' := [(4, .int 0), (0, .ref a105), (1, va_rf x1), (2, .int x2), (3, .int x3), (5, .int x5)]) hx hb dL_joined_230 hl (by decide) rfl (fun ls hl9 => ?_)
          replace hl := hl9
          obtain ⟨v120, ev120⟩ : ∃ y : Int32, y = x5 + 1 := ⟨_, rfl⟩
          replace hw := hw v120 ev120
          refine lv_iinc (v := v120) (lv' := [(5, .int v120), (4, .int 0), (0, .ref a105), (1, va_rf x1), (2, .int x2), (3, .int x3)]) hx hb dL_joined_232 hl (k := 5) rfl (by rw [ev120]; rfl) (by decide) rfl (fun ls hl9 => ?_)
          replace hl := hl9
          refine lv_goto (tgt := 165) hx hb dL_joined_235 (by decide) ?_
          exact ih (some a105) x1 x2 x3 0 v120 S112 (mc - k107) (ms - n108) _ _ hkn hw _ _ _ hW (lv_sub hl [2, 3, 4, 5, 1, 0] rfl)
        · replace hw := hw.2 c119
          refine lv_aload_n hx hb dL_joined_199 rfl (lv_at hl 0 rfl) ?_
          refine lv_iconst (v := 3) hx hb dL_joined_200 (by decide) ?_
          refine lv_iconst (v := 0) hx hb dL_joined_201 (by decide) ?_
          obtain ⟨h122, hw⟩ := hw
          refine h_goi C0 hW (va_runV (As := [.int 3, .int 0]) (rest := []) ⟨hx, hb, hml, ho, hts⟩ (k_X9_characterAt (l := l) (u := u) (X := X) (sz := H.size) _ a105 3 0 S112  hw) (cwV 2 hts gL_joined_X9_characterAt rfl rfl rfl (by decide +kernel) ⟨Nat.le_of_ble_eq_true rfl, Nat.le_of_ble_eq_true rfl⟩) ⟨h_blind, (h_recv C0 hW (ci := 10) rfl h122), (h_pre C0 hW [.ref a105, .int 3, .int 0])⟩ rfl rfl hl.1 rfl (lv_room (Nat.le_of_ble_eq_true rfl)) dL_joined_202 ⟨by show _ ≤ MC; omega, by show _ ≤ MS; omega⟩) (fun r121 S123 H locs h124 hW => ?_)
          obtain ⟨h125, hp⟩ := h124
          rw [h125] at hW
          replace hw := hp
          refine lv_bipush (v := 45) hx hb dL_joined_205 (by decide) ?_
          refine lv_aloadV_n hx hb dL_joined_207 rfl (lv_at hl 1 rfl) ?_
          refine lv_iload_n hx hb dL_joined_208 rfl (lv_at hl 2 rfl) ?_
          refine lv_iload hx hb dL_joined_209 (lv_at hl 5 rfl) ?_
          refine lv_iadd hx hb dL_joined_211 ?_
          refine h_goi C0 hW (va_runS (As := [va_rf x1, .int (x2 + x5)]) (rest := [.int 45, .int r121]) ⟨hx, hb, hml, ho, hts⟩ (k_L_cell (l := l) (u := u) (X := X) (sz := H.size) _ x1 (x2 + x5) S112  hw) (va_cwS 2 hts gL_joined_L_cell rfl rfl rfl (by decide +kernel) ⟨Nat.le_of_ble_eq_true rfl, Nat.le_of_ble_eq_true rfl⟩) ⟨h_blind, (h_pre C0 hW [va_rf x1, .int (x2 + x5)])⟩ rfl rfl hl.1 rfl (lv_room (Nat.le_of_ble_eq_true rfl)) dL_joined_212 ⟨by show _ ≤ MC; omega, by show _ ≤ MS; omega⟩) (fun r126 S127 H locs h128 hW => ?_)
          obtain ⟨h129, hp⟩ := h128
          rw [h129] at hW
          replace hw := hp
          refine lv_sipush (v := 200) hx hb dL_joined_215 (by decide) ?_
          refine g_calls (As := [.int r126, .int 200]) (rest := [.int 45, .int r121]) ⟨hx, hb, hml, ho, hts⟩ hl.1 (k_L_low (l := l) _ r126 200 (by decide) hw) (va_cwS 2 hts gL_joined_L_low rfl rfl rfl (by decide +kernel) ⟨Nat.le_of_ble_eq_true rfl, Nat.le_of_ble_eq_true rfl⟩) (Nat.le_of_ble_eq_true rfl) dL_joined_218 rfl ⟨by show _ ≤ MC; omega, by show _ ≤ MS; omega⟩ (fun r130 hp => ?_)
          replace hw := hp
          refine lv_iadd hx hb dL_joined_221 ?_
          refine lv_icmp_ne (tgt := 229) hx hb dL_joined_222 (by decide) (fun c131 => ?_) (fun c131 => ?_)
          · replace hw := hw.1 c131
            refine lv_iconst (v := 0) hx hb dL_joined_229 (by decide) ?_
            refine lv_istore (lv' := [(4, .int 0), (0, .ref a105), (1, va_rf x1), (2, .int x2), (3, .int x3), (5, .int x5)]) hx hb dL_joined_230 hl (by decide) rfl (fun ls hl9 => ?_)
            replace hl := hl9
            obtain ⟨v132, ev132⟩ : ∃ y : Int32, y = x5 + 1 := ⟨_, rfl⟩
            replace hw := hw v132 ev132
            refine lv_iinc (v := v132) (lv' := [(5, .int v132), (4, .int 0), (0, .ref a105), (1, va_rf x1), (2, .int x2), (3, .int x3)]) hx hb dL_joined_232 hl (k := 5) rfl (by rw [ev132]; rfl) (by decide) rfl (fun ls hl9 => ?_)
            replace hl := hl9
            refine lv_goto (tgt := 165) hx hb dL_joined_235 (by decide) ?_
            exact ih (some a105) x1 x2 x3 0 v132 S112 (mc - k107) (ms - n108) _ _ hkn hw _ _ _ hW (lv_sub hl [2, 3, 4, 5, 1, 0] rfl)
          · replace hw := hw.2 c131
            refine lv_iconst (v := 1) hx hb dL_joined_225 (by decide) ?_
            refine lv_goto (tgt := 230) hx hb dL_joined_226 (by decide) ?_
            refine lv_istore (lv' := [(4, .int 1), (0, .ref a105), (1, va_rf x1), (2, .int x2), (3, .int x3), (5, .int x5)]) hx hb dL_joined_230 hl (by decide) rfl (fun ls hl9 => ?_)
            replace hl := hl9
            obtain ⟨v133, ev133⟩ : ∃ y : Int32, y = x5 + 1 := ⟨_, rfl⟩
            replace hw := hw v133 ev133
            refine lv_iinc (v := v133) (lv' := [(5, .int v133), (4, .int 1), (0, .ref a105), (1, va_rf x1), (2, .int x2), (3, .int x3)]) hx hb dL_joined_232 hl (k := 5) rfl (by rw [ev133]; rfl) (by decide) rfl (fun ls hl9 => ?_)
            replace hl := hl9
            refine lv_goto (tgt := 165) hx hb dL_joined_235 (by decide) ?_
            exact ih (some a105) x1 x2 x3 1 v133 S112 (mc - k107) (ms - n108) _ _ hkn hw _ _ _ hW (lv_sub hl [2, 3, 4, 5, 1, 0] rfl)
set_option maxHeartbeats 4000000 in
set_option maxRecDepth 100000 in
theorem t_L_joined_41 (C0 : hX p s m args c cL_joined 6 RL wsL_joined D (gt u.2.1) A u.1 u.2.2)  (post : Int32 → hS → Prop) (hret : ∀ (r : Int32) (S' : hS) (pc : Nat) (lv : List (Nat × Value)) (k n : Nat), k ≤ MC → n ≤ MS → post r S' → narrow .boolean (.int r) = .int r → decode cL_joined pc = .ok (.ireturn, 1) → gG p l e (rm_L_joined MC MS) s m args below meth c Q D A 6 k n (hC X S') pc lv [.int r])  : ∀ (nf : Nat) (x0 : Option Nat) (x1 : Option Nat) (x2 : Int32) (x3 : Int32) (x4 : Int32) (x5 : Int32) (S : hS) (mc ms k n : Nat), k + mc ≤ MC ∧ n + ms ≤ MS → w_L_joined_41 u post   nf x0 x1 x2 x3 x4 x5 S mc ms → gG p l e (rm_L_joined MC MS) s m args below meth c Q D A 6 k n (hC X S) 41 [(0, va_rf x0), (1, va_rf x1), (2, .int x2), (3, .int x3), (4, .int x4), (5, .int x5)] [] := by
  obtain ⟨⟨hx, hb, hml, ho, hts, hK, hA⟩, hR⟩ := id C0
  intro nf
  induction nf with
  | zero => intro x0 x1 x2 x3 x4 x5 S mc ms k n hkn hw; exact hw.elim
  | succ nf ih =>
    intro x0 x1 x2 x3 x4 x5 S mc ms k n hkn hw H locs ls hW hl
    rw [w_L_joined_41] at hw
    refine lv_iload hx hb dL_joined_41 (lv_at hl 5 rfl) ?_
    refine lv_iload_n hx hb dL_joined_43 rfl (lv_at hl 3 rfl) ?_
    refine lv_icmp_ge (tgt := 125) hx hb dL_joined_44 (by decide) (fun c28 => ?_) (fun c28 => ?_)
    · replace hw := hw.1 c28
      refine lv_iload hx hb dL_joined_125 (lv_at hl 4 rfl) ?_
      refine lv_if_eq (tgt := 159) hx hb dL_joined_127 (by decide) (fun c29 => ?_) (fun c29 => ?_)
      · replace hw := hw.1 c29
        refine lv_iconst (v := 0) hx hb dL_joined_159 (by decide) ?_
        refine lv_istore (lv' := [(4, .int 0), (0, va_rf x0), (1, va_rf x1), (2, .int x2), (3, .int x3), (5, .int x5)]) hx hb dL_joined_160 hl (by decide) rfl (fun ls hl9 => ?_)
        replace hl := hl9
        refine lv_iconst (v := 0) hx hb dL_joined_162 (by decide) ?_
        refine lv_istore (lv' := [(5, .int 0), (4, .int 0), (0, va_rf x0), (1, va_rf x1), (2, .int x2), (3, .int x3)]) hx hb dL_joined_163 hl (by decide) rfl (fun ls hl9 => ?_)
        replace hl := hl9
        obtain ⟨n30, hw⟩ := hw
        exact t_L_joined_165 C0  post hret  n30 x0 x1 x2 x3 0 0 S mc ms _ _ hkn hw _ _ _ hW (lv_sub hl [2, 3, 4, 5, 1, 0] rfl)
      · replace hw := hw.2 c29
        refine lv_aloadV_n hx hb dL_joined_130 rfl (lv_at hl 0 rfl) ?_
        refine lv_iconst (v := 1) hx hb dL_joined_131 (by decide) ?_
        refine lv_iconst (v := 2) hx hb dL_joined_132 (by decide) ?_
        obtain ⟨a31, rfl, hw⟩ := hw
        obtain ⟨h37, k33, n34, h35, h36, hw⟩ := hw
        refine h_goi C0 hW (va_runV (As := [.int 1, .int 2]) (rest := []) ⟨hx, hb, hml, ho, hts⟩ (k_X9_joined (l := l) (u := u) (X := X) (sz := H.size) _ a31 1 2 S k33 n34 hw) (cwV 2 hts gL_joined_X9_joined rfl rfl rfl (by decide +kernel) ⟨Nat.le_of_ble_eq_true rfl, Nat.le_of_ble_eq_true rfl⟩) ⟨h_blind, (h_recv C0 hW (ci := 10) rfl h37), (h_pre C0 hW [.ref a31, .int 1, .int 2])⟩ rfl rfl hl.1 rfl (lv_room (Nat.le_of_ble_eq_true rfl)) dL_joined_133 ⟨by show _ ≤ MC; omega, by show _ ≤ MS; omega⟩) (fun r32 S38 H locs h39 hW => ?_)
        replace hw := h39
        have hkn : (k + k33) + (mc - k33) ≤ MC ∧ (n + n34) + (ms - n34) ≤ MS := by omega
        refine lv_aload_n hx hb dL_joined_136 rfl (lv_at hl 0 rfl) ?_
        refine lv_iconst (v := 1) hx hb dL_joined_137 (by decide) ?_
        obtain ⟨h41, hw⟩ := hw
        refine h_goi C0 hW (va_runV (As := [.int 1]) (rest := [.int r32]) ⟨hx, hb, hml, ho, hts⟩ (k_X9_joinedLength (l := l) (u := u) (X := X) (sz := H.size) _ a31 1 S38  hw) (cwV 1 hts gL_joined_X9_joinedLength rfl rfl rfl (by decide +kernel) ⟨Nat.le_of_ble_eq_true rfl, Nat.le_of_ble_eq_true rfl⟩) ⟨h_blind, (h_recv C0 hW (ci := 10) rfl h41), (h_pre C0 hW [.ref a31, .int 1])⟩ rfl rfl hl.1 rfl (lv_room (Nat.le_of_ble_eq_true rfl)) dL_joined_138 ⟨by show _ ≤ MC; omega, by show _ ≤ MS; omega⟩) (fun r40 S42 H locs h43 hW => ?_)
        obtain ⟨h44, hp⟩ := h43
        rw [h44] at hW
        replace hw := hp
        refine lv_icmp_ne (tgt := 159) hx hb dL_joined_141 (by decide) (fun c45 => ?_) (fun c45 => ?_)
        · replace hw := hw.1 c45
          refine lv_iconst (v := 0) hx hb dL_joined_159 (by decide) ?_
          refine lv_istore (lv' := [(4, .int 0), (0, .ref a31), (1, va_rf x1), (2, .int x2), (3, .int x3), (5, .int x5)]) hx hb dL_joined_160 hl (by decide) rfl (fun ls hl9 => ?_)
          replace hl := hl9
          refine lv_iconst (v := 0) hx hb dL_joined_162 (by decide) ?_
          refine lv_istore (lv' := [(5, .int 0), (4, .int 0), (0, .ref a31), (1, va_rf x1), (2, .int x2), (3, .int x3)]) hx hb dL_joined_163 hl (by decide) rfl (fun ls hl9 => ?_)
          replace hl := hl9
          obtain ⟨n46, hw⟩ := hw
          exact t_L_joined_165 C0  post hret  n46 (some a31) x1 x2 x3 0 0 S38 (mc - k33) (ms - n34) _ _ hkn hw _ _ _ hW (lv_sub hl [2, 3, 4, 5, 1, 0] rfl)
        · replace hw := hw.2 c45
          refine lv_aload_n hx hb dL_joined_144 rfl (lv_at hl 0 rfl) ?_
          refine lv_iconst (v := 0) hx hb dL_joined_145 (by decide) ?_
          refine lv_iconst (v := 2) hx hb dL_joined_146 (by decide) ?_
          refine lv_iconst (v := 0) hx hb dL_joined_147 (by decide) ?_
          obtain ⟨h52, k48, n49, h50, h51, hw⟩ := hw
          refine h_goi C0 hW (va_runV (As := [.int 0, .int 2, .int 0]) (rest := []) ⟨hx, hb, hml, ho, hts⟩ (k_X9_tokenizeBy (l := l) (u := u) (X := X) (sz := H.size) _ a31 0 2 0 S38 k48 n49 hw) (cwV 3 hts gL_joined_X9_tokenizeBy rfl rfl rfl (by decide +kernel) ⟨Nat.le_of_ble_eq_true rfl, Nat.le_of_ble_eq_true rfl⟩) ⟨h_blind, (h_recv C0 hW (ci := 10) rfl h52), (h_pre C0 hW [.ref a31, .int 0, .int 2, .int 0])⟩ rfl rfl hl.1 rfl (lv_room (Nat.le_of_ble_eq_true rfl)) dL_joined_148 ⟨by show _ ≤ MC; omega, by show _ ≤ MS; omega⟩) (fun r47 S53 H locs h54 hW => ?_)
          replace hw := h54
          have hkn : ((k + k33) + k48) + ((mc - k33) - k48) ≤ MC ∧ ((n + n34) + n49) + ((ms - n34) - n49) ≤ MS := by omega
          refine lv_iload_n hx hb dL_joined_151 rfl (lv_at hl 3 rfl) ?_
          refine lv_icmp_ne (tgt := 159) hx hb dL_joined_152 (by decide) (fun c55 => ?_) (fun c55 => ?_)
          · replace hw := hw.1 c55
            refine lv_iconst (v := 0) hx hb dL_joined_159 (by decide) ?_
            refine lv_istore (lv' := [(4, .int 0), (0, .ref a31), (1, va_rf x1), (2, .int x2), (3, .int x3), (5, .int x5)]) hx hb dL_joined_160 hl (by decide) rfl (fun ls hl9 => ?_)
            replace hl := hl9
            refine lv_iconst (v := 0) hx hb dL_joined_162 (by decide) ?_
            refine lv_istore (lv' := [(5, .int 0), (4, .int 0), (0, .ref a31), (1, va_rf x1), (2, .int x2), (3, .int x3)]) hx hb dL_joined_163 hl (by decide) rfl (fun ls hl9 => ?_)
            replace hl := hl9
            obtain ⟨n56, hw⟩ := hw
            exact t_L_joined_165 C0  post hret  n56 (some a31) x1 x2 x3 0 0 S53 ((mc - k33) - k48) ((ms - n34) - n49) _ _ hkn hw _ _ _ hW (lv_sub hl [2, 3, 4, 5, 1, 0] rfl)
          · replace hw := hw.2 c55
            refine lv_iconst (v := 1) hx hb dL_joined_155 (by decide) ?_
            refine lv_goto (tgt := 160) hx hb dL_joined_156 (by decide) ?_
            refine lv_istore (lv' := [(4, .int 1), (0, .ref a31), (1, va_rf x1), (2, .int x2), (3, .int x3), (5, .int x5)]) hx hb dL_joined_160 hl (by decide) rfl (fun ls hl9 => ?_)
            replace hl := hl9
            refine lv_iconst (v := 0) hx hb dL_joined_162 (by decide) ?_
            refine lv_istore (lv' := [(5, .int 0), (4, .int 1), (0, .ref a31), (1, va_rf x1), (2, .int x2), (3, .int x3)]) hx hb dL_joined_163 hl (by decide) rfl (fun ls hl9 => ?_)
            replace hl := hl9
            obtain ⟨n57, hw⟩ := hw
            exact t_L_joined_165 C0  post hret  n57 (some a31) x1 x2 x3 1 0 S53 ((mc - k33) - k48) ((ms - n34) - n49) _ _ hkn hw _ _ _ hW (lv_sub hl [2, 3, 4, 5, 1, 0] rfl)
    · replace hw := hw.2 c28
      refine lv_iload hx hb dL_joined_47 (lv_at hl 4 rfl) ?_
      refine lv_if_eq (tgt := 116) hx hb dL_joined_49 (by decide) (fun c58 => ?_) (fun c58 => ?_)
      · replace hw := hw.1 c58
        refine lv_iconst (v := 0) hx hb dL_joined_116 (by decide) ?_
        refine lv_istore (lv' := [(4, .int 0), (0, va_rf x0), (1, va_rf x1), (2, .int x2), (3, .int x3), (5, .int x5)]) hx hb dL_joined_117 hl (by decide) rfl (fun ls hl9 => ?_)
        replace hl := hl9
        obtain ⟨v59, ev59⟩ : ∃ y : Int32, y = x5 + 1 := ⟨_, rfl⟩
        replace hw := hw v59 ev59
        refine lv_iinc (v := v59) (lv' := [(5, .int v59), (4, .int 0), (0, va_rf x0), (1, va_rf x1), (2, .int x2), (3, .int x3)]) hx hb dL_joined_119 hl (k := 5) rfl (by rw [ev59]; rfl) (by decide) rfl (fun ls hl9 => ?_)
        replace hl := hl9
        refine lv_goto (tgt := 41) hx hb dL_joined_122 (by decide) ?_
        exact ih x0 x1 x2 x3 0 v59 S mc ms _ _ hkn hw _ _ _ hW (lv_sub hl [2, 3, 4, 5, 1, 0] rfl)
      · replace hw := hw.2 c58
        refine lv_aloadV_n hx hb dL_joined_52 rfl (lv_at hl 0 rfl) ?_
        refine lv_iconst (v := 1) hx hb dL_joined_53 (by decide) ?_
        refine lv_bipush (v := 45) hx hb dL_joined_54 (by decide) ?_
        refine lv_aloadV_n hx hb dL_joined_56 rfl (lv_at hl 1 rfl) ?_
        refine lv_iload_n hx hb dL_joined_57 rfl (lv_at hl 2 rfl) ?_
        refine lv_iload hx hb dL_joined_58 (lv_at hl 5 rfl) ?_
        refine lv_iadd hx hb dL_joined_60 ?_
        refine h_goi C0 hW (va_runS (As := [va_rf x1, .int (x2 + x5)]) (rest := [.int 45, .int 1, va_rf x0]) ⟨hx, hb, hml, ho, hts⟩ (k_L_cell (l := l) (u := u) (X := X) (sz := H.size) _ x1 (x2 + x5) S  hw) (va_cwS 2 hts gL_joined_L_cell rfl rfl rfl (by decide +kernel) ⟨Nat.le_of_ble_eq_true rfl, Nat.le_of_ble_eq_true rfl⟩) ⟨h_blind, (h_pre C0 hW [va_rf x1, .int (x2 + x5)])⟩ rfl rfl hl.1 rfl (lv_room (by simp [va_rf_cat, va_c_ref, va_c_int, va_c_null])) dL_joined_61 ⟨by show _ ≤ MC; omega, by show _ ≤ MS; omega⟩) (fun r60 S61 H locs h62 hW => ?_)
        obtain ⟨h63, hp⟩ := h62
        rw [h63] at hW
        replace hw := hp
        refine lv_sipush (v := 200) hx hb dL_joined_64 (by decide) ?_
        refine g_calls (As := [.int r60, .int 200]) (rest := [.int 45, .int 1, va_rf x0]) ⟨hx, hb, hml, ho, hts⟩ hl.1 (k_L_low (l := l) _ r60 200 (by decide) hw) (va_cwS 2 hts gL_joined_L_low rfl rfl rfl (by decide +kernel) ⟨Nat.le_of_ble_eq_true rfl, Nat.le_of_ble_eq_true rfl⟩) (by simp [va_rf_cat, va_c_ref, va_c_int, va_c_null]) dL_joined_67 rfl ⟨by show _ ≤ MC; omega, by show _ ≤ MS; omega⟩ (fun r64 hp => ?_)
        replace hw := hp
        refine lv_iadd hx hb dL_joined_70 ?_
        obtain ⟨k66, n67, h68, h69, hw⟩ := hw
        refine h_goi C0 hW (va_runS (As := [va_rf x0, .int 1, .int (45 + r64)]) (rest := []) ⟨hx, hb, hml, ho, hts⟩ (k_L_one (l := l) (u := u) (X := X) (sz := H.size) _ x0 1 (45 + r64) S k66 n67 hw) (va_cwS 3 hts gL_joined_L_one rfl rfl rfl (by decide +kernel) ⟨Nat.le_of_ble_eq_true rfl, Nat.le_of_ble_eq_true rfl⟩) ⟨h_blind, (h_pre C0 hW [va_rf x0, .int 1, .int (45 + r64)])⟩ rfl rfl hl.1 rfl (lv_room (Nat.le_of_ble_eq_true rfl)) dL_joined_71 ⟨by show _ ≤ MC; omega, by show _ ≤ MS; omega⟩) (fun r65 S70 H locs h71 hW => ?_)
        replace hw := h71
        have hkn : (k + k66) + (mc - k66) ≤ MC ∧ (n + n67) + (ms - n67) ≤ MS := by omega
        refine lv_if_eq (tgt := 116) hx hb dL_joined_74 (by decide) (fun c72 => ?_) (fun c72 => ?_)
        · replace hw := hw.1 c72
          refine lv_iconst (v := 0) hx hb dL_joined_116 (by decide) ?_
          refine lv_istore (lv' := [(4, .int 0), (0, va_rf x0), (1, va_rf x1), (2, .int x2), (3, .int x3), (5, .int x5)]) hx hb dL_joined_117 hl (by decide) rfl (fun ls hl9 => ?_)
          replace hl := hl9
          obtain ⟨v73, ev73⟩ : ∃ y : Int32, y = x5 + 1 := ⟨_, rfl⟩
          replace hw := hw v73 ev73
          refine lv_iinc (v := v73) (lv' := [(5, .int v73), (4, .int 0), (0, va_rf x0), (1, va_rf x1), (2, .int x2), (3, .int x3)]) hx hb dL_joined_119 hl (k := 5) rfl (by rw [ev73]; rfl) (by decide) rfl (fun ls hl9 => ?_)
          replace hl := hl9
          refine lv_goto (tgt := 41) hx hb dL_joined_122 (by decide) ?_
          exact ih x0 x1 x2 x3 0 v73 S70 (mc - k66) (ms - n67) _ _ hkn hw _ _ _ hW (lv_sub hl [2, 3, 4, 5, 1, 0] rfl)
        · replace hw := hw.2 c72
          refine lv_aloadV_n hx hb dL_joined_77 rfl (lv_at hl 1 rfl) ?_
          refine lv_iload_n hx hb dL_joined_78 rfl (lv_at hl 2 rfl) ?_
          refine lv_iload hx hb dL_joined_79 (lv_at hl 5 rfl) ?_
          refine lv_iadd hx hb dL_joined_81 ?_
          refine h_goi C0 hW (va_runS (As := [va_rf x1, .int (x2 + x5)]) (rest := []) ⟨hx, hb, hml, ho, hts⟩ (k_L_cell (l := l) (u := u) (X := X) (sz := H.size) _ x1 (x2 + x5) S70  hw) (va_cwS 2 hts gL_joined_L_cell rfl rfl rfl (by decide +kernel) ⟨Nat.le_of_ble_eq_true rfl, Nat.le_of_ble_eq_true rfl⟩) ⟨h_blind, (h_pre C0 hW [va_rf x1, .int (x2 + x5)])⟩ rfl rfl hl.1 rfl (lv_room (Nat.le_of_ble_eq_true rfl)) dL_joined_82 ⟨by show _ ≤ MC; omega, by show _ ≤ MS; omega⟩) (fun r74 S75 H locs h76 hW => ?_)
          obtain ⟨h77, hp⟩ := h76
          rw [h77] at hW
          replace hw := hp
          refine lv_iconst (v := 2) hx hb dL_joined_85 (by decide) ?_
          refine g_calls (As := [.int r74, .int 2]) (rest := []) ⟨hx, hb, hml, ho, hts⟩ hl.1 (k_L_low (l := l) _ r74 2 (by decide) hw) (va_cwS 2 hts gL_joined_L_low rfl rfl rfl (by decide +kernel) ⟨Nat.le_of_ble_eq_true rfl, Nat.le_of_ble_eq_true rfl⟩) (Nat.le_of_ble_eq_true rfl) dL_joined_86 rfl ⟨by show _ ≤ MC; omega, by show _ ≤ MS; omega⟩ (fun r78 hp => ?_)
          replace hw := hp
          refine lv_if_eq (tgt := 103) hx hb dL_joined_89 (by decide) (fun c79 => ?_) (fun c79 => ?_)
          · replace hw := hw.1 c79
            exact t_L_joined_103 C0  post hret (w_L_joined_41 u post   nf) ih x0 x1 x2 x3 x5 S70 (mc - k66) (ms - n67) _ _ hkn hw _ _ _ hW (lv_sub hl [0, 1, 2, 3, 5] rfl)
          · replace hw := hw.2 c79
            refine lv_aloadV_n hx hb dL_joined_92 rfl (lv_at hl 0 rfl) ?_
            refine lv_iconst (v := 1) hx hb dL_joined_93 (by decide) ?_
            refine lv_bipush (v := 65) hx hb dL_joined_94 (by decide) ?_
            obtain ⟨a80, rfl, hw⟩ := hw
            obtain ⟨h86, k82, n83, h84, h85, hw⟩ := hw
            refine h_goi C0 hW (va_runV (As := [.int 1, .int 65]) (rest := []) ⟨hx, hb, hml, ho, hts⟩ (k_X9_append (l := l) (u := u) (X := X) (sz := H.size) _ a80 1 65 S70 k82 n83 hw) (cwV 2 hts gL_joined_X9_append rfl rfl rfl (by decide +kernel) ⟨Nat.le_of_ble_eq_true rfl, Nat.le_of_ble_eq_true rfl⟩) ⟨h_blind, (h_recv C0 hW (ci := 10) rfl h86), (h_pre C0 hW [.ref a80, .int 1, .int 65])⟩ rfl rfl hl.1 rfl (lv_room (Nat.le_of_ble_eq_true rfl)) dL_joined_96 ⟨by show _ ≤ MC; omega, by show _ ≤ MS; omega⟩) (fun r81 S87 H locs h88 hW => ?_)
            replace hw := h88
            have hkn : ((k + k66) + k82) + ((mc - k66) - k82) ≤ MC ∧ ((n + n67) + n83) + ((ms - n67) - n83) ≤ MS := by omega
            refine lv_iconst (v := 2) hx hb dL_joined_99 (by decide) ?_
            refine lv_icmp_ne (tgt := 116) hx hb dL_joined_100 (by decide) (fun c89 => ?_) (fun c89 => ?_)
            · replace hw := hw.1 c89
              refine lv_iconst (v := 0) hx hb dL_joined_116 (by decide) ?_
              refine lv_istore (lv' := [(4, .int 0), (0, .ref a80), (1, va_rf x1), (2, .int x2), (3, .int x3), (5, .int x5)]) hx hb dL_joined_117 hl (by decide) rfl (fun ls hl9 => ?_)
              replace hl := hl9
              obtain ⟨v90, ev90⟩ : ∃ y : Int32, y = x5 + 1 := ⟨_, rfl⟩
              replace hw := hw v90 ev90
              refine lv_iinc (v := v90) (lv' := [(5, .int v90), (4, .int 0), (0, .ref a80), (1, va_rf x1), (2, .int x2), (3, .int x3)]) hx hb dL_joined_119 hl (k := 5) rfl (by rw [ev90]; rfl) (by decide) rfl (fun ls hl9 => ?_)
              replace hl := hl9
              refine lv_goto (tgt := 41) hx hb dL_joined_122 (by decide) ?_
              exact ih (some a80) x1 x2 x3 0 v90 S87 ((mc - k66) - k82) ((ms - n67) - n83) _ _ hkn hw _ _ _ hW (lv_sub hl [2, 3, 4, 5, 1, 0] rfl)
            · replace hw := hw.2 c89
              exact t_L_joined_103 C0  post hret (w_L_joined_41 u post   nf) ih (some a80) x1 x2 x3 x5 S87 ((mc - k66) - k82) ((ms - n67) - n83) _ _ hkn hw _ _ _ hW (lv_sub hl [0, 1, 2, 3, 5] rfl)
set_option maxHeartbeats 4000000 in
set_option maxRecDepth 100000 in
theorem t_L_joined_0 (C0 : hX p s m args c cL_joined 6 RL wsL_joined D (gt u.2.1) A u.1 u.2.2)  (post : Int32 → hS → Prop) (hret : ∀ (r : Int32) (S' : hS) (pc : Nat) (lv : List (Nat × Value)) (k n : Nat), k ≤ MC → n ≤ MS → post r S' → narrow .boolean (.int r) = .int r → decode cL_joined pc = .ok (.ireturn, 1) → gG p l e (rm_L_joined MC MS) s m args below meth c Q D A 6 k n (hC X S') pc lv [.int r])  : ∀ (p1 : Option Nat) (p2 : Option Nat) (z3 : Int32) (S : hS) (mc ms k n : Nat), k + mc ≤ MC ∧ n + ms ≤ MS → w_L_joined u post   p1 p2 z3 S mc ms → gG p l e (rm_L_joined MC MS) s m args below meth c Q D A 6 k n (hC X S) 0 [(0, va_rf p1), (1, va_rf p2), (2, .int z3)] [] := by
  obtain ⟨⟨hx, hb, hml, ho, hts, hK, hA⟩, hR⟩ := id C0
  intro p1 p2 z3 S mc ms k n hkn hw H locs ls hW hl
  rw [w_L_joined] at hw
  refine lv_iconst (v := 1) hx hb dL_joined_0 (by decide) ?_
  refine lv_aloadV_n hx hb dL_joined_1 rfl (lv_at hl 1 rfl) ?_
  refine lv_iload_n hx hb dL_joined_2 rfl (lv_at hl 2 rfl) ?_
  refine h_goi C0 hW (va_runS (As := [va_rf p2, .int z3]) (rest := [.int 1]) ⟨hx, hb, hml, ho, hts⟩ (k_L_cell (l := l) (u := u) (X := X) (sz := H.size) _ p2 z3 S  hw) (va_cwS 2 hts gL_joined_L_cell rfl rfl rfl (by decide +kernel) ⟨Nat.le_of_ble_eq_true rfl, Nat.le_of_ble_eq_true rfl⟩) ⟨h_blind, (h_pre C0 hW [va_rf p2, .int z3])⟩ rfl rfl hl.1 rfl (lv_room (Nat.le_of_ble_eq_true rfl)) dL_joined_3 ⟨by show _ ≤ MC; omega, by show _ ≤ MS; omega⟩) (fun r1 S2 H locs h3 hW => ?_)
  obtain ⟨h4, hp⟩ := h3
  rw [h4] at hW
  replace hw := hp
  refine lv_iconst (v := 5) hx hb dL_joined_6 (by decide) ?_
  refine g_calls (As := [.int r1, .int 5]) (rest := [.int 1]) ⟨hx, hb, hml, ho, hts⟩ hl.1 (k_L_low (l := l) _ r1 5 (by decide) hw) (va_cwS 2 hts gL_joined_L_low rfl rfl rfl (by decide +kernel) ⟨Nat.le_of_ble_eq_true rfl, Nat.le_of_ble_eq_true rfl⟩) (Nat.le_of_ble_eq_true rfl) dL_joined_7 rfl ⟨by show _ ≤ MC; omega, by show _ ≤ MS; omega⟩ (fun r5 hp => ?_)
  replace hw := hp
  refine lv_iadd hx hb dL_joined_10 ?_
  refine lv_topi (fun v6 ev6 => ?_)
  replace hw := hw v6 ev6
  refine lv_istore_n (lv' := [(3, .int v6), (0, va_rf p1), (1, va_rf p2), (2, .int z3)]) hx hb dL_joined_11 rfl hl (by decide) rfl (fun ls hl9 => ?_)
  replace hl := hl9
  refine lv_aloadV_n hx hb dL_joined_12 rfl (lv_at hl 1 rfl) ?_
  refine lv_iconst (v := 0) hx hb dL_joined_13 (by decide) ?_
  refine lv_bipush (v := 44) hx hb dL_joined_14 (by decide) ?_
  obtain ⟨k8, n9, h10, h11, hw⟩ := hw
  refine h_goi C0 hW (va_runS (As := [va_rf p1, .int 0, .int 44]) (rest := []) ⟨hx, hb, hml, ho, hts⟩ (k_L_one (l := l) (u := u) (X := X) (sz := H.size) _ p1 0 44 S k8 n9 hw) (va_cwS 3 hts gL_joined_L_one rfl rfl rfl (by decide +kernel) ⟨Nat.le_of_ble_eq_true rfl, Nat.le_of_ble_eq_true rfl⟩) ⟨h_blind, (h_pre C0 hW [va_rf p1, .int 0, .int 44])⟩ rfl rfl hl.1 rfl (lv_room (Nat.le_of_ble_eq_true rfl)) dL_joined_16 ⟨by show _ ≤ MC; omega, by show _ ≤ MS; omega⟩) (fun r7 S12 H locs h13 hW => ?_)
  replace hw := h13
  have hkn : (k + k8) + (mc - k8) ≤ MC ∧ (n + n9) + (ms - n9) ≤ MS := by omega
  refine lv_if_eq (tgt := 35) hx hb dL_joined_19 (by decide) (fun c14 => ?_) (fun c14 => ?_)
  · replace hw := hw.1 c14
    refine lv_iconst (v := 0) hx hb dL_joined_35 (by decide) ?_
    refine lv_istore (lv' := [(4, .int 0), (3, .int v6), (0, va_rf p1), (1, va_rf p2), (2, .int z3)]) hx hb dL_joined_36 hl (by decide) rfl (fun ls hl9 => ?_)
    replace hl := hl9
    refine lv_iconst (v := 0) hx hb dL_joined_38 (by decide) ?_
    refine lv_istore (lv' := [(5, .int 0), (4, .int 0), (3, .int v6), (0, va_rf p1), (1, va_rf p2), (2, .int z3)]) hx hb dL_joined_39 hl (by decide) rfl (fun ls hl9 => ?_)
    replace hl := hl9
    obtain ⟨n15, hw⟩ := hw
    exact t_L_joined_41 C0  post hret  n15 p1 p2 z3 v6 0 0 S12 (mc - k8) (ms - n9) _ _ hkn hw _ _ _ hW (lv_sub hl [3, 4, 5, 2, 1, 0] rfl)
  · replace hw := hw.2 c14
    refine lv_aloadV_n hx hb dL_joined_22 rfl (lv_at hl 1 rfl) ?_
    refine lv_iconst (v := 1) hx hb dL_joined_23 (by decide) ?_
    refine lv_iconst (v := 0) hx hb dL_joined_24 (by decide) ?_
    obtain ⟨a16, rfl, hw⟩ := hw
    obtain ⟨h22, k18, n19, h20, h21, hw⟩ := hw
    refine h_goi C0 hW (va_runV (As := [.int 1, .int 0]) (rest := []) ⟨hx, hb, hml, ho, hts⟩ (k_X9_join (l := l) (u := u) (X := X) (sz := H.size) _ a16 1 0 S12 k18 n19 hw) (cwV 2 hts gL_joined_X9_join rfl rfl rfl (by decide +kernel) ⟨Nat.le_of_ble_eq_true rfl, Nat.le_of_ble_eq_true rfl⟩) ⟨h_blind, (h_recv C0 hW (ci := 10) rfl h22), (h_pre C0 hW [.ref a16, .int 1, .int 0])⟩ rfl rfl hl.1 rfl (lv_room (Nat.le_of_ble_eq_true rfl)) dL_joined_25 ⟨by show _ ≤ MC; omega, by show _ ≤ MS; omega⟩) (fun r17 S23 H locs h24 hW => ?_)
    replace hw := h24
    have hkn : ((k + k8) + k18) + ((mc - k8) - k18) ≤ MC ∧ ((n + n9) + n19) + ((ms - n9) - n19) ≤ MS := by omega
    refine lv_if_ne (tgt := 35) hx hb dL_joined_28 (by decide) (fun c25 => ?_) (fun c25 => ?_)
    · replace hw := hw.1 c25
      refine lv_iconst (v := 0) hx hb dL_joined_35 (by decide) ?_
      refine lv_istore (lv' := [(4, .int 0), (3, .int v6), (0, .ref a16), (1, va_rf p2), (2, .int z3)]) hx hb dL_joined_36 hl (by decide) rfl (fun ls hl9 => ?_)
      replace hl := hl9
      refine lv_iconst (v := 0) hx hb dL_joined_38 (by decide) ?_
      refine lv_istore (lv' := [(5, .int 0), (4, .int 0), (3, .int v6), (0, .ref a16), (1, va_rf p2), (2, .int z3)]) hx hb dL_joined_39 hl (by decide) rfl (fun ls hl9 => ?_)
      replace hl := hl9
      obtain ⟨n26, hw⟩ := hw
      exact t_L_joined_41 C0  post hret  n26 (some a16) p2 z3 v6 0 0 S23 ((mc - k8) - k18) ((ms - n9) - n19) _ _ hkn hw _ _ _ hW (lv_sub hl [3, 4, 5, 2, 1, 0] rfl)
    · replace hw := hw.2 c25
      refine lv_iconst (v := 1) hx hb dL_joined_31 (by decide) ?_
      refine lv_goto (tgt := 36) hx hb dL_joined_32 (by decide) ?_
      refine lv_istore (lv' := [(4, .int 1), (3, .int v6), (0, .ref a16), (1, va_rf p2), (2, .int z3)]) hx hb dL_joined_36 hl (by decide) rfl (fun ls hl9 => ?_)
      replace hl := hl9
      refine lv_iconst (v := 0) hx hb dL_joined_38 (by decide) ?_
      refine lv_istore (lv' := [(5, .int 0), (4, .int 1), (3, .int v6), (0, .ref a16), (1, va_rf p2), (2, .int z3)]) hx hb dL_joined_39 hl (by decide) rfl (fun ls hl9 => ?_)
      replace hl := hl9
      obtain ⟨n27, hw⟩ := hw
      exact t_L_joined_41 C0  post hret  n27 (some a16) p2 z3 v6 1 0 S23 ((mc - k8) - k18) ((ms - n9) - n19) _ _ hkn hw _ _ _ hW (lv_sub hl [3, 4, 5, 2, 1, 0] rfl)
set_option maxHeartbeats 4000000 in
set_option maxRecDepth 100000 in
theorem k_L_joined {l : Launch} {D : va_G} {u : hU} {X : va_W} {sz : Nat} (post : Int32 → hS → Prop) (p1 : Option Nat) (p2 : Option Nat) (z3 : Int32) (S : hS) (mc ms : Nat) (hw : w_L_joined u post  p1 p2 z3 S mc ms) : hMi l yL_joined wsL_joined (rm_L_joined mc ms) D (gt u.2.1) u.1 u.2.2 sz X S [va_rf p1, va_rf p2, .int z3] post mc ms := by
  refine hMi_of (cc := cL_joined) (nL := 6) (ty := .boolean) (own := RL) (by decide) rfl rfl (by cases p1 <;> cases p2 <;> exact Nat.le_of_ble_eq_true rfl) ?_
  intro p e s m args below meth c A Q C0 hin hret
  have hfin := t_L_joined_0 C0  post hret p1 p2 z3 S mc ms 0 0 ⟨by omega, by omega⟩ hw
  intro H locs ls hW hl
  refine hfin H locs ls hW ?_
  cases p1 <;> cases p2 <;> exact hl
theorem in_L_law_RX9 : ∀ w ∈ wsX90, w ∈ wsL_law := fun w hw9 => List.mem_append_left _ (List.mem_append_left _ (List.mem_append_left _ (List.mem_append_left _ (List.mem_append_left _ (List.mem_append_left _ (List.mem_append_left _ (List.mem_append_left _ (List.mem_append_left _ (List.mem_append_left _ (List.mem_append_left _ (List.mem_append_right _ hw9)))))))))))
set_option maxHeartbeats 4000000 in
set_option maxRecDepth 100000 in
theorem t_L_law_103 (C0 : hX p s m args c cL_law 4 RL wsL_law D (gt u.2.1) A u.1 u.2.2)  (post : Int32 → hS → Prop) (hret : ∀ (r : Int32) (S' : hS) (pc : Nat) (lv : List (Nat × Value)) (k n : Nat), k ≤ 775694 → n ≤ 6775166 → post r S' → narrow .boolean (.int r) = .int r → decode cL_law pc = .ok (.ireturn, 1) → gG p l e (room_1) s m args below meth c Q D A 4 k n (hC X S') pc lv [.int r])  : ∀ (x1 : Nat) (x2 : Int32) (S : hS) (mc ms k n : Nat), k + mc ≤ 775694 ∧ n + ms ≤ 6775166 → w_L_law_103 u post   x1 x2 S mc ms → gG p l e (room_1) s m args below meth c Q D A 4 k n (hC X S) 103 [(1, .ref x1), (2, .int x2)] [] := by
  obtain ⟨⟨hx, hb, hml, ho, hts, hK, hA⟩, hR⟩ := id C0
  intro x1 x2 S mc ms k n hkn hw H locs ls hW hl
  rw [w_L_law_103] at hw
  refine lv_iload_n hx hb dL_law_103 rfl (lv_at hl 1 rfl) ?_
  refine lv_if_eq (tgt := 128) hx hb dL_law_104 (by decide) (fun c75 => ?_) (fun c75 => ?_)
  · replace hw := hw.1 c75
    refine lv_iconst (v := 0) hx hb dL_law_128 (by decide) ?_
    exact hret 0 S _ _ _ _ (by omega) (by omega) hw (by decide) dL_law_129 _ _ _ hW hl
  · replace hw := hw.2 c75
    refine lv_aload_n hx hb dL_law_107 rfl (lv_at hl 0 rfl) ?_
    refine lv_iconst (v := 1) hx hb dL_law_108 (by decide) ?_
    obtain ⟨h77, hw⟩ := hw
    refine h_goi C0 hW (va_runV (As := [.int 1]) (rest := []) ⟨hx, hb, hml, ho, hts⟩ (k_X9_refusals (l := l) (u := u) (X := X) (sz := H.size) _ x1 1 S  hw) (cwV 1 hts gL_law_X9_refusals rfl rfl rfl (by decide +kernel) ⟨Nat.le_of_ble_eq_true rfl, Nat.le_of_ble_eq_true rfl⟩) ⟨h_blind, (h_recv C0 hW (ci := 10) rfl h77), (h_pre C0 hW [.ref x1, .int 1])⟩ rfl rfl hl.1 rfl (lv_room (Nat.le_of_ble_eq_true rfl)) dL_law_109 ⟨by show _ ≤ 775694; omega, by show _ ≤ 6775166; omega⟩) (fun r76 S78 H locs h79 hW => ?_)
    obtain ⟨h80, hp⟩ := h79
    rw [h80] at hW
    replace hw := hp
    refine lv_iconst (v := 3) hx hb dL_law_112 (by decide) ?_
    refine lv_icmp_ne (tgt := 128) hx hb dL_law_113 (by decide) (fun c81 => ?_) (fun c81 => ?_)
    · replace hw := hw.1 c81
      refine lv_iconst (v := 0) hx hb dL_law_128 (by decide) ?_
      exact hret 0 S _ _ _ _ (by omega) (by omega) hw (by decide) dL_law_129 _ _ _ hW hl
    · replace hw := hw.2 c81
      refine lv_aload_n hx hb dL_law_116 rfl (lv_at hl 0 rfl) ?_
      refine lv_iconst (v := 0) hx hb dL_law_117 (by decide) ?_
      obtain ⟨h83, hw⟩ := hw
      refine h_goi C0 hW (va_runV (As := [.int 0]) (rest := []) ⟨hx, hb, hml, ho, hts⟩ (k_X9_refusals (l := l) (u := u) (X := X) (sz := H.size) _ x1 0 S  hw) (cwV 1 hts gL_law_X9_refusals rfl rfl rfl (by decide +kernel) ⟨Nat.le_of_ble_eq_true rfl, Nat.le_of_ble_eq_true rfl⟩) ⟨h_blind, (h_recv C0 hW (ci := 10) rfl h83), (h_pre C0 hW [.ref x1, .int 0])⟩ rfl rfl hl.1 rfl (lv_room (Nat.le_of_ble_eq_true rfl)) dL_law_118 ⟨by show _ ≤ 775694; omega, by show _ ≤ 6775166; omega⟩) (fun r82 S84 H locs h85 hW => ?_)
      obtain ⟨h86, hp⟩ := h85
      rw [h86] at hW
      replace hw := hp
      refine lv_if_ne (tgt := 128) hx hb dL_law_121 (by decide) (fun c87 => ?_) (fun c87 => ?_)
      · replace hw := hw.1 c87
        refine lv_iconst (v := 0) hx hb dL_law_128 (by decide) ?_
        exact hret 0 S _ _ _ _ (by omega) (by omega) hw (by decide) dL_law_129 _ _ _ hW hl
      · replace hw := hw.2 c87
        refine lv_iconst (v := 1) hx hb dL_law_124 (by decide) ?_
        refine lv_goto (tgt := 129) hx hb dL_law_125 (by decide) ?_
        exact hret 1 S _ _ _ _ (by omega) (by omega) hw (by decide) dL_law_129 _ _ _ hW hl
set_option maxHeartbeats 4000000 in
set_option maxRecDepth 100000 in
theorem t_L_law_52 (C0 : hX p s m args c cL_law 4 RL wsL_law D (gt u.2.1) A u.1 u.2.2)  (post : Int32 → hS → Prop) (hret : ∀ (r : Int32) (S' : hS) (pc : Nat) (lv : List (Nat × Value)) (k n : Nat), k ≤ 775694 → n ≤ 6775166 → post r S' → narrow .boolean (.int r) = .int r → decode cL_law pc = .ok (.ireturn, 1) → gG p l e (room_1) s m args below meth c Q D A 4 k n (hC X S') pc lv [.int r])  : ∀ (nf : Nat) (x0 : Option Nat) (x1 : Nat) (x2 : Int32) (x3 : Int32) (S : hS) (mc ms k n : Nat), k + mc ≤ 775694 ∧ n + ms ≤ 6775166 → w_L_law_52 u post   nf x0 x1 x2 x3 S mc ms → gG p l e (room_1) s m args below meth c Q D A 4 k n (hC X S) 52 [(0, va_rf x0), (1, .ref x1), (2, .int x2), (3, .int x3)] [] := by
  obtain ⟨⟨hx, hb, hml, ho, hts, hK, hA⟩, hR⟩ := id C0
  intro nf
  induction nf with
  | zero => intro x0 x1 x2 x3 S mc ms k n hkn hw; exact hw.elim
  | succ nf ih =>
    intro x0 x1 x2 x3 S mc ms k n hkn hw H locs ls hW hl
    rw [w_L_law_52] at hw
    refine lv_iload_n hx hb dL_law_52 rfl (lv_at hl 3 rfl) ?_
    refine lv_iconst (v := 3) hx hb dL_law_53 (by decide) ?_
    refine lv_icmp_ge (tgt := 103) hx hb dL_law_54 (by decide) (fun c54 => ?_) (fun c54 => ?_)
    · replace hw := hw.1 c54
      exact t_L_law_103 C0  post hret  x1 x2 S mc ms _ _ hkn hw _ _ _ hW (lv_sub hl [1, 2] rfl)
    · replace hw := hw.2 c54
      refine lv_iload_n hx hb dL_law_57 rfl (lv_at hl 2 rfl) ?_
      refine lv_if_eq (tgt := 103) hx hb dL_law_58 (by decide) (fun c55 => ?_) (fun c55 => ?_)
      · replace hw := hw.1 c55
        exact t_L_law_103 C0  post hret  x1 x2 S mc ms _ _ hkn hw _ _ _ hW (lv_sub hl [1, 2] rfl)
      · replace hw := hw.2 c55
        refine lv_aload_n hx hb dL_law_61 rfl (lv_at hl 1 rfl) ?_
        refine lv_aloadV_n hx hb dL_law_62 rfl (lv_at hl 0 rfl) ?_
        refine lv_bipush (v := 40) hx hb dL_law_63 (by decide) ?_
        refine lv_bipush (v := 20) hx hb dL_law_65 (by decide) ?_
        refine lv_iload_n hx hb dL_law_67 rfl (lv_at hl 3 rfl) ?_
        refine lv_imul hx hb dL_law_68 ?_
        refine lv_iadd hx hb dL_law_69 ?_
        obtain ⟨k57, n58, h59, h60, hw⟩ := hw
        refine h_goi C0 hW (va_runS (As := [.ref x1, va_rf x0, .int (40 + (20 * x3))]) (rest := []) ⟨hx, hb, hml, ho, hts⟩ (k_L_cut (l := l) (u := u) (X := X) (sz := H.size) _ (some x1) x0 (40 + (20 * x3)) S k57 n58 hw) (va_cwS 3 hts gL_law_L_cut rfl rfl rfl (by decide +kernel) ⟨Nat.le_of_ble_eq_true rfl, Nat.le_of_ble_eq_true rfl⟩) ⟨h_blind, (h_pre C0 hW [.ref x1, va_rf x0, .int (40 + (20 * x3))])⟩ rfl rfl hl.1 rfl (lv_room (Nat.le_of_ble_eq_true rfl)) dL_law_70 ⟨by show _ ≤ 775694; omega, by show _ ≤ 6775166; omega⟩) (fun r56 S61 H locs h62 hW => ?_)
        replace hw := h62
        have hkn : (k + k57) + (mc - k57) ≤ 775694 ∧ (n + n58) + (ms - n58) ≤ 6775166 := by omega
        refine lv_if_eq (tgt := 95) hx hb dL_law_73 (by decide) (fun c63 => ?_) (fun c63 => ?_)
        · replace hw := hw.1 c63
          refine lv_iconst (v := 0) hx hb dL_law_95 (by decide) ?_
          refine lv_istore_n (lv' := [(2, .int 0), (0, va_rf x0), (1, .ref x1), (3, .int x3)]) hx hb dL_law_96 rfl hl (by decide) rfl (fun ls hl9 => ?_)
          replace hl := hl9
          obtain ⟨v64, ev64⟩ : ∃ y : Int32, y = x3 + 1 := ⟨_, rfl⟩
          replace hw := hw v64 ev64
          refine lv_iinc (v := v64) (lv' := [(3, .int v64), (2, .int 0), (0, va_rf x0), (1, .ref x1)]) hx hb dL_law_97 hl (k := 3) rfl (by rw [ev64]; rfl) (by decide) rfl (fun ls hl9 => ?_)
          replace hl := hl9
          refine lv_goto (tgt := 52) hx hb dL_law_100 (by decide) ?_
          exact ih x0 x1 0 v64 S61 (mc - k57) (ms - n58) _ _ hkn hw _ _ _ hW (lv_sub hl [2, 3, 1, 0] rfl)
        · replace hw := hw.2 c63
          refine lv_aload_n hx hb dL_law_76 rfl (lv_at hl 1 rfl) ?_
          refine lv_aloadV_n hx hb dL_law_77 rfl (lv_at hl 0 rfl) ?_
          refine lv_bipush (v := 44) hx hb dL_law_78 (by decide) ?_
          refine lv_bipush (v := 20) hx hb dL_law_80 (by decide) ?_
          refine lv_iload_n hx hb dL_law_82 rfl (lv_at hl 3 rfl) ?_
          refine lv_imul hx hb dL_law_83 ?_
          refine lv_iadd hx hb dL_law_84 ?_
          obtain ⟨k66, n67, h68, h69, hw⟩ := hw
          refine h_goi C0 hW (va_runS (As := [.ref x1, va_rf x0, .int (44 + (20 * x3))]) (rest := []) ⟨hx, hb, hml, ho, hts⟩ (k_L_joined (l := l) (u := u) (X := X) (sz := H.size) _ (some x1) x0 (44 + (20 * x3)) S61 k66 n67 hw) (va_cwS 3 hts gL_law_L_joined rfl rfl rfl (by decide +kernel) ⟨Nat.le_of_ble_eq_true rfl, Nat.le_of_ble_eq_true rfl⟩) ⟨h_blind, (h_pre C0 hW [.ref x1, va_rf x0, .int (44 + (20 * x3))])⟩ rfl rfl hl.1 rfl (lv_room (Nat.le_of_ble_eq_true rfl)) dL_law_85 ⟨by show _ ≤ 775694; omega, by show _ ≤ 6775166; omega⟩) (fun r65 S70 H locs h71 hW => ?_)
          replace hw := h71
          have hkn : ((k + k57) + k66) + ((mc - k57) - k66) ≤ 775694 ∧ ((n + n58) + n67) + ((ms - n58) - n67) ≤ 6775166 := by omega
          refine lv_if_eq (tgt := 95) hx hb dL_law_88 (by decide) (fun c72 => ?_) (fun c72 => ?_)
          · replace hw := hw.1 c72
            refine lv_iconst (v := 0) hx hb dL_law_95 (by decide) ?_
            refine lv_istore_n (lv' := [(2, .int 0), (0, va_rf x0), (1, .ref x1), (3, .int x3)]) hx hb dL_law_96 rfl hl (by decide) rfl (fun ls hl9 => ?_)
            replace hl := hl9
            obtain ⟨v73, ev73⟩ : ∃ y : Int32, y = x3 + 1 := ⟨_, rfl⟩
            replace hw := hw v73 ev73
            refine lv_iinc (v := v73) (lv' := [(3, .int v73), (2, .int 0), (0, va_rf x0), (1, .ref x1)]) hx hb dL_law_97 hl (k := 3) rfl (by rw [ev73]; rfl) (by decide) rfl (fun ls hl9 => ?_)
            replace hl := hl9
            refine lv_goto (tgt := 52) hx hb dL_law_100 (by decide) ?_
            exact ih x0 x1 0 v73 S70 ((mc - k57) - k66) ((ms - n58) - n67) _ _ hkn hw _ _ _ hW (lv_sub hl [2, 3, 1, 0] rfl)
          · replace hw := hw.2 c72
            refine lv_iconst (v := 1) hx hb dL_law_91 (by decide) ?_
            refine lv_goto (tgt := 96) hx hb dL_law_92 (by decide) ?_
            refine lv_istore_n (lv' := [(2, .int 1), (0, va_rf x0), (1, .ref x1), (3, .int x3)]) hx hb dL_law_96 rfl hl (by decide) rfl (fun ls hl9 => ?_)
            replace hl := hl9
            obtain ⟨v74, ev74⟩ : ∃ y : Int32, y = x3 + 1 := ⟨_, rfl⟩
            replace hw := hw v74 ev74
            refine lv_iinc (v := v74) (lv' := [(3, .int v74), (2, .int 1), (0, va_rf x0), (1, .ref x1)]) hx hb dL_law_97 hl (k := 3) rfl (by rw [ev74]; rfl) (by decide) rfl (fun ls hl9 => ?_)
            replace hl := hl9
            refine lv_goto (tgt := 52) hx hb dL_law_100 (by decide) ?_
            exact ih x0 x1 1 v74 S70 ((mc - k57) - k66) ((ms - n58) - n67) _ _ hkn hw _ _ _ hW (lv_sub hl [2, 3, 1, 0] rfl)
set_option maxHeartbeats 4000000 in
set_option maxRecDepth 100000 in
theorem t_L_law_0 (C0 : hX p s m args c cL_law 4 RL wsL_law D (gt u.2.1) A u.1 u.2.2)  (post : Int32 → hS → Prop) (hret : ∀ (r : Int32) (S' : hS) (pc : Nat) (lv : List (Nat × Value)) (k n : Nat), k ≤ 775694 → n ≤ 6775166 → post r S' → narrow .boolean (.int r) = .int r → decode cL_law pc = .ok (.ireturn, 1) → gG p l e (room_1) s m args below meth c Q D A 4 k n (hC X S') pc lv [.int r])  : ∀ (p1 : Option Nat) (S : hS) (mc ms k n : Nat), k + mc ≤ 775694 ∧ n + ms ≤ 6775166 → w_L_law u post   p1 S mc ms → gG p l e (room_1) s m args below meth c Q D A 4 k n (hC X S) 0 [(0, va_rf p1)] [] := by
  obtain ⟨⟨hx, hb, hml, ho, hts, hK, hA⟩, hR⟩ := id C0
  intro p1 S mc ms k n hkn hw H locs ls hW hl
  rw [w_L_law] at hw
  obtain ⟨h4, h5, hw⟩ := hw
  refine h_new C0 hW (ci := 10) (fs := [.null, .null, .null, .null, .null, .null, .null, .int 0, .int 0]) in_L_law_RX9 rfl tyX9 tyX9_ok (List.mem_of_getElem? (i := 0) rfl) (List.mem_of_getElem? (i := 1) rfl) (List.mem_of_getElem? (i := 2) rfl) (fun j hj => by rcases (show j = 0 ∨ j = 1 ∨ j = 2 ∨ j = 3 ∨ j = 4 ∨ j = 5 ∨ j = 6 ∨ j = 7 ∨ j = 8 by omega) with rfl | rfl | rfl | rfl | rfl | rfl | rfl | rfl | rfl <;> rfl) (by show _ ≤ 775694; omega) (by show _ ≤ 6775166; omega) dL_law_0 (fun q1 H h2 hW => ?_)
  obtain ⟨S3, eS3⟩ : ∃ z : hS, z = adS S q1 (.inr (10, [.null, .null, .null, .null, .null, .null, .null, .int 0, .int 0])) := ⟨_, rfl⟩
  rw [← eS3] at hW
  replace hw := hw q1 S3 h2 eS3
  have hkn : (k + 1) + (mc - 1) ≤ 775694 ∧ (n + 9) + (ms - 9) ≤ 6775166 := by omega
  refine lv_dup hx hb dL_law_3 rfl ?_
  obtain ⟨k7, n8, h9, h10, hw⟩ := hw
  refine h_gov C0 hW (va_runI (As := []) (rest := [.ref q1]) ⟨hx, hb, hml, ho, hts⟩ (k_X9_init (l := l) (u := u) (X := X) (sz := H.size) _ q1  S3 k7 n8 hw) (cwI 0 hts gL_law_X9_init rfl rfl rfl (hts _ (List.mem_of_getElem? (i := 2) rfl)) (hts _ (List.mem_of_getElem? (i := 3) rfl)) (hts _ (List.mem_of_getElem? (i := 4) rfl)) rfl (by decide +kernel) ⟨Nat.le_of_ble_eq_true rfl, Nat.le_of_ble_eq_true rfl⟩) ⟨h_blind, (h_pre C0 hW [.ref q1])⟩ rfl rfl hl.1 rfl (lv_room (Nat.le_of_ble_eq_true rfl)) dL_law_4 ⟨by show _ ≤ 775694; omega, by show _ ≤ 6775166; omega⟩) (fun S11 H locs h12 hW => ?_)
  replace hw := h12
  have hkn : ((k + 1) + k7) + ((mc - 1) - k7) ≤ 775694 ∧ ((n + 9) + n8) + ((ms - 9) - n8) ≤ 6775166 := by omega
  refine lv_astore_n (i := 1) (lv' := [(1, .ref q1), (0, va_rf p1)]) hx hb dL_law_7 rfl hl (by decide) (by show (1, .ref q1) :: List.filter (fun q : Nat × Value => !(q.1 == 1) && !(q.1 + 1 == 1 && q.2.category == 2)) [(0, va_rf p1)] = [(1, .ref q1), (0, va_rf p1)]; simp [va_rf_cat, va_c_ref, va_c_int, va_c_null]) (fun ls hl9 => ?_)
  replace hl := hl9
  refine lv_aload_n hx hb dL_law_8 rfl (lv_at hl 0 rfl) ?_
  refine lv_aloadV_n hx hb dL_law_9 rfl (lv_at hl 1 rfl) ?_
  obtain ⟨k14, n15, h16, h17, hw⟩ := hw
  refine h_goi C0 hW (va_runS (As := [.ref q1, va_rf p1]) (rest := []) ⟨hx, hb, hml, ho, hts⟩ (k_L_written (l := l) (u := u) (X := X) (sz := H.size) _ (some q1) p1 S11 k14 n15 hw) (va_cwS 2 hts gL_law_L_written rfl rfl rfl (by decide +kernel) ⟨Nat.le_of_ble_eq_true rfl, Nat.le_of_ble_eq_true rfl⟩) ⟨h_blind, (h_pre C0 hW [.ref q1, va_rf p1])⟩ rfl rfl hl.1 rfl (lv_room (Nat.le_of_ble_eq_true rfl)) dL_law_10 ⟨by show _ ≤ 775694; omega, by show _ ≤ 6775166; omega⟩) (fun r13 S18 H locs h19 hW => ?_)
  replace hw := h19
  have hkn : (((k + 1) + k7) + k14) + (((mc - 1) - k7) - k14) ≤ 775694 ∧ (((n + 9) + n8) + n15) + (((ms - 9) - n8) - n15) ≤ 6775166 := by omega
  refine lv_if_eq (tgt := 48) hx hb dL_law_13 (by decide) (fun c20 => ?_) (fun c20 => ?_)
  · replace hw := hw.1 c20
    refine lv_iconst (v := 0) hx hb dL_law_48 (by decide) ?_
    refine lv_istore_n (lv' := [(2, .int 0), (1, .ref q1), (0, va_rf p1)]) hx hb dL_law_49 rfl hl (by decide) rfl (fun ls hl9 => ?_)
    replace hl := hl9
    refine lv_iconst (v := 0) hx hb dL_law_50 (by decide) ?_
    refine lv_istore_n (lv' := [(3, .int 0), (2, .int 0), (1, .ref q1), (0, va_rf p1)]) hx hb dL_law_51 rfl hl (by decide) rfl (fun ls hl9 => ?_)
    replace hl := hl9
    obtain ⟨n21, hw⟩ := hw
    exact t_L_law_52 C0  post hret  n21 p1 q1 0 0 S18 (((mc - 1) - k7) - k14) (((ms - 9) - n8) - n15) _ _ hkn hw _ _ _ hW (lv_sub hl [3, 2, 1, 0] rfl)
  · replace hw := hw.2 c20
    refine lv_aload_n hx hb dL_law_16 rfl (lv_at hl 0 rfl) ?_
    refine lv_iconst (v := 2) hx hb dL_law_17 (by decide) ?_
    obtain ⟨k23, n24, h25, h26, hw⟩ := hw
    refine h_goi C0 hW (va_runS (As := [.ref q1, .int 2]) (rest := []) ⟨hx, hb, hml, ho, hts⟩ (k_L_found (l := l) (u := u) (X := X) (sz := H.size) _ (some q1) 2 S18 k23 n24 hw) (va_cwS 2 hts gL_law_L_found rfl rfl rfl (by decide +kernel) ⟨Nat.le_of_ble_eq_true rfl, Nat.le_of_ble_eq_true rfl⟩) ⟨h_blind, (h_pre C0 hW [.ref q1, .int 2])⟩ rfl rfl hl.1 rfl (lv_room (Nat.le_of_ble_eq_true rfl)) dL_law_18 ⟨by show _ ≤ 775694; omega, by show _ ≤ 6775166; omega⟩) (fun r22 S27 H locs h28 hW => ?_)
    replace hw := h28
    have hkn : ((((k + 1) + k7) + k14) + k23) + ((((mc - 1) - k7) - k14) - k23) ≤ 775694 ∧ ((((n + 9) + n8) + n15) + n24) + ((((ms - 9) - n8) - n15) - n24) ≤ 6775166 := by omega
    refine lv_if_eq (tgt := 48) hx hb dL_law_21 (by decide) (fun c29 => ?_) (fun c29 => ?_)
    · replace hw := hw.1 c29
      refine lv_iconst (v := 0) hx hb dL_law_48 (by decide) ?_
      refine lv_istore_n (lv' := [(2, .int 0), (1, .ref q1), (0, va_rf p1)]) hx hb dL_law_49 rfl hl (by decide) rfl (fun ls hl9 => ?_)
      replace hl := hl9
      refine lv_iconst (v := 0) hx hb dL_law_50 (by decide) ?_
      refine lv_istore_n (lv' := [(3, .int 0), (2, .int 0), (1, .ref q1), (0, va_rf p1)]) hx hb dL_law_51 rfl hl (by decide) rfl (fun ls hl9 => ?_)
      replace hl := hl9
      obtain ⟨n30, hw⟩ := hw
      exact t_L_law_52 C0  post hret  n30 p1 q1 0 0 S27 ((((mc - 1) - k7) - k14) - k23) ((((ms - 9) - n8) - n15) - n24) _ _ hkn hw _ _ _ hW (lv_sub hl [3, 2, 1, 0] rfl)
    · replace hw := hw.2 c29
      refine lv_aload_n hx hb dL_law_24 rfl (lv_at hl 0 rfl) ?_
      refine lv_aloadV_n hx hb dL_law_25 rfl (lv_at hl 1 rfl) ?_
      refine lv_iconst (v := 0) hx hb dL_law_26 (by decide) ?_
      refine h_goi C0 hW (va_runS (As := [va_rf p1, .int 0]) (rest := [.ref q1]) ⟨hx, hb, hml, ho, hts⟩ (k_L_cell (l := l) (u := u) (X := X) (sz := H.size) _ p1 0 S27  hw) (va_cwS 2 hts gL_law_L_cell rfl rfl rfl (by decide +kernel) ⟨Nat.le_of_ble_eq_true rfl, Nat.le_of_ble_eq_true rfl⟩) ⟨h_blind, (h_pre C0 hW [va_rf p1, .int 0])⟩ rfl rfl hl.1 rfl (lv_room (Nat.le_of_ble_eq_true rfl)) dL_law_27 ⟨by show _ ≤ 775694; omega, by show _ ≤ 6775166; omega⟩) (fun r31 S32 H locs h33 hW => ?_)
      obtain ⟨h34, hp⟩ := h33
      rw [h34] at hW
      replace hw := hp
      obtain ⟨k36, n37, h38, h39, hw⟩ := hw
      refine h_goi C0 hW (va_runS (As := [.ref q1, .int r31]) (rest := []) ⟨hx, hb, hml, ho, hts⟩ (k_L_twice (l := l) (u := u) (X := X) (sz := H.size) _ (some q1) r31 S27 k36 n37 hw) (va_cwS 2 hts gL_law_L_twice rfl rfl rfl (by decide +kernel) ⟨Nat.le_of_ble_eq_true rfl, Nat.le_of_ble_eq_true rfl⟩) ⟨h_blind, (h_pre C0 hW [.ref q1, .int r31])⟩ rfl rfl hl.1 rfl (lv_room (Nat.le_of_ble_eq_true rfl)) dL_law_30 ⟨by show _ ≤ 775694; omega, by show _ ≤ 6775166; omega⟩) (fun r35 S40 H locs h41 hW => ?_)
      replace hw := h41
      have hkn : (((((k + 1) + k7) + k14) + k23) + k36) + (((((mc - 1) - k7) - k14) - k23) - k36) ≤ 775694 ∧ (((((n + 9) + n8) + n15) + n24) + n37) + (((((ms - 9) - n8) - n15) - n24) - n37) ≤ 6775166 := by omega
      refine lv_if_eq (tgt := 48) hx hb dL_law_33 (by decide) (fun c42 => ?_) (fun c42 => ?_)
      · replace hw := hw.1 c42
        refine lv_iconst (v := 0) hx hb dL_law_48 (by decide) ?_
        refine lv_istore_n (lv' := [(2, .int 0), (1, .ref q1), (0, va_rf p1)]) hx hb dL_law_49 rfl hl (by decide) rfl (fun ls hl9 => ?_)
        replace hl := hl9
        refine lv_iconst (v := 0) hx hb dL_law_50 (by decide) ?_
        refine lv_istore_n (lv' := [(3, .int 0), (2, .int 0), (1, .ref q1), (0, va_rf p1)]) hx hb dL_law_51 rfl hl (by decide) rfl (fun ls hl9 => ?_)
        replace hl := hl9
        obtain ⟨n43, hw⟩ := hw
        exact t_L_law_52 C0  post hret  n43 p1 q1 0 0 S40 (((((mc - 1) - k7) - k14) - k23) - k36) (((((ms - 9) - n8) - n15) - n24) - n37) _ _ hkn hw _ _ _ hW (lv_sub hl [3, 2, 1, 0] rfl)
      · replace hw := hw.2 c42
        refine lv_aload_n hx hb dL_law_36 rfl (lv_at hl 0 rfl) ?_
        refine lv_iconst (v := 3) hx hb dL_law_37 (by decide) ?_
        obtain ⟨k45, n46, h47, h48, hw⟩ := hw
        refine h_goi C0 hW (va_runS (As := [.ref q1, .int 3]) (rest := []) ⟨hx, hb, hml, ho, hts⟩ (k_L_found (l := l) (u := u) (X := X) (sz := H.size) _ (some q1) 3 S40 k45 n46 hw) (va_cwS 2 hts gL_law_L_found rfl rfl rfl (by decide +kernel) ⟨Nat.le_of_ble_eq_true rfl, Nat.le_of_ble_eq_true rfl⟩) ⟨h_blind, (h_pre C0 hW [.ref q1, .int 3])⟩ rfl rfl hl.1 rfl (lv_room (Nat.le_of_ble_eq_true rfl)) dL_law_38 ⟨by show _ ≤ 775694; omega, by show _ ≤ 6775166; omega⟩) (fun r44 S49 H locs h50 hW => ?_)
        replace hw := h50
        have hkn : ((((((k + 1) + k7) + k14) + k23) + k36) + k45) + ((((((mc - 1) - k7) - k14) - k23) - k36) - k45) ≤ 775694 ∧ ((((((n + 9) + n8) + n15) + n24) + n37) + n46) + ((((((ms - 9) - n8) - n15) - n24) - n37) - n46) ≤ 6775166 := by omega
        refine lv_if_eq (tgt := 48) hx hb dL_law_41 (by decide) (fun c51 => ?_) (fun c51 => ?_)
        · replace hw := hw.1 c51
          refine lv_iconst (v := 0) hx hb dL_law_48 (by decide) ?_
          refine lv_istore_n (lv' := [(2, .int 0), (1, .ref q1), (0, va_rf p1)]) hx hb dL_law_49 rfl hl (by decide) rfl (fun ls hl9 => ?_)
          replace hl := hl9
          refine lv_iconst (v := 0) hx hb dL_law_50 (by decide) ?_
          refine lv_istore_n (lv' := [(3, .int 0), (2, .int 0), (1, .ref q1), (0, va_rf p1)]) hx hb dL_law_51 rfl hl (by decide) rfl (fun ls hl9 => ?_)
          replace hl := hl9
          obtain ⟨n52, hw⟩ := hw
          exact t_L_law_52 C0  post hret  n52 p1 q1 0 0 S49 ((((((mc - 1) - k7) - k14) - k23) - k36) - k45) ((((((ms - 9) - n8) - n15) - n24) - n37) - n46) _ _ hkn hw _ _ _ hW (lv_sub hl [3, 2, 1, 0] rfl)
        · replace hw := hw.2 c51
          refine lv_iconst (v := 1) hx hb dL_law_44 (by decide) ?_
          refine lv_goto (tgt := 49) hx hb dL_law_45 (by decide) ?_
          refine lv_istore_n (lv' := [(2, .int 1), (1, .ref q1), (0, va_rf p1)]) hx hb dL_law_49 rfl hl (by decide) rfl (fun ls hl9 => ?_)
          replace hl := hl9
          refine lv_iconst (v := 0) hx hb dL_law_50 (by decide) ?_
          refine lv_istore_n (lv' := [(3, .int 0), (2, .int 1), (1, .ref q1), (0, va_rf p1)]) hx hb dL_law_51 rfl hl (by decide) rfl (fun ls hl9 => ?_)
          replace hl := hl9
          obtain ⟨n53, hw⟩ := hw
          exact t_L_law_52 C0  post hret  n53 p1 q1 1 0 S49 ((((((mc - 1) - k7) - k14) - k23) - k36) - k45) ((((((ms - 9) - n8) - n15) - n24) - n37) - n46) _ _ hkn hw _ _ _ hW (lv_sub hl [3, 2, 1, 0] rfl)
end RAWM
