section RAWM
variable {p : Program} {l : Launch} {e : Env} {s : State} {m : MethodId} {args : Array Value} {below : List Frame} {meth : Method} {c : Code} {Q : State → Prop}
variable {D : va_G} {A : Nat → Prop} {u : hU} {X : va_W} {MC MS : Nat}
abbrev rm_L_cell : Room := { frames := 0, cells := 0, slots := 0, locals := 0 }
set_option maxHeartbeats 4000000 in
set_option maxRecDepth 100000 in
theorem t_L_cell_0 (C0 : hX p s m args c cL_cell 2 RL wsL_cell D (gt u.2.1) A u.1 u.2.2) {S : hS}  (post : Int32 → Prop) (hret : ∀ (r : Int32) (S' : hS) (pc : Nat) (lv : List (Nat × Value)) (k n : Nat), k ≤ 0 → n ≤ 0 → (S' = S ∧ post r) → narrow .int (.int r) = .int r → decode cL_cell pc = .ok (.ireturn, 1) → gG p l e (rm_L_cell) s m args below meth c Q D A 2 k n (hC X S') pc lv [.int r])  : ∀ (p1 : Option Nat) (z2 : Int32), w_L_cell u post   p1 z2 S → gG p l e (rm_L_cell) s m args below meth c Q D A 2 0 0 (hC X S) 0 [(0, va_rf p1), (1, .int z2)] [] := by
  obtain ⟨⟨hx, hb, hml, ho, hts, hK, hA⟩, hR⟩ := id C0
  intro p1 z2 hw H locs ls hW hl
  rw [w_L_cell] at hw
  refine lv_iload_n hx hb dL_cell_0 rfl (lv_at hl 1 rfl) ?_
  refine lv_aloadV_n hx hb dL_cell_1 rfl (lv_at hl 0 rfl) ?_
  obtain ⟨a1, rfl, hw⟩ := hw
  obtain ⟨h2, hw⟩ := hw
  refine h_xlen C0 hW h2 dL_cell_2 ?_
  refine lv_icmp_ge (tgt := 12) hx hb dL_cell_3 (by decide) (fun c3 => ?_) (fun c3 => ?_)
  · replace hw := hw.1 c3
    refine lv_ldc (v := (15596309)) hx hb ho (hts (.constant RL 7 (15596309)) (List.mem_of_getElem? (i := 1) rfl)) dL_cell_12 ?_
    refine lv_iload_n hx hb dL_cell_14 rfl (lv_at hl 1 rfl) ?_
    refine lv_iconst (v := 3) hx hb dL_cell_15 (by decide) ?_
    refine lv_iadd hx hb dL_cell_16 ?_
    refine lv_imul hx hb dL_cell_17 ?_
    refine lv_sipush (v := 11969) hx hb dL_cell_18 (by decide) ?_
    refine lv_iadd hx hb dL_cell_21 ?_
    exact hret (((15596309) * (z2 + 3)) + 11969) S _ _ 0 0 (Nat.le_refl _) (Nat.le_refl _) ⟨rfl, hw⟩ rfl dL_cell_22 _ _ _ hW hl
  · replace hw := hw.2 c3
    refine lv_aload_n hx hb dL_cell_6 rfl (lv_at hl 0 rfl) ?_
    refine lv_iload_n hx hb dL_cell_7 rfl (lv_at hl 1 rfl) ?_
    obtain ⟨h4, h5, hw⟩ := hw
    refine h_xald C0 hW h4 h5 dL_cell_8 ?_
    refine lv_goto (tgt := 22) hx hb dL_cell_9 (by decide) ?_
    exact hret (u.2.2.2.2.2 (z2 : Int32).toNatClampNeg) S _ _ 0 0 (Nat.le_refl _) (Nat.le_refl _) ⟨rfl, hw⟩ rfl dL_cell_22 _ _ _ hW hl
set_option maxHeartbeats 4000000 in
set_option maxRecDepth 100000 in
theorem k_L_cell {l : Launch} {D : va_G} {u : hU} {X : va_W} {sz : Nat} (post : Int32 → Prop) (p1 : Option Nat) (z2 : Int32) (S : hS) (hw : w_L_cell u post  p1 z2 S) : hMi l yL_cell wsL_cell rm_L_cell D (gt u.2.1) u.1 u.2.2 sz X S [va_rf p1, .int z2] (fun r S' => S' = S ∧ post r) 0 0 := by
  refine hMi_of (cc := cL_cell) (nL := 2) (ty := .int) (own := RL) (by decide) rfl rfl (by cases p1 <;> exact Nat.le_of_ble_eq_true rfl) ?_
  intro p e s m args below meth c A Q C0 hin hret
  have hfin := t_L_cell_0 C0  post hret p1 z2 hw
  intro H locs ls hW hl
  refine hfin H locs ls hW ?_
  cases p1 <;> exact hl
abbrev rm_L_low : Room := { frames := 0, cells := 0, slots := 0, locals := 0 }
set_option maxHeartbeats 4000000 in
set_option maxRecDepth 100000 in
theorem k_L_low {l : Launch} (post : Int32 → Prop) (z1 : Int32) (z2 : Int32) (hz : ¬ z2 = 0) (hw : q_L_low post z1 z2) : gMs l yL_low wsL_low rm_L_low [.int z1, .int z2] post := by
  refine gMs_of (cc := cL_low) (nL := 2) (ty := .int) (own := RL) (by decide) rfl rfl (Nat.le_of_ble_eq_true rfl) ?_
  intro p e s m args below meth c Q hx hb hml ho hts hret ls hl
  rw [q_L_low] at hw
  refine lv_iload_n hx hb dL_low_0 rfl (lv_at hl 0 rfl) ?_
  refine lv_ldc (v := (2147483647)) hx hb ho (hts (.constant RL 8 (2147483647)) (List.mem_of_getElem? (i := 1) rfl)) dL_low_1 ?_
  refine lv_iand hx hb dL_low_3 ?_
  refine lv_iload_n hx hb dL_low_4 rfl (lv_at hl 1 rfl) ?_
  refine lv_irem hx hb dL_low_5 hz ?_
  exact hret ((z1 &&& (2147483647)) - (z1 &&& (2147483647)) / z2 * z2) _ _ hw rfl dL_low_6
abbrev rm_L_sign : Room := { frames := 1, cells := 0, slots := 0, locals := 21 }
set_option maxHeartbeats 4000000 in
set_option maxRecDepth 100000 in
theorem k_L_sign {l : Launch} (post : Int32 → Prop) (z1 : Int32) (hw : q_L_sign post z1) : gMs l yL_sign wsL_sign rm_L_sign [.int z1] post := by
  refine gMs_of (cc := cL_sign) (nL := 3) (ty := .int) (own := RL) (by decide) rfl rfl (Nat.le_of_ble_eq_true rfl) ?_
  intro p e s m args below meth c Q hx hb hml ho hts hret ls hl
  rw [q_L_sign] at hw
  refine lv_iload_n hx hb dL_sign_0 rfl (lv_at hl 0 rfl) ?_
  refine lv_iconst (v := 4) hx hb dL_sign_1 (by decide) ?_
  refine lv_ishr hx hb dL_sign_2 ?_
  refine lv_bipush (v := 12) hx hb dL_sign_3 (by decide) ?_
  refine g_calls (As := [.int (z1 >>> (4 &&& 31)), .int 12]) (rest := []) ⟨hx, hb, hml, ho, hts⟩ hl.1 (k_L_low (l := l) _ (z1 >>> (4 &&& 31)) 12 (by decide) hw) (va_cwS 2 hts gL_sign_L_low rfl rfl rfl (by decide +kernel) ⟨Nat.le_of_ble_eq_true rfl, Nat.le_of_ble_eq_true rfl⟩) (Nat.le_of_ble_eq_true rfl) dL_sign_5 rfl ⟨Nat.le_refl _, Nat.le_refl _⟩ (fun r1 hp => ?_)
  replace hw := hp
  refine lv_istore_n (lv' := [(1, .int r1), (0, .int z1)]) hx hb dL_sign_8 rfl hl (by decide) rfl (fun ls hl9 => ?_)
  replace hl := hl9
  refine lv_iload_n hx hb dL_sign_9 rfl (lv_at hl 0 rfl) ?_
  refine lv_if_ne (tgt := 18) hx hb dL_sign_10 (by decide) (fun c2 => ?_) (fun c2 => ?_)
  · replace hw := hw.1 c2
    refine lv_iload_n hx hb dL_sign_18 rfl (lv_at hl 0 rfl) ?_
    refine lv_iconst (v := 1) hx hb dL_sign_19 (by decide) ?_
    refine lv_icmp_ne (tgt := 28) hx hb dL_sign_20 (by decide) (fun c3 => ?_) (fun c3 => ?_)
    · replace hw := hw.1 c3
      refine lv_iload_n hx hb dL_sign_28 rfl (lv_at hl 0 rfl) ?_
      refine lv_iconst (v := 2) hx hb dL_sign_29 (by decide) ?_
      refine lv_icmp_ne (tgt := 38) hx hb dL_sign_30 (by decide) (fun c4 => ?_) (fun c4 => ?_)
      · replace hw := hw.1 c4
        refine lv_iload_n hx hb dL_sign_38 rfl (lv_at hl 0 rfl) ?_
        refine lv_iconst (v := 3) hx hb dL_sign_39 (by decide) ?_
        refine lv_icmp_ne (tgt := 48) hx hb dL_sign_40 (by decide) (fun c5 => ?_) (fun c5 => ?_)
        · replace hw := hw.1 c5
          refine lv_iload_n hx hb dL_sign_48 rfl (lv_at hl 0 rfl) ?_
          refine lv_iconst (v := 4) hx hb dL_sign_49 (by decide) ?_
          refine lv_icmp_ne (tgt := 58) hx hb dL_sign_50 (by decide) (fun c6 => ?_) (fun c6 => ?_)
          · replace hw := hw.1 c6
            refine lv_iload_n hx hb dL_sign_58 rfl (lv_at hl 0 rfl) ?_
            refine lv_iconst (v := 5) hx hb dL_sign_59 (by decide) ?_
            refine lv_icmp_ne (tgt := 68) hx hb dL_sign_60 (by decide) (fun c7 => ?_) (fun c7 => ?_)
            · replace hw := hw.1 c7
              refine lv_iload_n hx hb dL_sign_68 rfl (lv_at hl 0 rfl) ?_
              refine lv_bipush (v := 6) hx hb dL_sign_69 (by decide) ?_
              refine lv_icmp_ne (tgt := 79) hx hb dL_sign_71 (by decide) (fun c8 => ?_) (fun c8 => ?_)
              · replace hw := hw.1 c8
                refine lv_iload_n hx hb dL_sign_79 rfl (lv_at hl 0 rfl) ?_
                refine lv_bipush (v := 7) hx hb dL_sign_80 (by decide) ?_
                refine lv_icmp_ne (tgt := 90) hx hb dL_sign_82 (by decide) (fun c9 => ?_) (fun c9 => ?_)
                · replace hw := hw.1 c9
                  refine lv_iload_n hx hb dL_sign_90 rfl (lv_at hl 0 rfl) ?_
                  refine lv_bipush (v := 8) hx hb dL_sign_91 (by decide) ?_
                  refine lv_icmp_ne (tgt := 101) hx hb dL_sign_93 (by decide) (fun c10 => ?_) (fun c10 => ?_)
                  · replace hw := hw.1 c10
                    refine lv_iload_n hx hb dL_sign_101 rfl (lv_at hl 0 rfl) ?_
                    refine lv_bipush (v := 9) hx hb dL_sign_102 (by decide) ?_
                    refine lv_icmp_ne (tgt := 112) hx hb dL_sign_104 (by decide) (fun c11 => ?_) (fun c11 => ?_)
                    · replace hw := hw.1 c11
                      refine lv_iload_n hx hb dL_sign_112 rfl (lv_at hl 0 rfl) ?_
                      refine lv_bipush (v := 10) hx hb dL_sign_113 (by decide) ?_
                      refine lv_icmp_ne (tgt := 123) hx hb dL_sign_115 (by decide) (fun c12 => ?_) (fun c12 => ?_)
                      · replace hw := hw.1 c12
                        refine lv_bipush (v := 97) hx hb dL_sign_123 (by decide) ?_
                        refine lv_istore_n (lv' := [(2, .int 97), (1, .int r1), (0, .int z1)]) hx hb dL_sign_125 rfl hl (by decide) rfl (fun ls hl9 => ?_)
                        replace hl := hl9
                        refine lv_iload_n hx hb dL_sign_126 rfl (lv_at hl 2 rfl) ?_
                        refine lv_iconst (v := 3) hx hb dL_sign_127 (by decide) ?_
                        refine g_calls (As := [.int z1, .int 3]) (rest := []) ⟨hx, hb, hml, ho, hts⟩ hl.1 (k_L_low (l := l) _ z1 3 (by decide) hw) (va_cwS 2 hts gL_sign_L_low rfl rfl rfl (by decide +kernel) ⟨Nat.le_of_ble_eq_true rfl, Nat.le_of_ble_eq_true rfl⟩) (Nat.le_of_ble_eq_true rfl) dL_sign_128 rfl ⟨Nat.le_refl _, Nat.le_refl _⟩ (fun r13 hp => ?_)
                        replace hw := hp
                        refine lv_if_ne (tgt := 146) hx hb dL_sign_131 (by decide) (fun c14 => ?_) (fun c14 => ?_)
                        · replace hw := hw.1 c14
                          refine lv_iload_n hx hb dL_sign_146 rfl (lv_at hl 0 rfl) ?_
                          exact hret 97 _ _ hw rfl dL_sign_147
                        · replace hw := hw.2 c14
                          refine lv_iload_n hx hb dL_sign_134 rfl (lv_at hl 2 rfl) ?_
                          refine lv_iconst (v := 4) hx hb dL_sign_135 (by decide) ?_
                          refine lv_ishr hx hb dL_sign_136 ?_
                          refine lv_sipush (v := 256) hx hb dL_sign_137 (by decide) ?_
                          refine g_calls (As := [.int (z1 >>> (4 &&& 31)), .int 256]) (rest := []) ⟨hx, hb, hml, ho, hts⟩ hl.1 (k_L_low (l := l) _ (z1 >>> (4 &&& 31)) 256 (by decide) hw) (va_cwS 2 hts gL_sign_L_low rfl rfl rfl (by decide +kernel) ⟨Nat.le_of_ble_eq_true rfl, Nat.le_of_ble_eq_true rfl⟩) (Nat.le_of_ble_eq_true rfl) dL_sign_140 rfl ⟨Nat.le_refl _, Nat.le_refl _⟩ (fun r15 hp => ?_)
                          replace hw := hp
                          refine lv_goto (tgt := 147) hx hb dL_sign_143 (by decide) ?_
                          exact hret r15 _ _ hw rfl dL_sign_147
                      · replace hw := hw.2 c12
                        refine lv_bipush (v := 117) hx hb dL_sign_118 (by decide) ?_
                        refine lv_goto (tgt := 125) hx hb dL_sign_120 (by decide) ?_
                        refine lv_istore_n (lv' := [(2, .int 117), (1, .int r1), (0, .int z1)]) hx hb dL_sign_125 rfl hl (by decide) rfl (fun ls hl9 => ?_)
                        replace hl := hl9
                        refine lv_iload_n hx hb dL_sign_126 rfl (lv_at hl 2 rfl) ?_
                        refine lv_iconst (v := 3) hx hb dL_sign_127 (by decide) ?_
                        refine g_calls (As := [.int z1, .int 3]) (rest := []) ⟨hx, hb, hml, ho, hts⟩ hl.1 (k_L_low (l := l) _ z1 3 (by decide) hw) (va_cwS 2 hts gL_sign_L_low rfl rfl rfl (by decide +kernel) ⟨Nat.le_of_ble_eq_true rfl, Nat.le_of_ble_eq_true rfl⟩) (Nat.le_of_ble_eq_true rfl) dL_sign_128 rfl ⟨Nat.le_refl _, Nat.le_refl _⟩ (fun r16 hp => ?_)
                        replace hw := hp
                        refine lv_if_ne (tgt := 146) hx hb dL_sign_131 (by decide) (fun c17 => ?_) (fun c17 => ?_)
                        · replace hw := hw.1 c17
                          refine lv_iload_n hx hb dL_sign_146 rfl (lv_at hl 0 rfl) ?_
                          exact hret 117 _ _ hw rfl dL_sign_147
                        · replace hw := hw.2 c17
                          refine lv_iload_n hx hb dL_sign_134 rfl (lv_at hl 2 rfl) ?_
                          refine lv_iconst (v := 4) hx hb dL_sign_135 (by decide) ?_
                          refine lv_ishr hx hb dL_sign_136 ?_
                          refine lv_sipush (v := 256) hx hb dL_sign_137 (by decide) ?_
                          refine g_calls (As := [.int (z1 >>> (4 &&& 31)), .int 256]) (rest := []) ⟨hx, hb, hml, ho, hts⟩ hl.1 (k_L_low (l := l) _ (z1 >>> (4 &&& 31)) 256 (by decide) hw) (va_cwS 2 hts gL_sign_L_low rfl rfl rfl (by decide +kernel) ⟨Nat.le_of_ble_eq_true rfl, Nat.le_of_ble_eq_true rfl⟩) (Nat.le_of_ble_eq_true rfl) dL_sign_140 rfl ⟨Nat.le_refl _, Nat.le_refl _⟩ (fun r18 hp => ?_)
                          replace hw := hp
                          refine lv_goto (tgt := 147) hx hb dL_sign_143 (by decide) ?_
                          exact hret r18 _ _ hw rfl dL_sign_147
                    · replace hw := hw.2 c11
                      refine lv_bipush (v := 12) hx hb dL_sign_107 (by decide) ?_
                      refine lv_goto (tgt := 125) hx hb dL_sign_109 (by decide) ?_
                      refine lv_istore_n (lv' := [(2, .int 12), (1, .int r1), (0, .int z1)]) hx hb dL_sign_125 rfl hl (by decide) rfl (fun ls hl9 => ?_)
                      replace hl := hl9
                      refine lv_iload_n hx hb dL_sign_126 rfl (lv_at hl 2 rfl) ?_
                      refine lv_iconst (v := 3) hx hb dL_sign_127 (by decide) ?_
                      refine g_calls (As := [.int z1, .int 3]) (rest := []) ⟨hx, hb, hml, ho, hts⟩ hl.1 (k_L_low (l := l) _ z1 3 (by decide) hw) (va_cwS 2 hts gL_sign_L_low rfl rfl rfl (by decide +kernel) ⟨Nat.le_of_ble_eq_true rfl, Nat.le_of_ble_eq_true rfl⟩) (Nat.le_of_ble_eq_true rfl) dL_sign_128 rfl ⟨Nat.le_refl _, Nat.le_refl _⟩ (fun r19 hp => ?_)
                      replace hw := hp
                      refine lv_if_ne (tgt := 146) hx hb dL_sign_131 (by decide) (fun c20 => ?_) (fun c20 => ?_)
                      · replace hw := hw.1 c20
                        refine lv_iload_n hx hb dL_sign_146 rfl (lv_at hl 0 rfl) ?_
                        exact hret 12 _ _ hw rfl dL_sign_147
                      · replace hw := hw.2 c20
                        refine lv_iload_n hx hb dL_sign_134 rfl (lv_at hl 2 rfl) ?_
                        refine lv_iconst (v := 4) hx hb dL_sign_135 (by decide) ?_
                        refine lv_ishr hx hb dL_sign_136 ?_
                        refine lv_sipush (v := 256) hx hb dL_sign_137 (by decide) ?_
                        refine g_calls (As := [.int (z1 >>> (4 &&& 31)), .int 256]) (rest := []) ⟨hx, hb, hml, ho, hts⟩ hl.1 (k_L_low (l := l) _ (z1 >>> (4 &&& 31)) 256 (by decide) hw) (va_cwS 2 hts gL_sign_L_low rfl rfl rfl (by decide +kernel) ⟨Nat.le_of_ble_eq_true rfl, Nat.le_of_ble_eq_true rfl⟩) (Nat.le_of_ble_eq_true rfl) dL_sign_140 rfl ⟨Nat.le_refl _, Nat.le_refl _⟩ (fun r21 hp => ?_)
                        replace hw := hp
                        refine lv_goto (tgt := 147) hx hb dL_sign_143 (by decide) ?_
                        exact hret r21 _ _ hw rfl dL_sign_147
                  · replace hw := hw.2 c10
                    refine lv_bipush (v := 32) hx hb dL_sign_96 (by decide) ?_
                    refine lv_goto (tgt := 125) hx hb dL_sign_98 (by decide) ?_
                    refine lv_istore_n (lv' := [(2, .int 32), (1, .int r1), (0, .int z1)]) hx hb dL_sign_125 rfl hl (by decide) rfl (fun ls hl9 => ?_)
                    replace hl := hl9
                    refine lv_iload_n hx hb dL_sign_126 rfl (lv_at hl 2 rfl) ?_
                    refine lv_iconst (v := 3) hx hb dL_sign_127 (by decide) ?_
                    refine g_calls (As := [.int z1, .int 3]) (rest := []) ⟨hx, hb, hml, ho, hts⟩ hl.1 (k_L_low (l := l) _ z1 3 (by decide) hw) (va_cwS 2 hts gL_sign_L_low rfl rfl rfl (by decide +kernel) ⟨Nat.le_of_ble_eq_true rfl, Nat.le_of_ble_eq_true rfl⟩) (Nat.le_of_ble_eq_true rfl) dL_sign_128 rfl ⟨Nat.le_refl _, Nat.le_refl _⟩ (fun r22 hp => ?_)
                    replace hw := hp
                    refine lv_if_ne (tgt := 146) hx hb dL_sign_131 (by decide) (fun c23 => ?_) (fun c23 => ?_)
                    · replace hw := hw.1 c23
                      refine lv_iload_n hx hb dL_sign_146 rfl (lv_at hl 0 rfl) ?_
                      exact hret 32 _ _ hw rfl dL_sign_147
                    · replace hw := hw.2 c23
                      refine lv_iload_n hx hb dL_sign_134 rfl (lv_at hl 2 rfl) ?_
                      refine lv_iconst (v := 4) hx hb dL_sign_135 (by decide) ?_
                      refine lv_ishr hx hb dL_sign_136 ?_
                      refine lv_sipush (v := 256) hx hb dL_sign_137 (by decide) ?_
                      refine g_calls (As := [.int (z1 >>> (4 &&& 31)), .int 256]) (rest := []) ⟨hx, hb, hml, ho, hts⟩ hl.1 (k_L_low (l := l) _ (z1 >>> (4 &&& 31)) 256 (by decide) hw) (va_cwS 2 hts gL_sign_L_low rfl rfl rfl (by decide +kernel) ⟨Nat.le_of_ble_eq_true rfl, Nat.le_of_ble_eq_true rfl⟩) (Nat.le_of_ble_eq_true rfl) dL_sign_140 rfl ⟨Nat.le_refl _, Nat.le_refl _⟩ (fun r24 hp => ?_)
                      replace hw := hp
                      refine lv_goto (tgt := 147) hx hb dL_sign_143 (by decide) ?_
                      exact hret r24 _ _ hw rfl dL_sign_147
                · replace hw := hw.2 c9
                  refine lv_bipush (v := 33) hx hb dL_sign_85 (by decide) ?_
                  refine lv_goto (tgt := 125) hx hb dL_sign_87 (by decide) ?_
                  refine lv_istore_n (lv' := [(2, .int 33), (1, .int r1), (0, .int z1)]) hx hb dL_sign_125 rfl hl (by decide) rfl (fun ls hl9 => ?_)
                  replace hl := hl9
                  refine lv_iload_n hx hb dL_sign_126 rfl (lv_at hl 2 rfl) ?_
                  refine lv_iconst (v := 3) hx hb dL_sign_127 (by decide) ?_
                  refine g_calls (As := [.int z1, .int 3]) (rest := []) ⟨hx, hb, hml, ho, hts⟩ hl.1 (k_L_low (l := l) _ z1 3 (by decide) hw) (va_cwS 2 hts gL_sign_L_low rfl rfl rfl (by decide +kernel) ⟨Nat.le_of_ble_eq_true rfl, Nat.le_of_ble_eq_true rfl⟩) (Nat.le_of_ble_eq_true rfl) dL_sign_128 rfl ⟨Nat.le_refl _, Nat.le_refl _⟩ (fun r25 hp => ?_)
                  replace hw := hp
                  refine lv_if_ne (tgt := 146) hx hb dL_sign_131 (by decide) (fun c26 => ?_) (fun c26 => ?_)
                  · replace hw := hw.1 c26
                    refine lv_iload_n hx hb dL_sign_146 rfl (lv_at hl 0 rfl) ?_
                    exact hret 33 _ _ hw rfl dL_sign_147
                  · replace hw := hw.2 c26
                    refine lv_iload_n hx hb dL_sign_134 rfl (lv_at hl 2 rfl) ?_
                    refine lv_iconst (v := 4) hx hb dL_sign_135 (by decide) ?_
                    refine lv_ishr hx hb dL_sign_136 ?_
                    refine lv_sipush (v := 256) hx hb dL_sign_137 (by decide) ?_
                    refine g_calls (As := [.int (z1 >>> (4 &&& 31)), .int 256]) (rest := []) ⟨hx, hb, hml, ho, hts⟩ hl.1 (k_L_low (l := l) _ (z1 >>> (4 &&& 31)) 256 (by decide) hw) (va_cwS 2 hts gL_sign_L_low rfl rfl rfl (by decide +kernel) ⟨Nat.le_of_ble_eq_true rfl, Nat.le_of_ble_eq_true rfl⟩) (Nat.le_of_ble_eq_true rfl) dL_sign_140 rfl ⟨Nat.le_refl _, Nat.le_refl _⟩ (fun r27 hp => ?_)
                    replace hw := hp
                    refine lv_goto (tgt := 147) hx hb dL_sign_143 (by decide) ?_
                    exact hret r27 _ _ hw rfl dL_sign_147
              · replace hw := hw.2 c8
                refine lv_bipush (v := 35) hx hb dL_sign_74 (by decide) ?_
                refine lv_goto (tgt := 125) hx hb dL_sign_76 (by decide) ?_
                refine lv_istore_n (lv' := [(2, .int 35), (1, .int r1), (0, .int z1)]) hx hb dL_sign_125 rfl hl (by decide) rfl (fun ls hl9 => ?_)
                replace hl := hl9
                refine lv_iload_n hx hb dL_sign_126 rfl (lv_at hl 2 rfl) ?_
                refine lv_iconst (v := 3) hx hb dL_sign_127 (by decide) ?_
                refine g_calls (As := [.int z1, .int 3]) (rest := []) ⟨hx, hb, hml, ho, hts⟩ hl.1 (k_L_low (l := l) _ z1 3 (by decide) hw) (va_cwS 2 hts gL_sign_L_low rfl rfl rfl (by decide +kernel) ⟨Nat.le_of_ble_eq_true rfl, Nat.le_of_ble_eq_true rfl⟩) (Nat.le_of_ble_eq_true rfl) dL_sign_128 rfl ⟨Nat.le_refl _, Nat.le_refl _⟩ (fun r28 hp => ?_)
                replace hw := hp
                refine lv_if_ne (tgt := 146) hx hb dL_sign_131 (by decide) (fun c29 => ?_) (fun c29 => ?_)
                · replace hw := hw.1 c29
                  refine lv_iload_n hx hb dL_sign_146 rfl (lv_at hl 0 rfl) ?_
                  exact hret 35 _ _ hw rfl dL_sign_147
                · replace hw := hw.2 c29
                  refine lv_iload_n hx hb dL_sign_134 rfl (lv_at hl 2 rfl) ?_
                  refine lv_iconst (v := 4) hx hb dL_sign_135 (by decide) ?_
                  refine lv_ishr hx hb dL_sign_136 ?_
                  refine lv_sipush (v := 256) hx hb dL_sign_137 (by decide) ?_
                  refine g_calls (As := [.int (z1 >>> (4 &&& 31)), .int 256]) (rest := []) ⟨hx, hb, hml, ho, hts⟩ hl.1 (k_L_low (l := l) _ (z1 >>> (4 &&& 31)) 256 (by decide) hw) (va_cwS 2 hts gL_sign_L_low rfl rfl rfl (by decide +kernel) ⟨Nat.le_of_ble_eq_true rfl, Nat.le_of_ble_eq_true rfl⟩) (Nat.le_of_ble_eq_true rfl) dL_sign_140 rfl ⟨Nat.le_refl _, Nat.le_refl _⟩ (fun r30 hp => ?_)
                  replace hw := hp
                  refine lv_goto (tgt := 147) hx hb dL_sign_143 (by decide) ?_
                  exact hret r30 _ _ hw rfl dL_sign_147
            · replace hw := hw.2 c7
              refine lv_bipush (v := 58) hx hb dL_sign_63 (by decide) ?_
              refine lv_goto (tgt := 125) hx hb dL_sign_65 (by decide) ?_
              refine lv_istore_n (lv' := [(2, .int 58), (1, .int r1), (0, .int z1)]) hx hb dL_sign_125 rfl hl (by decide) rfl (fun ls hl9 => ?_)
              replace hl := hl9
              refine lv_iload_n hx hb dL_sign_126 rfl (lv_at hl 2 rfl) ?_
              refine lv_iconst (v := 3) hx hb dL_sign_127 (by decide) ?_
              refine g_calls (As := [.int z1, .int 3]) (rest := []) ⟨hx, hb, hml, ho, hts⟩ hl.1 (k_L_low (l := l) _ z1 3 (by decide) hw) (va_cwS 2 hts gL_sign_L_low rfl rfl rfl (by decide +kernel) ⟨Nat.le_of_ble_eq_true rfl, Nat.le_of_ble_eq_true rfl⟩) (Nat.le_of_ble_eq_true rfl) dL_sign_128 rfl ⟨Nat.le_refl _, Nat.le_refl _⟩ (fun r31 hp => ?_)
              replace hw := hp
              refine lv_if_ne (tgt := 146) hx hb dL_sign_131 (by decide) (fun c32 => ?_) (fun c32 => ?_)
              · replace hw := hw.1 c32
                refine lv_iload_n hx hb dL_sign_146 rfl (lv_at hl 0 rfl) ?_
                exact hret 58 _ _ hw rfl dL_sign_147
              · replace hw := hw.2 c32
                refine lv_iload_n hx hb dL_sign_134 rfl (lv_at hl 2 rfl) ?_
                refine lv_iconst (v := 4) hx hb dL_sign_135 (by decide) ?_
                refine lv_ishr hx hb dL_sign_136 ?_
                refine lv_sipush (v := 256) hx hb dL_sign_137 (by decide) ?_
                refine g_calls (As := [.int (z1 >>> (4 &&& 31)), .int 256]) (rest := []) ⟨hx, hb, hml, ho, hts⟩ hl.1 (k_L_low (l := l) _ (z1 >>> (4 &&& 31)) 256 (by decide) hw) (va_cwS 2 hts gL_sign_L_low rfl rfl rfl (by decide +kernel) ⟨Nat.le_of_ble_eq_true rfl, Nat.le_of_ble_eq_true rfl⟩) (Nat.le_of_ble_eq_true rfl) dL_sign_140 rfl ⟨Nat.le_refl _, Nat.le_refl _⟩ (fun r33 hp => ?_)
                replace hw := hp
                refine lv_goto (tgt := 147) hx hb dL_sign_143 (by decide) ?_
                exact hret r33 _ _ hw rfl dL_sign_147
          · replace hw := hw.2 c6
            refine lv_bipush (v := 61) hx hb dL_sign_53 (by decide) ?_
            refine lv_goto (tgt := 125) hx hb dL_sign_55 (by decide) ?_
            refine lv_istore_n (lv' := [(2, .int 61), (1, .int r1), (0, .int z1)]) hx hb dL_sign_125 rfl hl (by decide) rfl (fun ls hl9 => ?_)
            replace hl := hl9
            refine lv_iload_n hx hb dL_sign_126 rfl (lv_at hl 2 rfl) ?_
            refine lv_iconst (v := 3) hx hb dL_sign_127 (by decide) ?_
            refine g_calls (As := [.int z1, .int 3]) (rest := []) ⟨hx, hb, hml, ho, hts⟩ hl.1 (k_L_low (l := l) _ z1 3 (by decide) hw) (va_cwS 2 hts gL_sign_L_low rfl rfl rfl (by decide +kernel) ⟨Nat.le_of_ble_eq_true rfl, Nat.le_of_ble_eq_true rfl⟩) (Nat.le_of_ble_eq_true rfl) dL_sign_128 rfl ⟨Nat.le_refl _, Nat.le_refl _⟩ (fun r34 hp => ?_)
            replace hw := hp
            refine lv_if_ne (tgt := 146) hx hb dL_sign_131 (by decide) (fun c35 => ?_) (fun c35 => ?_)
            · replace hw := hw.1 c35
              refine lv_iload_n hx hb dL_sign_146 rfl (lv_at hl 0 rfl) ?_
              exact hret 61 _ _ hw rfl dL_sign_147
            · replace hw := hw.2 c35
              refine lv_iload_n hx hb dL_sign_134 rfl (lv_at hl 2 rfl) ?_
              refine lv_iconst (v := 4) hx hb dL_sign_135 (by decide) ?_
              refine lv_ishr hx hb dL_sign_136 ?_
              refine lv_sipush (v := 256) hx hb dL_sign_137 (by decide) ?_
              refine g_calls (As := [.int (z1 >>> (4 &&& 31)), .int 256]) (rest := []) ⟨hx, hb, hml, ho, hts⟩ hl.1 (k_L_low (l := l) _ (z1 >>> (4 &&& 31)) 256 (by decide) hw) (va_cwS 2 hts gL_sign_L_low rfl rfl rfl (by decide +kernel) ⟨Nat.le_of_ble_eq_true rfl, Nat.le_of_ble_eq_true rfl⟩) (Nat.le_of_ble_eq_true rfl) dL_sign_140 rfl ⟨Nat.le_refl _, Nat.le_refl _⟩ (fun r36 hp => ?_)
              replace hw := hp
              refine lv_goto (tgt := 147) hx hb dL_sign_143 (by decide) ?_
              exact hret r36 _ _ hw rfl dL_sign_147
        · replace hw := hw.2 c5
          refine lv_bipush (v := 92) hx hb dL_sign_43 (by decide) ?_
          refine lv_goto (tgt := 125) hx hb dL_sign_45 (by decide) ?_
          refine lv_istore_n (lv' := [(2, .int 92), (1, .int r1), (0, .int z1)]) hx hb dL_sign_125 rfl hl (by decide) rfl (fun ls hl9 => ?_)
          replace hl := hl9
          refine lv_iload_n hx hb dL_sign_126 rfl (lv_at hl 2 rfl) ?_
          refine lv_iconst (v := 3) hx hb dL_sign_127 (by decide) ?_
          refine g_calls (As := [.int z1, .int 3]) (rest := []) ⟨hx, hb, hml, ho, hts⟩ hl.1 (k_L_low (l := l) _ z1 3 (by decide) hw) (va_cwS 2 hts gL_sign_L_low rfl rfl rfl (by decide +kernel) ⟨Nat.le_of_ble_eq_true rfl, Nat.le_of_ble_eq_true rfl⟩) (Nat.le_of_ble_eq_true rfl) dL_sign_128 rfl ⟨Nat.le_refl _, Nat.le_refl _⟩ (fun r37 hp => ?_)
          replace hw := hp
          refine lv_if_ne (tgt := 146) hx hb dL_sign_131 (by decide) (fun c38 => ?_) (fun c38 => ?_)
          · replace hw := hw.1 c38
            refine lv_iload_n hx hb dL_sign_146 rfl (lv_at hl 0 rfl) ?_
            exact hret 92 _ _ hw rfl dL_sign_147
          · replace hw := hw.2 c38
            refine lv_iload_n hx hb dL_sign_134 rfl (lv_at hl 2 rfl) ?_
            refine lv_iconst (v := 4) hx hb dL_sign_135 (by decide) ?_
            refine lv_ishr hx hb dL_sign_136 ?_
            refine lv_sipush (v := 256) hx hb dL_sign_137 (by decide) ?_
            refine g_calls (As := [.int (z1 >>> (4 &&& 31)), .int 256]) (rest := []) ⟨hx, hb, hml, ho, hts⟩ hl.1 (k_L_low (l := l) _ (z1 >>> (4 &&& 31)) 256 (by decide) hw) (va_cwS 2 hts gL_sign_L_low rfl rfl rfl (by decide +kernel) ⟨Nat.le_of_ble_eq_true rfl, Nat.le_of_ble_eq_true rfl⟩) (Nat.le_of_ble_eq_true rfl) dL_sign_140 rfl ⟨Nat.le_refl _, Nat.le_refl _⟩ (fun r39 hp => ?_)
            replace hw := hp
            refine lv_goto (tgt := 147) hx hb dL_sign_143 (by decide) ?_
            exact hret r39 _ _ hw rfl dL_sign_147
      · replace hw := hw.2 c4
        refine lv_bipush (v := 13) hx hb dL_sign_33 (by decide) ?_
        refine lv_goto (tgt := 125) hx hb dL_sign_35 (by decide) ?_
        refine lv_istore_n (lv' := [(2, .int 13), (1, .int r1), (0, .int z1)]) hx hb dL_sign_125 rfl hl (by decide) rfl (fun ls hl9 => ?_)
        replace hl := hl9
        refine lv_iload_n hx hb dL_sign_126 rfl (lv_at hl 2 rfl) ?_
        refine lv_iconst (v := 3) hx hb dL_sign_127 (by decide) ?_
        refine g_calls (As := [.int z1, .int 3]) (rest := []) ⟨hx, hb, hml, ho, hts⟩ hl.1 (k_L_low (l := l) _ z1 3 (by decide) hw) (va_cwS 2 hts gL_sign_L_low rfl rfl rfl (by decide +kernel) ⟨Nat.le_of_ble_eq_true rfl, Nat.le_of_ble_eq_true rfl⟩) (Nat.le_of_ble_eq_true rfl) dL_sign_128 rfl ⟨Nat.le_refl _, Nat.le_refl _⟩ (fun r40 hp => ?_)
        replace hw := hp
        refine lv_if_ne (tgt := 146) hx hb dL_sign_131 (by decide) (fun c41 => ?_) (fun c41 => ?_)
        · replace hw := hw.1 c41
          refine lv_iload_n hx hb dL_sign_146 rfl (lv_at hl 0 rfl) ?_
          exact hret 13 _ _ hw rfl dL_sign_147
        · replace hw := hw.2 c41
          refine lv_iload_n hx hb dL_sign_134 rfl (lv_at hl 2 rfl) ?_
          refine lv_iconst (v := 4) hx hb dL_sign_135 (by decide) ?_
          refine lv_ishr hx hb dL_sign_136 ?_
          refine lv_sipush (v := 256) hx hb dL_sign_137 (by decide) ?_
          refine g_calls (As := [.int (z1 >>> (4 &&& 31)), .int 256]) (rest := []) ⟨hx, hb, hml, ho, hts⟩ hl.1 (k_L_low (l := l) _ (z1 >>> (4 &&& 31)) 256 (by decide) hw) (va_cwS 2 hts gL_sign_L_low rfl rfl rfl (by decide +kernel) ⟨Nat.le_of_ble_eq_true rfl, Nat.le_of_ble_eq_true rfl⟩) (Nat.le_of_ble_eq_true rfl) dL_sign_140 rfl ⟨Nat.le_refl _, Nat.le_refl _⟩ (fun r42 hp => ?_)
          replace hw := hp
          refine lv_goto (tgt := 147) hx hb dL_sign_143 (by decide) ?_
          exact hret r42 _ _ hw rfl dL_sign_147
    · replace hw := hw.2 c3
      refine lv_bipush (v := 10) hx hb dL_sign_23 (by decide) ?_
      refine lv_goto (tgt := 125) hx hb dL_sign_25 (by decide) ?_
      refine lv_istore_n (lv' := [(2, .int 10), (1, .int r1), (0, .int z1)]) hx hb dL_sign_125 rfl hl (by decide) rfl (fun ls hl9 => ?_)
      replace hl := hl9
      refine lv_iload_n hx hb dL_sign_126 rfl (lv_at hl 2 rfl) ?_
      refine lv_iconst (v := 3) hx hb dL_sign_127 (by decide) ?_
      refine g_calls (As := [.int z1, .int 3]) (rest := []) ⟨hx, hb, hml, ho, hts⟩ hl.1 (k_L_low (l := l) _ z1 3 (by decide) hw) (va_cwS 2 hts gL_sign_L_low rfl rfl rfl (by decide +kernel) ⟨Nat.le_of_ble_eq_true rfl, Nat.le_of_ble_eq_true rfl⟩) (Nat.le_of_ble_eq_true rfl) dL_sign_128 rfl ⟨Nat.le_refl _, Nat.le_refl _⟩ (fun r43 hp => ?_)
      replace hw := hp
      refine lv_if_ne (tgt := 146) hx hb dL_sign_131 (by decide) (fun c44 => ?_) (fun c44 => ?_)
      · replace hw := hw.1 c44
        refine lv_iload_n hx hb dL_sign_146 rfl (lv_at hl 0 rfl) ?_
        exact hret 10 _ _ hw rfl dL_sign_147
      · replace hw := hw.2 c44
        refine lv_iload_n hx hb dL_sign_134 rfl (lv_at hl 2 rfl) ?_
        refine lv_iconst (v := 4) hx hb dL_sign_135 (by decide) ?_
        refine lv_ishr hx hb dL_sign_136 ?_
        refine lv_sipush (v := 256) hx hb dL_sign_137 (by decide) ?_
        refine g_calls (As := [.int (z1 >>> (4 &&& 31)), .int 256]) (rest := []) ⟨hx, hb, hml, ho, hts⟩ hl.1 (k_L_low (l := l) _ (z1 >>> (4 &&& 31)) 256 (by decide) hw) (va_cwS 2 hts gL_sign_L_low rfl rfl rfl (by decide +kernel) ⟨Nat.le_of_ble_eq_true rfl, Nat.le_of_ble_eq_true rfl⟩) (Nat.le_of_ble_eq_true rfl) dL_sign_140 rfl ⟨Nat.le_refl _, Nat.le_refl _⟩ (fun r45 hp => ?_)
        replace hw := hp
        refine lv_goto (tgt := 147) hx hb dL_sign_143 (by decide) ?_
        exact hret r45 _ _ hw rfl dL_sign_147
  · replace hw := hw.2 c2
    refine lv_bipush (v := 9) hx hb dL_sign_13 (by decide) ?_
    refine lv_goto (tgt := 125) hx hb dL_sign_15 (by decide) ?_
    refine lv_istore_n (lv' := [(2, .int 9), (1, .int r1), (0, .int z1)]) hx hb dL_sign_125 rfl hl (by decide) rfl (fun ls hl9 => ?_)
    replace hl := hl9
    refine lv_iload_n hx hb dL_sign_126 rfl (lv_at hl 2 rfl) ?_
    refine lv_iconst (v := 3) hx hb dL_sign_127 (by decide) ?_
    refine g_calls (As := [.int z1, .int 3]) (rest := []) ⟨hx, hb, hml, ho, hts⟩ hl.1 (k_L_low (l := l) _ z1 3 (by decide) hw) (va_cwS 2 hts gL_sign_L_low rfl rfl rfl (by decide +kernel) ⟨Nat.le_of_ble_eq_true rfl, Nat.le_of_ble_eq_true rfl⟩) (Nat.le_of_ble_eq_true rfl) dL_sign_128 rfl ⟨Nat.le_refl _, Nat.le_refl _⟩ (fun r46 hp => ?_)
    replace hw := hp
    refine lv_if_ne (tgt := 146) hx hb dL_sign_131 (by decide) (fun c47 => ?_) (fun c47 => ?_)
    · replace hw := hw.1 c47
      refine lv_iload_n hx hb dL_sign_146 rfl (lv_at hl 0 rfl) ?_
      exact hret 9 _ _ hw rfl dL_sign_147
    · replace hw := hw.2 c47
      refine lv_iload_n hx hb dL_sign_134 rfl (lv_at hl 2 rfl) ?_
      refine lv_iconst (v := 4) hx hb dL_sign_135 (by decide) ?_
      refine lv_ishr hx hb dL_sign_136 ?_
      refine lv_sipush (v := 256) hx hb dL_sign_137 (by decide) ?_
      refine g_calls (As := [.int (z1 >>> (4 &&& 31)), .int 256]) (rest := []) ⟨hx, hb, hml, ho, hts⟩ hl.1 (k_L_low (l := l) _ (z1 >>> (4 &&& 31)) 256 (by decide) hw) (va_cwS 2 hts gL_sign_L_low rfl rfl rfl (by decide +kernel) ⟨Nat.le_of_ble_eq_true rfl, Nat.le_of_ble_eq_true rfl⟩) (Nat.le_of_ble_eq_true rfl) dL_sign_140 rfl ⟨Nat.le_refl _, Nat.le_refl _⟩ (fun r48 hp => ?_)
      replace hw := hp
      refine lv_goto (tgt := 147) hx hb dL_sign_143 (by decide) ?_
      exact hret r48 _ _ hw rfl dL_sign_147
abbrev rm_L_lays (MC MS : Nat) : Room := { frames := 7, cells := MC, slots := MS, locals := 157 }
set_option maxHeartbeats 4000000 in
set_option maxRecDepth 100000 in
theorem t_L_lays_23 (C0 : hX p s m args c cL_lays 8 RL wsL_lays D (gt u.2.1) A u.1 u.2.2)  (post : Int32 → hS → Prop) (hret : ∀ (r : Int32) (S' : hS) (pc : Nat) (lv : List (Nat × Value)) (k n : Nat), k ≤ MC → n ≤ MS → post r S' → narrow .boolean (.int r) = .int r → decode cL_lays pc = .ok (.ireturn, 1) → gG p l e (rm_L_lays MC MS) s m args below meth c Q D A 8 k n (hC X S') pc lv [.int r])  : ∀ (nf : Nat) (x0 : Nat) (x1 : Int32) (x2 : Option Nat) (x3 : Int32) (x4 : Int32) (x6 : Int32) (x7 : Int32) (S : hS) (mc ms k n : Nat), k + mc ≤ MC ∧ n + ms ≤ MS → w_L_lays_23 u post   nf x0 x1 x2 x3 x4 x6 x7 S mc ms → gG p l e (rm_L_lays MC MS) s m args below meth c Q D A 8 k n (hC X S) 23 [(0, .ref x0), (1, .int x1), (2, va_rf x2), (3, .int x3), (4, .int x4), (6, .int x6), (7, .int x7)] [] := by
  obtain ⟨⟨hx, hb, hml, ho, hts, hK, hA⟩, hR⟩ := id C0
  intro nf
  induction nf with
  | zero => intro x0 x1 x2 x3 x4 x6 x7 S mc ms k n hkn hw; exact hw.elim
  | succ nf ih =>
    intro x0 x1 x2 x3 x4 x6 x7 S mc ms k n hkn hw H locs ls hW hl
    rw [w_L_lays_23] at hw
    refine lv_iload hx hb dL_lays_23 (lv_at hl 6 rfl) ?_
    refine lv_iload hx hb dL_lays_25 (lv_at hl 4 rfl) ?_
    refine lv_icmp_ge (tgt := 71) hx hb dL_lays_27 (by decide) (fun c9 => ?_) (fun c9 => ?_)
    · replace hw := hw.1 c9
      refine lv_iload hx hb dL_lays_71 (lv_at hl 5 rfl) ?_
      exact hret x6 S _ _ _ _ (by omega) (by omega) hw.2 hw.1 dL_lays_73 _ _ _ hW hl
    · replace hw := hw.2 c9
      refine lv_iload hx hb dL_lays_30 (lv_at hl 5 rfl) ?_
      refine lv_if_eq (tgt := 62) hx hb dL_lays_32 (by decide) (fun c10 => ?_) (fun c10 => ?_)
      · replace hw := hw.1 c10
        refine lv_iconst (v := 0) hx hb dL_lays_62 (by decide) ?_
        refine lv_istore (lv' := [(6, .int 0), (0, .ref x0), (1, .int x1), (2, va_rf x2), (3, .int x3), (4, .int x4), (7, .int x7)]) hx hb dL_lays_63 hl (by decide) rfl (fun ls hl9 => ?_)
        replace hl := hl9
        obtain ⟨v11, ev11⟩ : ∃ y : Int32, y = x7 + 1 := ⟨_, rfl⟩
        replace hw := hw v11 ev11
        refine lv_iinc (v := v11) (lv' := [(7, .int v11), (6, .int 0), (0, .ref x0), (1, .int x1), (2, va_rf x2), (3, .int x3), (4, .int x4)]) hx hb dL_lays_65 hl (k := 6) rfl (by rw [ev11]; rfl) (by decide) rfl (fun ls hl9 => ?_)
        replace hl := hl9
        refine lv_goto (tgt := 23) hx hb dL_lays_68 (by decide) ?_
        exact ih x0 x1 x2 x3 x4 0 v11 S mc ms _ _ hkn hw _ _ _ hW (lv_sub hl [2, 3, 4, 5, 6, 1, 0] rfl)
      · replace hw := hw.2 c10
        refine lv_aload_n hx hb dL_lays_35 rfl (lv_at hl 0 rfl) ?_
        refine lv_iload_n hx hb dL_lays_36 rfl (lv_at hl 1 rfl) ?_
        refine lv_aloadV_n hx hb dL_lays_37 rfl (lv_at hl 2 rfl) ?_
        refine lv_iload_n hx hb dL_lays_38 rfl (lv_at hl 3 rfl) ?_
        refine lv_iload hx hb dL_lays_39 (lv_at hl 6 rfl) ?_
        refine lv_iadd hx hb dL_lays_41 ?_
        refine h_goi C0 hW (va_runS (As := [va_rf x2, .int (x3 + x7)]) (rest := [.int x1, .ref x0]) ⟨hx, hb, hml, ho, hts⟩ (k_L_cell (l := l) (u := u) (X := X) (sz := H.size) _ x2 (x3 + x7) S  hw) (va_cwS 2 hts gL_lays_L_cell rfl rfl rfl (by decide +kernel) ⟨Nat.le_of_ble_eq_true rfl, Nat.le_of_ble_eq_true rfl⟩) ⟨h_blind, (h_pre C0 hW [va_rf x2, .int (x3 + x7)])⟩ rfl rfl hl.1 rfl (lv_room (Nat.le_of_ble_eq_true rfl)) dL_lays_42 ⟨by show _ ≤ MC; omega, by show _ ≤ MS; omega⟩) (fun r12 S13 H locs h14 hW => ?_)
        obtain ⟨h15, hp⟩ := h14
        rw [h15] at hW
        replace hw := hp
        refine g_calls (As := [.int r12]) (rest := [.int x1, .ref x0]) ⟨hx, hb, hml, ho, hts⟩ hl.1 (k_L_sign (l := l) _ r12 hw) (va_cwS 1 hts gL_lays_L_sign rfl rfl rfl (by decide +kernel) ⟨Nat.le_of_ble_eq_true rfl, Nat.le_of_ble_eq_true rfl⟩) (Nat.le_of_ble_eq_true rfl) dL_lays_45 rfl ⟨by show _ ≤ MC; omega, by show _ ≤ MS; omega⟩ (fun r16 hp => ?_)
        replace hw := hp
        obtain ⟨h22, k18, n19, h20, h21, hw⟩ := hw
        refine h_goi C0 hW (va_runV (As := [.int x1, .int r16]) (rest := []) ⟨hx, hb, hml, ho, hts⟩ (k_X9_append (l := l) (u := u) (X := X) (sz := H.size) _ x0 x1 r16 S k18 n19 hw) (cwV 2 hts gL_lays_X9_append rfl rfl rfl (by decide +kernel) ⟨Nat.le_of_ble_eq_true rfl, Nat.le_of_ble_eq_true rfl⟩) ⟨h_blind, (h_recv C0 hW (ci := 10) rfl h22), (h_pre C0 hW [.ref x0, .int x1, .int r16])⟩ rfl rfl hl.1 rfl (lv_room (Nat.le_of_ble_eq_true rfl)) dL_lays_48 ⟨by show _ ≤ MC; omega, by show _ ≤ MS; omega⟩) (fun r17 S23 H locs h24 hW => ?_)
        replace hw := h24
        have hkn : (k + k18) + (mc - k18) ≤ MC ∧ (n + n19) + (ms - n19) ≤ MS := by omega
        refine lv_iload hx hb dL_lays_51 (lv_at hl 6 rfl) ?_
        refine lv_iconst (v := 1) hx hb dL_lays_53 (by decide) ?_
        refine lv_iadd hx hb dL_lays_54 ?_
        refine lv_icmp_ne (tgt := 62) hx hb dL_lays_55 (by decide) (fun c25 => ?_) (fun c25 => ?_)
        · replace hw := hw.1 c25
          refine lv_iconst (v := 0) hx hb dL_lays_62 (by decide) ?_
          refine lv_istore (lv' := [(6, .int 0), (0, .ref x0), (1, .int x1), (2, va_rf x2), (3, .int x3), (4, .int x4), (7, .int x7)]) hx hb dL_lays_63 hl (by decide) rfl (fun ls hl9 => ?_)
          replace hl := hl9
          obtain ⟨v26, ev26⟩ : ∃ y : Int32, y = x7 + 1 := ⟨_, rfl⟩
          replace hw := hw v26 ev26
          refine lv_iinc (v := v26) (lv' := [(7, .int v26), (6, .int 0), (0, .ref x0), (1, .int x1), (2, va_rf x2), (3, .int x3), (4, .int x4)]) hx hb dL_lays_65 hl (k := 6) rfl (by rw [ev26]; rfl) (by decide) rfl (fun ls hl9 => ?_)
          replace hl := hl9
          refine lv_goto (tgt := 23) hx hb dL_lays_68 (by decide) ?_
          exact ih x0 x1 x2 x3 x4 0 v26 S23 (mc - k18) (ms - n19) _ _ hkn hw _ _ _ hW (lv_sub hl [2, 3, 4, 5, 6, 1, 0] rfl)
        · replace hw := hw.2 c25
          refine lv_iconst (v := 1) hx hb dL_lays_58 (by decide) ?_
          refine lv_goto (tgt := 63) hx hb dL_lays_59 (by decide) ?_
          refine lv_istore (lv' := [(6, .int 1), (0, .ref x0), (1, .int x1), (2, va_rf x2), (3, .int x3), (4, .int x4), (7, .int x7)]) hx hb dL_lays_63 hl (by decide) rfl (fun ls hl9 => ?_)
          replace hl := hl9
          obtain ⟨v27, ev27⟩ : ∃ y : Int32, y = x7 + 1 := ⟨_, rfl⟩
          replace hw := hw v27 ev27
          refine lv_iinc (v := v27) (lv' := [(7, .int v27), (6, .int 1), (0, .ref x0), (1, .int x1), (2, va_rf x2), (3, .int x3), (4, .int x4)]) hx hb dL_lays_65 hl (k := 6) rfl (by rw [ev27]; rfl) (by decide) rfl (fun ls hl9 => ?_)
          replace hl := hl9
          refine lv_goto (tgt := 23) hx hb dL_lays_68 (by decide) ?_
          exact ih x0 x1 x2 x3 x4 1 v27 S23 (mc - k18) (ms - n19) _ _ hkn hw _ _ _ hW (lv_sub hl [2, 3, 4, 5, 6, 1, 0] rfl)
set_option maxHeartbeats 4000000 in
set_option maxRecDepth 100000 in
theorem t_L_lays_0 (C0 : hX p s m args c cL_lays 8 RL wsL_lays D (gt u.2.1) A u.1 u.2.2)  (post : Int32 → hS → Prop) (hret : ∀ (r : Int32) (S' : hS) (pc : Nat) (lv : List (Nat × Value)) (k n : Nat), k ≤ MC → n ≤ MS → post r S' → narrow .boolean (.int r) = .int r → decode cL_lays pc = .ok (.ireturn, 1) → gG p l e (rm_L_lays MC MS) s m args below meth c Q D A 8 k n (hC X S') pc lv [.int r])  : ∀ (p1 : Option Nat) (z2 : Int32) (p3 : Option Nat) (z4 : Int32) (z5 : Int32) (S : hS) (mc ms k n : Nat), k + mc ≤ MC ∧ n + ms ≤ MS → w_L_lays u post   p1 z2 p3 z4 z5 S mc ms → gG p l e (rm_L_lays MC MS) s m args below meth c Q D A 8 k n (hC X S) 0 [(0, va_rf p1), (1, .int z2), (2, va_rf p3), (3, .int z4), (4, .int z5)] [] := by
  obtain ⟨⟨hx, hb, hml, ho, hts, hK, hA⟩, hR⟩ := id C0
  intro p1 z2 p3 z4 z5 S mc ms k n hkn hw H locs ls hW hl
  rw [w_L_lays] at hw
  refine lv_aloadV_n hx hb dL_lays_0 rfl (lv_at hl 0 rfl) ?_
  refine lv_iload_n hx hb dL_lays_1 rfl (lv_at hl 1 rfl) ?_
  obtain ⟨a1, rfl, hw⟩ := hw
  obtain ⟨h3, hw⟩ := hw
  refine h_goi C0 hW (va_runV (As := [.int z2]) (rest := []) ⟨hx, hb, hml, ho, hts⟩ (k_X9_erase (l := l) (u := u) (X := X) (sz := H.size) _ a1 z2 S  hw) (cwV 1 hts gL_lays_X9_erase rfl rfl rfl (by decide +kernel) ⟨Nat.le_of_ble_eq_true rfl, Nat.le_of_ble_eq_true rfl⟩) ⟨h_blind, (h_recv C0 hW (ci := 10) rfl h3), (h_pre C0 hW [.ref a1, .int z2])⟩ rfl rfl hl.1 rfl (lv_room (Nat.le_of_ble_eq_true rfl)) dL_lays_2 ⟨by show _ ≤ MC; omega, by show _ ≤ MS; omega⟩) (fun r2 S4 H locs h5 hW => ?_)
  replace hw := h5
  refine lv_istore (lv' := [(5, .int r2), (0, .ref a1), (1, .int z2), (2, va_rf p3), (3, .int z4), (4, .int z5)]) hx hb dL_lays_5 hl (by decide) rfl (fun ls hl9 => ?_)
  replace hl := hl9
  refine lv_iload hx hb dL_lays_7 (lv_at hl 0 rfl) ?_
  refine lv_iconst (v := (-1)) hx hb dL_lays_9 (by decide) ?_
  refine lv_icmp_eq (tgt := 17) hx hb dL_lays_10 (by decide) (fun c6 => ?_) (fun c6 => ?_)
  · replace hw := hw.1 c6
    refine lv_iconst (v := 0) hx hb dL_lays_17 (by decide) ?_
    refine lv_istore (lv' := [(6, .int 0), (5, .int r2), (0, .ref a1), (1, .int z2), (2, va_rf p3), (3, .int z4), (4, .int z5)]) hx hb dL_lays_18 hl (by decide) rfl (fun ls hl9 => ?_)
    replace hl := hl9
    refine lv_iconst (v := 0) hx hb dL_lays_20 (by decide) ?_
    refine lv_istore (lv' := [(7, .int 0), (6, .int 0), (5, .int r2), (0, .ref a1), (1, .int z2), (2, va_rf p3), (3, .int z4), (4, .int z5)]) hx hb dL_lays_21 hl (by decide) rfl (fun ls hl9 => ?_)
    replace hl := hl9
    obtain ⟨n7, hw⟩ := hw
    exact t_L_lays_23 C0  post hret  n7 a1 z2 p3 z4 z5 0 0 S4 mc ms _ _ hkn hw _ _ _ hW (lv_sub hl [3, 4, 5, 6, 7, 1, 0] rfl)
  · replace hw := hw.2 c6
    refine lv_iconst (v := 1) hx hb dL_lays_13 (by decide) ?_
    refine lv_goto (tgt := 18) hx hb dL_lays_14 (by decide) ?_
    refine lv_istore (lv' := [(6, .int 1), (5, .int r2), (0, .ref a1), (1, .int z2), (2, va_rf p3), (3, .int z4), (4, .int z5)]) hx hb dL_lays_18 hl (by decide) rfl (fun ls hl9 => ?_)
    replace hl := hl9
    refine lv_iconst (v := 0) hx hb dL_lays_20 (by decide) ?_
    refine lv_istore (lv' := [(7, .int 0), (6, .int 1), (5, .int r2), (0, .ref a1), (1, .int z2), (2, va_rf p3), (3, .int z4), (4, .int z5)]) hx hb dL_lays_21 hl (by decide) rfl (fun ls hl9 => ?_)
    replace hl := hl9
    obtain ⟨n8, hw⟩ := hw
    exact t_L_lays_23 C0  post hret  n8 a1 z2 p3 z4 z5 1 0 S4 mc ms _ _ hkn hw _ _ _ hW (lv_sub hl [3, 4, 5, 6, 7, 1, 0] rfl)
set_option maxHeartbeats 4000000 in
set_option maxRecDepth 100000 in
theorem k_L_lays {l : Launch} {D : va_G} {u : hU} {X : va_W} {sz : Nat} (post : Int32 → hS → Prop) (p1 : Option Nat) (z2 : Int32) (p3 : Option Nat) (z4 : Int32) (z5 : Int32) (S : hS) (mc ms : Nat) (hw : w_L_lays u post  p1 z2 p3 z4 z5 S mc ms) : hMi l yL_lays wsL_lays (rm_L_lays mc ms) D (gt u.2.1) u.1 u.2.2 sz X S [va_rf p1, .int z2, va_rf p3, .int z4, .int z5] post mc ms := by
  refine hMi_of (cc := cL_lays) (nL := 8) (ty := .boolean) (own := RL) (by decide) rfl rfl (by cases p1 <;> cases p3 <;> exact Nat.le_of_ble_eq_true rfl) ?_
  intro p e s m args below meth c A Q C0 hin hret
  have hfin := t_L_lays_0 C0  post hret p1 z2 p3 z4 z5 S mc ms 0 0 ⟨by omega, by omega⟩ hw
  intro H locs ls hW hl
  refine hfin H locs ls hW ?_
  cases p1 <;> cases p3 <;> exact hl
abbrev rm_L_one (MC MS : Nat) : Room := { frames := 7, cells := MC, slots := MS, locals := 157 }
set_option maxHeartbeats 4000000 in
set_option maxRecDepth 100000 in
theorem t_L_one_0 (C0 : hX p s m args c cL_one 4 RL wsL_one D (gt u.2.1) A u.1 u.2.2)  (post : Int32 → hS → Prop) (hret : ∀ (r : Int32) (S' : hS) (pc : Nat) (lv : List (Nat × Value)) (k n : Nat), k ≤ MC → n ≤ MS → post r S' → narrow .boolean (.int r) = .int r → decode cL_one pc = .ok (.ireturn, 1) → gG p l e (rm_L_one MC MS) s m args below meth c Q D A 4 k n (hC X S') pc lv [.int r])  : ∀ (p1 : Option Nat) (z2 : Int32) (z3 : Int32) (S : hS) (mc ms k n : Nat), k + mc ≤ MC ∧ n + ms ≤ MS → w_L_one u post   p1 z2 z3 S mc ms → gG p l e (rm_L_one MC MS) s m args below meth c Q D A 4 k n (hC X S) 0 [(0, va_rf p1), (1, .int z2), (2, .int z3)] [] := by
  obtain ⟨⟨hx, hb, hml, ho, hts, hK, hA⟩, hR⟩ := id C0
  intro p1 z2 z3 S mc ms k n hkn hw H locs ls hW hl
  rw [w_L_one] at hw
  refine lv_aloadV_n hx hb dL_one_0 rfl (lv_at hl 0 rfl) ?_
  refine lv_iload_n hx hb dL_one_1 rfl (lv_at hl 1 rfl) ?_
  obtain ⟨a1, rfl, hw⟩ := hw
  obtain ⟨h3, hw⟩ := hw
  refine h_goi C0 hW (va_runV (As := [.int z2]) (rest := []) ⟨hx, hb, hml, ho, hts⟩ (k_X9_erase (l := l) (u := u) (X := X) (sz := H.size) _ a1 z2 S  hw) (cwV 1 hts gL_one_X9_erase rfl rfl rfl (by decide +kernel) ⟨Nat.le_of_ble_eq_true rfl, Nat.le_of_ble_eq_true rfl⟩) ⟨h_blind, (h_recv C0 hW (ci := 10) rfl h3), (h_pre C0 hW [.ref a1, .int z2])⟩ rfl rfl hl.1 rfl (lv_room (Nat.le_of_ble_eq_true rfl)) dL_one_2 ⟨by show _ ≤ MC; omega, by show _ ≤ MS; omega⟩) (fun r2 S4 H locs h5 hW => ?_)
  replace hw := h5
  refine lv_istore_n (lv' := [(3, .int r2), (0, .ref a1), (1, .int z2), (2, .int z3)]) hx hb dL_one_5 rfl hl (by decide) rfl (fun ls hl9 => ?_)
  replace hl := hl9
  refine lv_iload_n hx hb dL_one_6 rfl (lv_at hl 0 rfl) ?_
  refine lv_iconst (v := (-1)) hx hb dL_one_7 (by decide) ?_
  refine lv_icmp_eq (tgt := 25) hx hb dL_one_8 (by decide) (fun c6 => ?_) (fun c6 => ?_)
  · replace hw := hw.1 c6
    refine lv_iconst (v := 0) hx hb dL_one_25 (by decide) ?_
    exact hret 0 S4 _ _ _ _ (by omega) (by omega) hw (by decide) dL_one_26 _ _ _ hW hl
  · replace hw := hw.2 c6
    refine lv_aload_n hx hb dL_one_11 rfl (lv_at hl 1 rfl) ?_
    refine lv_iload_n hx hb dL_one_12 rfl (lv_at hl 2 rfl) ?_
    refine lv_iload_n hx hb dL_one_13 rfl (lv_at hl 3 rfl) ?_
    obtain ⟨h12, k8, n9, h10, h11, hw⟩ := hw
    refine h_goi C0 hW (va_runV (As := [.int z2, .int z3]) (rest := []) ⟨hx, hb, hml, ho, hts⟩ (k_X9_append (l := l) (u := u) (X := X) (sz := H.size) _ a1 z2 z3 S4 k8 n9 hw) (cwV 2 hts gL_one_X9_append rfl rfl rfl (by decide +kernel) ⟨Nat.le_of_ble_eq_true rfl, Nat.le_of_ble_eq_true rfl⟩) ⟨h_blind, (h_recv C0 hW (ci := 10) rfl h12), (h_pre C0 hW [.ref a1, .int z2, .int z3])⟩ rfl rfl hl.1 rfl (lv_room (Nat.le_of_ble_eq_true rfl)) dL_one_14 ⟨by show _ ≤ MC; omega, by show _ ≤ MS; omega⟩) (fun r7 S13 H locs h14 hW => ?_)
    replace hw := h14
    have hkn : (k + k8) + (mc - k8) ≤ MC ∧ (n + n9) + (ms - n9) ≤ MS := by omega
    refine lv_iconst (v := 1) hx hb dL_one_17 (by decide) ?_
    refine lv_icmp_ne (tgt := 25) hx hb dL_one_18 (by decide) (fun c15 => ?_) (fun c15 => ?_)
    · replace hw := hw.1 c15
      refine lv_iconst (v := 0) hx hb dL_one_25 (by decide) ?_
      exact hret 0 S13 _ _ _ _ (by omega) (by omega) hw (by decide) dL_one_26 _ _ _ hW hl
    · replace hw := hw.2 c15
      refine lv_iconst (v := 1) hx hb dL_one_21 (by decide) ?_
      refine lv_goto (tgt := 26) hx hb dL_one_22 (by decide) ?_
      exact hret 1 S13 _ _ _ _ (by omega) (by omega) hw (by decide) dL_one_26 _ _ _ hW hl
set_option maxHeartbeats 4000000 in
set_option maxRecDepth 100000 in
theorem k_L_one {l : Launch} {D : va_G} {u : hU} {X : va_W} {sz : Nat} (post : Int32 → hS → Prop) (p1 : Option Nat) (z2 : Int32) (z3 : Int32) (S : hS) (mc ms : Nat) (hw : w_L_one u post  p1 z2 z3 S mc ms) : hMi l yL_one wsL_one (rm_L_one mc ms) D (gt u.2.1) u.1 u.2.2 sz X S [va_rf p1, .int z2, .int z3] post mc ms := by
  refine hMi_of (cc := cL_one) (nL := 4) (ty := .boolean) (own := RL) (by decide) rfl rfl (by cases p1 <;> exact Nat.le_of_ble_eq_true rfl) ?_
  intro p e s m args below meth c A Q C0 hin hret
  have hfin := t_L_one_0 C0  post hret p1 z2 z3 S mc ms 0 0 ⟨by omega, by omega⟩ hw
  intro H locs ls hW hl
  refine hfin H locs ls hW ?_
  cases p1 <;> exact hl
abbrev rm_L_written (MC MS : Nat) : Room := { frames := 11, cells := MC, slots := MS, locals := 246 }
set_option maxHeartbeats 4000000 in
set_option maxRecDepth 100000 in
theorem t_L_written_183 (C0 : hX p s m args c cL_written 5 RL wsL_written D (gt u.2.1) A u.1 u.2.2)  (post : Int32 → hS → Prop) (hret : ∀ (r : Int32) (S' : hS) (pc : Nat) (lv : List (Nat × Value)) (k n : Nat), k ≤ MC → n ≤ MS → post r S' → narrow .boolean (.int r) = .int r → decode cL_written pc = .ok (.ireturn, 1) → gG p l e (rm_L_written MC MS) s m args below meth c Q D A 5 k n (hC X S') pc lv [.int r]) (K100 : Option Nat → Int32 → Int32 → hS → Nat → Nat → Prop) (hK100 : ∀ (x0 : Option Nat) (x2 : Int32) (x3 : Int32) (S : hS) (mc ms k n : Nat), k + mc ≤ MC ∧ n + ms ≤ MS → K100 x0 x2 x3 S mc ms → gG p l e (rm_L_written MC MS) s m args below meth c Q D A 5 k n (hC X S) 100 [(0, va_rf x0), (2, .int x2), (3, .int x3)] []) : ∀ (x0 : Nat) (x3 : Int32) (x4 : Int32) (s0 : Int32) (S : hS) (mc ms k n : Nat), k + mc ≤ MC ∧ n + ms ≤ MS → w_L_written_183 u post  K100 x0 x3 x4 s0 S mc ms → gG p l e (rm_L_written MC MS) s m args below meth c Q D A 5 k n (hC X S) 183 [(0, .ref x0), (3, .int x3), (4, .int x4)] [.int s0] := by
  obtain ⟨⟨hx, hb, hml, ho, hts, hK, hA⟩, hR⟩ := id C0
  intro x0 x3 x4 s0 S mc ms k n hkn hw H locs ls hW hl
  rw [w_L_written_183] at hw
  refine lv_istore_n (lv' := [(2, .int s0), (0, .ref x0), (3, .int x3), (4, .int x4)]) hx hb dL_written_183 rfl hl (by decide) rfl (fun ls hl9 => ?_)
  replace hl := hl9
  refine lv_iload_n hx hb dL_written_184 rfl (lv_at hl 0 rfl) ?_
  refine lv_if_eq (tgt := 202) hx hb dL_written_185 (by decide) (fun c109 => ?_) (fun c109 => ?_)
  · replace hw := hw.1 c109
    refine lv_iconst (v := 0) hx hb dL_written_202 (by decide) ?_
    refine lv_istore_n (lv' := [(2, .int 0), (0, .ref x0), (3, .int x3), (4, .int x4)]) hx hb dL_written_203 rfl hl (by decide) rfl (fun ls hl9 => ?_)
    replace hl := hl9
    obtain ⟨v110, ev110⟩ : ∃ y : Int32, y = x3 + 1 := ⟨_, rfl⟩
    replace hw := hw v110 ev110
    refine lv_iinc (v := v110) (lv' := [(3, .int v110), (2, .int 0), (0, .ref x0), (4, .int x4)]) hx hb dL_written_204 hl (k := 2) rfl (by rw [ev110]; rfl) (by decide) rfl (fun ls hl9 => ?_)
    replace hl := hl9
    refine lv_goto (tgt := 100) hx hb dL_written_207 (by decide) ?_
    exact hK100 (some x0) 0 v110 S mc ms _ _ hkn hw _ _ _ hW (lv_sub hl [2, 1, 0] rfl)
  · replace hw := hw.2 c109
    refine lv_aload_n hx hb dL_written_188 rfl (lv_at hl 1 rfl) ?_
    refine lv_iconst (v := 3) hx hb dL_written_189 (by decide) ?_
    obtain ⟨h116, k112, n113, h114, h115, hw⟩ := hw
    refine h_goi C0 hW (va_runV (As := [.int 3]) (rest := []) ⟨hx, hb, hml, ho, hts⟩ (k_X9_write (l := l) (u := u) (X := X) (sz := H.size) _ x0 3 S k112 n113 hw) (cwV 1 hts gL_written_X9_write rfl rfl rfl (by decide +kernel) ⟨Nat.le_of_ble_eq_true rfl, Nat.le_of_ble_eq_true rfl⟩) ⟨h_blind, (h_recv C0 hW (ci := 10) rfl h116), (h_pre C0 hW [.ref x0, .int 3])⟩ rfl rfl hl.1 rfl (lv_room (Nat.le_of_ble_eq_true rfl)) dL_written_190 ⟨by show _ ≤ MC; omega, by show _ ≤ MS; omega⟩) (fun r111 S117 H locs h118 hW => ?_)
    replace hw := h118
    have hkn : (k + k112) + (mc - k112) ≤ MC ∧ (n + n113) + (ms - n113) ≤ MS := by omega
    refine lv_iload hx hb dL_written_193 (lv_at hl 3 rfl) ?_
    refine lv_icmp_ne (tgt := 202) hx hb dL_written_195 (by decide) (fun c119 => ?_) (fun c119 => ?_)
    · replace hw := hw.1 c119
      refine lv_iconst (v := 0) hx hb dL_written_202 (by decide) ?_
      refine lv_istore_n (lv' := [(2, .int 0), (0, .ref x0), (3, .int x3), (4, .int x4)]) hx hb dL_written_203 rfl hl (by decide) rfl (fun ls hl9 => ?_)
      replace hl := hl9
      obtain ⟨v120, ev120⟩ : ∃ y : Int32, y = x3 + 1 := ⟨_, rfl⟩
      replace hw := hw v120 ev120
      refine lv_iinc (v := v120) (lv' := [(3, .int v120), (2, .int 0), (0, .ref x0), (4, .int x4)]) hx hb dL_written_204 hl (k := 2) rfl (by rw [ev120]; rfl) (by decide) rfl (fun ls hl9 => ?_)
      replace hl := hl9
      refine lv_goto (tgt := 100) hx hb dL_written_207 (by decide) ?_
      exact hK100 (some x0) 0 v120 S117 (mc - k112) (ms - n113) _ _ hkn hw _ _ _ hW (lv_sub hl [2, 1, 0] rfl)
    · replace hw := hw.2 c119
      refine lv_iconst (v := 1) hx hb dL_written_198 (by decide) ?_
      refine lv_goto (tgt := 203) hx hb dL_written_199 (by decide) ?_
      refine lv_istore_n (lv' := [(2, .int 1), (0, .ref x0), (3, .int x3), (4, .int x4)]) hx hb dL_written_203 rfl hl (by decide) rfl (fun ls hl9 => ?_)
      replace hl := hl9
      obtain ⟨v121, ev121⟩ : ∃ y : Int32, y = x3 + 1 := ⟨_, rfl⟩
      replace hw := hw v121 ev121
      refine lv_iinc (v := v121) (lv' := [(3, .int v121), (2, .int 1), (0, .ref x0), (4, .int x4)]) hx hb dL_written_204 hl (k := 2) rfl (by rw [ev121]; rfl) (by decide) rfl (fun ls hl9 => ?_)
      replace hl := hl9
      refine lv_goto (tgt := 100) hx hb dL_written_207 (by decide) ?_
      exact hK100 (some x0) 1 v121 S117 (mc - k112) (ms - n113) _ _ hkn hw _ _ _ hW (lv_sub hl [2, 1, 0] rfl)
set_option maxHeartbeats 4000000 in
set_option maxRecDepth 100000 in
theorem t_L_written_182 (C0 : hX p s m args c cL_written 5 RL wsL_written D (gt u.2.1) A u.1 u.2.2)  (post : Int32 → hS → Prop) (hret : ∀ (r : Int32) (S' : hS) (pc : Nat) (lv : List (Nat × Value)) (k n : Nat), k ≤ MC → n ≤ MS → post r S' → narrow .boolean (.int r) = .int r → decode cL_written pc = .ok (.ireturn, 1) → gG p l e (rm_L_written MC MS) s m args below meth c Q D A 5 k n (hC X S') pc lv [.int r]) (K100 : Option Nat → Int32 → Int32 → hS → Nat → Nat → Prop) (hK100 : ∀ (x0 : Option Nat) (x2 : Int32) (x3 : Int32) (S : hS) (mc ms k n : Nat), k + mc ≤ MC ∧ n + ms ≤ MS → K100 x0 x2 x3 S mc ms → gG p l e (rm_L_written MC MS) s m args below meth c Q D A 5 k n (hC X S) 100 [(0, va_rf x0), (2, .int x2), (3, .int x3)] []) : ∀ (x0 : Nat) (x3 : Int32) (x4 : Int32) (S : hS) (mc ms k n : Nat), k + mc ≤ MC ∧ n + ms ≤ MS → w_L_written_182 u post  K100 x0 x3 x4 S mc ms → gG p l e (rm_L_written MC MS) s m args below meth c Q D A 5 k n (hC X S) 182 [(0, .ref x0), (3, .int x3), (4, .int x4)] [] := by
  obtain ⟨⟨hx, hb, hml, ho, hts, hK, hA⟩, hR⟩ := id C0
  intro x0 x3 x4 S mc ms k n hkn hw H locs ls hW hl
  rw [w_L_written_182] at hw
  refine lv_iconst (v := 0) hx hb dL_written_182 (by decide) ?_
  exact t_L_written_183 C0  post hret K100 hK100 x0 x3 x4 0 S mc ms _ _ hkn hw _ _ _ hW (lv_sub hl [0, 1, 2] rfl)
set_option maxHeartbeats 4000000 in
set_option maxRecDepth 100000 in
theorem t_L_written_100 (C0 : hX p s m args c cL_written 5 RL wsL_written D (gt u.2.1) A u.1 u.2.2)  (post : Int32 → hS → Prop) (hret : ∀ (r : Int32) (S' : hS) (pc : Nat) (lv : List (Nat × Value)) (k n : Nat), k ≤ MC → n ≤ MS → post r S' → narrow .boolean (.int r) = .int r → decode cL_written pc = .ok (.ireturn, 1) → gG p l e (rm_L_written MC MS) s m args below meth c Q D A 5 k n (hC X S') pc lv [.int r])  : ∀ (nf : Nat) (x0 : Option Nat) (x2 : Int32) (x3 : Int32) (S : hS) (mc ms k n : Nat), k + mc ≤ MC ∧ n + ms ≤ MS → w_L_written_100 u post   nf x0 x2 x3 S mc ms → gG p l e (rm_L_written MC MS) s m args below meth c Q D A 5 k n (hC X S) 100 [(0, va_rf x0), (2, .int x2), (3, .int x3)] [] := by
  obtain ⟨⟨hx, hb, hml, ho, hts, hK, hA⟩, hR⟩ := id C0
  intro nf
  induction nf with
  | zero => intro x0 x2 x3 S mc ms k n hkn hw; exact hw.elim
  | succ nf ih =>
    intro x0 x2 x3 S mc ms k n hkn hw H locs ls hW hl
    rw [w_L_written_100] at hw
    refine lv_iload_n hx hb dL_written_100 rfl (lv_at hl 2 rfl) ?_
    refine lv_iconst (v := 3) hx hb dL_written_101 (by decide) ?_
    refine lv_icmp_ge (tgt := 210) hx hb dL_written_102 (by decide) (fun c47 => ?_) (fun c47 => ?_)
    · replace hw := hw.1 c47
      refine lv_iload_n hx hb dL_written_210 rfl (lv_at hl 1 rfl) ?_
      exact hret x2 S _ _ _ _ (by omega) (by omega) hw.2 hw.1 dL_written_211 _ _ _ hW hl
    · replace hw := hw.2 c47
      refine lv_iload_n hx hb dL_written_105 rfl (lv_at hl 1 rfl) ?_
      refine lv_if_eq (tgt := 210) hx hb dL_written_106 (by decide) (fun c48 => ?_) (fun c48 => ?_)
      · replace hw := hw.1 c48
        refine lv_iload_n hx hb dL_written_210 rfl (lv_at hl 1 rfl) ?_
        exact hret x2 S _ _ _ _ (by omega) (by omega) hw.2 hw.1 dL_written_211 _ _ _ hW hl
      · replace hw := hw.2 c48
        refine lv_aloadV_n hx hb dL_written_109 rfl (lv_at hl 0 rfl) ?_
        refine lv_iload_n hx hb dL_written_110 rfl (lv_at hl 2 rfl) ?_
        obtain ⟨a49, rfl, hw⟩ := hw
        obtain ⟨h55, k51, n52, h53, h54, hw⟩ := hw
        refine h_goi C0 hW (va_runV (As := [.int x3]) (rest := []) ⟨hx, hb, hml, ho, hts⟩ (k_X9_write (l := l) (u := u) (X := X) (sz := H.size) _ a49 x3 S k51 n52 hw) (cwV 1 hts gL_written_X9_write rfl rfl rfl (by decide +kernel) ⟨Nat.le_of_ble_eq_true rfl, Nat.le_of_ble_eq_true rfl⟩) ⟨h_blind, (h_recv C0 hW (ci := 10) rfl h55), (h_pre C0 hW [.ref a49, .int x3])⟩ rfl rfl hl.1 rfl (lv_room (Nat.le_of_ble_eq_true rfl)) dL_written_111 ⟨by show _ ≤ MC; omega, by show _ ≤ MS; omega⟩) (fun r50 S56 H locs h57 hW => ?_)
        replace hw := h57
        have hkn : (k + k51) + (mc - k51) ≤ MC ∧ (n + n52) + (ms - n52) ≤ MS := by omega
        refine lv_istore (lv' := [(4, .int r50), (0, .ref a49), (2, .int x2), (3, .int x3)]) hx hb dL_written_114 hl (by decide) rfl (fun ls hl9 => ?_)
        replace hl := hl9
        refine lv_iload hx hb dL_written_116 (lv_at hl 0 rfl) ?_
        refine lv_aload_n hx hb dL_written_118 rfl (lv_at hl 1 rfl) ?_
        obtain ⟨h59, hw⟩ := hw
        refine h_goi C0 hW (va_runV (As := []) (rest := [.int r50]) ⟨hx, hb, hml, ho, hts⟩ (k_X9_tapeLength (l := l) (u := u) (X := X) (sz := H.size) _ a49  S56  hw) (cwV 0 hts gL_written_X9_tapeLength rfl rfl rfl (by decide +kernel) ⟨Nat.le_of_ble_eq_true rfl, Nat.le_of_ble_eq_true rfl⟩) ⟨h_blind, (h_recv C0 hW (ci := 10) rfl h59), (h_pre C0 hW [.ref a49])⟩ rfl rfl hl.1 rfl (lv_room (Nat.le_of_ble_eq_true rfl)) dL_written_119 ⟨by show _ ≤ MC; omega, by show _ ≤ MS; omega⟩) (fun r58 S60 H locs h61 hW => ?_)
        obtain ⟨h62, hp⟩ := h61
        rw [h62] at hW
        replace hw := hp
        refine lv_icmp_ne (tgt := 182) hx hb dL_written_122 (by decide) (fun c63 => ?_) (fun c63 => ?_)
        · replace hw := hw.1 c63
          exact t_L_written_182 C0  post hret (w_L_written_100 u post   nf) ih a49 x3 r50 S56 (mc - k51) (ms - n52) _ _ hkn hw _ _ _ hW (lv_sub hl [1, 3, 0] rfl)
        · replace hw := hw.2 c63
          refine lv_aload_n hx hb dL_written_125 rfl (lv_at hl 1 rfl) ?_
          obtain ⟨h69, k65, n66, h67, h68, hw⟩ := hw
          refine h_goi C0 hW (va_runV (As := []) (rest := []) ⟨hx, hb, hml, ho, hts⟩ (k_X9_brokenAt (l := l) (u := u) (X := X) (sz := H.size) _ a49  S56 k65 n66 hw) (cwV 0 hts gL_written_X9_brokenAt rfl rfl rfl (by decide +kernel) ⟨Nat.le_of_ble_eq_true rfl, Nat.le_of_ble_eq_true rfl⟩) ⟨h_blind, (h_recv C0 hW (ci := 10) rfl h69), (h_pre C0 hW [.ref a49])⟩ rfl rfl hl.1 rfl (lv_room (Nat.le_of_ble_eq_true rfl)) dL_written_126 ⟨by show _ ≤ MC; omega, by show _ ≤ MS; omega⟩) (fun r64 S70 H locs h71 hW => ?_)
          replace hw := h71
          have hkn : ((k + k51) + k65) + ((mc - k51) - k65) ≤ MC ∧ ((n + n52) + n66) + ((ms - n52) - n66) ≤ MS := by omega
          refine lv_bipush (v := (-5)) hx hb dL_written_129 (by decide) ?_
          refine lv_icmp_ne (tgt := 182) hx hb dL_written_131 (by decide) (fun c72 => ?_) (fun c72 => ?_)
          · replace hw := hw.1 c72
            exact t_L_written_182 C0  post hret (w_L_written_100 u post   nf) ih a49 x3 r50 S70 ((mc - k51) - k65) ((ms - n52) - n66) _ _ hkn hw _ _ _ hW (lv_sub hl [1, 3, 0] rfl)
          · replace hw := hw.2 c72
            refine lv_aload_n hx hb dL_written_134 rfl (lv_at hl 1 rfl) ?_
            refine lv_iconst (v := 3) hx hb dL_written_135 (by decide) ?_
            obtain ⟨h74, hw⟩ := hw
            refine h_goi C0 hW (va_runV (As := [.int 3]) (rest := []) ⟨hx, hb, hml, ho, hts⟩ (k_X9_empty (l := l) (u := u) (X := X) (sz := H.size) _ a49 3 S70  hw) (cwV 1 hts gL_written_X9_empty rfl rfl rfl (by decide +kernel) ⟨Nat.le_of_ble_eq_true rfl, Nat.le_of_ble_eq_true rfl⟩) ⟨h_blind, (h_recv C0 hW (ci := 10) rfl h74), (h_pre C0 hW [.ref a49, .int 3])⟩ rfl rfl hl.1 rfl (lv_room (Nat.le_of_ble_eq_true rfl)) dL_written_136 ⟨by show _ ≤ MC; omega, by show _ ≤ MS; omega⟩) (fun r73 S75 H locs h76 hW => ?_)
            replace hw := h76
            refine lv_if_lt (tgt := 182) hx hb dL_written_139 (by decide) (fun c77 => ?_) (fun c77 => ?_)
            · replace hw := hw.1 c77
              exact t_L_written_182 C0  post hret (w_L_written_100 u post   nf) ih a49 x3 r50 S75 ((mc - k51) - k65) ((ms - n52) - n66) _ _ hkn hw _ _ _ hW (lv_sub hl [1, 3, 0] rfl)
            · replace hw := hw.2 c77
              refine lv_aload_n hx hb dL_written_142 rfl (lv_at hl 1 rfl) ?_
              refine lv_iconst (v := 3) hx hb dL_written_143 (by decide) ?_
              obtain ⟨h83, k79, n80, h81, h82, hw⟩ := hw
              refine h_goi C0 hW (va_runV (As := [.int 3]) (rest := []) ⟨hx, hb, hml, ho, hts⟩ (k_X9_load (l := l) (u := u) (X := X) (sz := H.size) _ a49 3 S75 k79 n80 hw) (cwV 1 hts gL_written_X9_load rfl rfl rfl (by decide +kernel) ⟨Nat.le_of_ble_eq_true rfl, Nat.le_of_ble_eq_true rfl⟩) ⟨h_blind, (h_recv C0 hW (ci := 10) rfl h83), (h_pre C0 hW [.ref a49, .int 3])⟩ rfl rfl hl.1 rfl (lv_room (Nat.le_of_ble_eq_true rfl)) dL_written_144 ⟨by show _ ≤ MC; omega, by show _ ≤ MS; omega⟩) (fun r78 S84 H locs h85 hW => ?_)
              replace hw := h85
              have hkn : (((k + k51) + k65) + k79) + (((mc - k51) - k65) - k79) ≤ MC ∧ (((n + n52) + n66) + n80) + (((ms - n52) - n66) - n80) ≤ MS := by omega
              refine lv_aload_n hx hb dL_written_147 rfl (lv_at hl 1 rfl) ?_
              refine lv_iload_n hx hb dL_written_148 rfl (lv_at hl 3 rfl) ?_
              obtain ⟨h87, hw⟩ := hw
              refine h_goi C0 hW (va_runV (As := [.int x3]) (rest := [.int r78]) ⟨hx, hb, hml, ho, hts⟩ (k_X9_size (l := l) (u := u) (X := X) (sz := H.size) _ a49 x3 S84  hw) (cwV 1 hts gL_written_X9_size rfl rfl rfl (by decide +kernel) ⟨Nat.le_of_ble_eq_true rfl, Nat.le_of_ble_eq_true rfl⟩) ⟨h_blind, (h_recv C0 hW (ci := 10) rfl h87), (h_pre C0 hW [.ref a49, .int x3])⟩ rfl rfl hl.1 rfl (lv_room (Nat.le_of_ble_eq_true rfl)) dL_written_149 ⟨by show _ ≤ MC; omega, by show _ ≤ MS; omega⟩) (fun r86 S88 H locs h89 hW => ?_)
              obtain ⟨h90, hp⟩ := h89
              rw [h90] at hW
              replace hw := hp
              refine lv_icmp_ne (tgt := 182) hx hb dL_written_152 (by decide) (fun c91 => ?_) (fun c91 => ?_)
              · replace hw := hw.1 c91
                exact t_L_written_182 C0  post hret (w_L_written_100 u post   nf) ih a49 x3 r50 S84 (((mc - k51) - k65) - k79) (((ms - n52) - n66) - n80) _ _ hkn hw _ _ _ hW (lv_sub hl [1, 3, 0] rfl)
              · replace hw := hw.2 c91
                refine lv_aload_n hx hb dL_written_155 rfl (lv_at hl 1 rfl) ?_
                refine lv_iload_n hx hb dL_written_156 rfl (lv_at hl 3 rfl) ?_
                refine lv_iconst (v := 3) hx hb dL_written_157 (by decide) ?_
                obtain ⟨h93, hw⟩ := hw
                refine h_goi C0 hW (va_runV (As := [.int x3, .int 3]) (rest := []) ⟨hx, hb, hml, ho, hts⟩ (k_X9_alike (l := l) (u := u) (X := X) (sz := H.size) _ a49 x3 3 S84  hw) (cwV 2 hts gL_written_X9_alike rfl rfl rfl (by decide +kernel) ⟨Nat.le_of_ble_eq_true rfl, Nat.le_of_ble_eq_true rfl⟩) ⟨h_blind, (h_recv C0 hW (ci := 10) rfl h93), (h_pre C0 hW [.ref a49, .int x3, .int 3])⟩ rfl rfl hl.1 rfl (lv_room (Nat.le_of_ble_eq_true rfl)) dL_written_158 ⟨by show _ ≤ MC; omega, by show _ ≤ MS; omega⟩) (fun r92 S94 H locs h95 hW => ?_)
                obtain ⟨h96, hp⟩ := h95
                rw [h96] at hW
                replace hw := hp
                refine lv_iconst (v := 1) hx hb dL_written_161 (by decide) ?_
                refine lv_icmp_ne (tgt := 182) hx hb dL_written_162 (by decide) (fun c97 => ?_) (fun c97 => ?_)
                · replace hw := hw.1 c97
                  exact t_L_written_182 C0  post hret (w_L_written_100 u post   nf) ih a49 x3 r50 S84 (((mc - k51) - k65) - k79) (((ms - n52) - n66) - n80) _ _ hkn hw _ _ _ hW (lv_sub hl [1, 3, 0] rfl)
                · replace hw := hw.2 c97
                  refine lv_aload_n hx hb dL_written_165 rfl (lv_at hl 1 rfl) ?_
                  refine lv_iconst (v := 3) hx hb dL_written_166 (by decide) ?_
                  obtain ⟨h99, hw⟩ := hw
                  refine h_goi C0 hW (va_runV (As := [.int 3]) (rest := []) ⟨hx, hb, hml, ho, hts⟩ (k_X9_digest (l := l) (u := u) (X := X) (sz := H.size) _ a49 3 S84  hw) (cwV 1 hts gL_written_X9_digest rfl rfl rfl (by decide +kernel) ⟨Nat.le_of_ble_eq_true rfl, Nat.le_of_ble_eq_true rfl⟩) ⟨h_blind, (h_recv C0 hW (ci := 10) rfl h99), (h_pre C0 hW [.ref a49, .int 3])⟩ rfl rfl hl.1 rfl (lv_room (Nat.le_of_ble_eq_true rfl)) dL_written_167 ⟨by show _ ≤ MC; omega, by show _ ≤ MS; omega⟩) (fun r98 S100 H locs h101 hW => ?_)
                  obtain ⟨h102, hp⟩ := h101
                  rw [h102] at hW
                  replace hw := hp
                  refine lv_aload_n hx hb dL_written_170 rfl (lv_at hl 1 rfl) ?_
                  refine lv_iload_n hx hb dL_written_171 rfl (lv_at hl 3 rfl) ?_
                  obtain ⟨h104, hw⟩ := hw
                  refine h_goi C0 hW (va_runV (As := [.int x3]) (rest := [.int r98]) ⟨hx, hb, hml, ho, hts⟩ (k_X9_digest (l := l) (u := u) (X := X) (sz := H.size) _ a49 x3 S84  hw) (cwV 1 hts gL_written_X9_digest rfl rfl rfl (by decide +kernel) ⟨Nat.le_of_ble_eq_true rfl, Nat.le_of_ble_eq_true rfl⟩) ⟨h_blind, (h_recv C0 hW (ci := 10) rfl h104), (h_pre C0 hW [.ref a49, .int x3])⟩ rfl rfl hl.1 rfl (lv_room (Nat.le_of_ble_eq_true rfl)) dL_written_172 ⟨by show _ ≤ MC; omega, by show _ ≤ MS; omega⟩) (fun r103 S105 H locs h106 hW => ?_)
                  obtain ⟨h107, hp⟩ := h106
                  rw [h107] at hW
                  replace hw := hp
                  refine lv_icmp_ne (tgt := 182) hx hb dL_written_175 (by decide) (fun c108 => ?_) (fun c108 => ?_)
                  · replace hw := hw.1 c108
                    exact t_L_written_182 C0  post hret (w_L_written_100 u post   nf) ih a49 x3 r50 S84 (((mc - k51) - k65) - k79) (((ms - n52) - n66) - n80) _ _ hkn hw _ _ _ hW (lv_sub hl [1, 3, 0] rfl)
                  · replace hw := hw.2 c108
                    refine lv_iconst (v := 1) hx hb dL_written_178 (by decide) ?_
                    refine lv_goto (tgt := 183) hx hb dL_written_179 (by decide) ?_
                    exact t_L_written_183 C0  post hret (w_L_written_100 u post   nf) ih a49 x3 r50 1 S84 (((mc - k51) - k65) - k79) (((ms - n52) - n66) - n80) _ _ hkn hw _ _ _ hW (lv_sub hl [1, 3, 0] rfl)
set_option maxHeartbeats 4000000 in
set_option maxRecDepth 100000 in
theorem t_L_written_4 (C0 : hX p s m args c cL_written 5 RL wsL_written D (gt u.2.1) A u.1 u.2.2)  (post : Int32 → hS → Prop) (hret : ∀ (r : Int32) (S' : hS) (pc : Nat) (lv : List (Nat × Value)) (k n : Nat), k ≤ MC → n ≤ MS → post r S' → narrow .boolean (.int r) = .int r → decode cL_written pc = .ok (.ireturn, 1) → gG p l e (rm_L_written MC MS) s m args below meth c Q D A 5 k n (hC X S') pc lv [.int r])  : ∀ (nf : Nat) (x0 : Option Nat) (x1 : Option Nat) (x2 : Int32) (x3 : Int32) (S : hS) (mc ms k n : Nat), k + mc ≤ MC ∧ n + ms ≤ MS → w_L_written_4 u post   nf x0 x1 x2 x3 S mc ms → gG p l e (rm_L_written MC MS) s m args below meth c Q D A 5 k n (hC X S) 4 [(0, va_rf x0), (1, va_rf x1), (2, .int x2), (3, .int x3)] [] := by
  obtain ⟨⟨hx, hb, hml, ho, hts, hK, hA⟩, hR⟩ := id C0
  intro nf
  induction nf with
  | zero => intro x0 x1 x2 x3 S mc ms k n hkn hw; exact hw.elim
  | succ nf ih =>
    intro x0 x1 x2 x3 S mc ms k n hkn hw H locs ls hW hl
    rw [w_L_written_4] at hw
    refine lv_iload_n hx hb dL_written_4 rfl (lv_at hl 3 rfl) ?_
    refine lv_iconst (v := 4) hx hb dL_written_5 (by decide) ?_
    refine lv_icmp_ge (tgt := 98) hx hb dL_written_6 (by decide) (fun c2 => ?_) (fun c2 => ?_)
    · replace hw := hw.1 c2
      refine lv_iconst (v := 0) hx hb dL_written_98 (by decide) ?_
      refine lv_istore_n (lv' := [(3, .int 0), (0, va_rf x0), (1, va_rf x1), (2, .int x2)]) hx hb dL_written_99 rfl hl (by decide) rfl (fun ls hl9 => ?_)
      replace hl := hl9
      obtain ⟨n3, hw⟩ := hw
      exact t_L_written_100 C0  post hret  n3 x0 x2 0 S mc ms _ _ hkn hw _ _ _ hW (lv_sub hl [1, 3, 0] rfl)
    · replace hw := hw.2 c2
      refine lv_iload_n hx hb dL_written_9 rfl (lv_at hl 2 rfl) ?_
      refine lv_if_eq (tgt := 98) hx hb dL_written_10 (by decide) (fun c4 => ?_) (fun c4 => ?_)
      · replace hw := hw.1 c4
        refine lv_iconst (v := 0) hx hb dL_written_98 (by decide) ?_
        refine lv_istore_n (lv' := [(3, .int 0), (0, va_rf x0), (1, va_rf x1), (2, .int x2)]) hx hb dL_written_99 rfl hl (by decide) rfl (fun ls hl9 => ?_)
        replace hl := hl9
        obtain ⟨n5, hw⟩ := hw
        exact t_L_written_100 C0  post hret  n5 x0 x2 0 S mc ms _ _ hkn hw _ _ _ hW (lv_sub hl [1, 3, 0] rfl)
      · replace hw := hw.2 c4
        refine lv_iconst (v := 1) hx hb dL_written_13 (by decide) ?_
        refine lv_bipush (v := 9) hx hb dL_written_14 (by decide) ?_
        refine lv_iload_n hx hb dL_written_16 rfl (lv_at hl 3 rfl) ?_
        refine lv_imul hx hb dL_written_17 ?_
        refine lv_iadd hx hb dL_written_18 ?_
        refine lv_topi (fun v6 ev6 => ?_)
        replace hw := hw v6 ev6
        refine lv_istore (lv' := [(4, .int v6), (0, va_rf x0), (1, va_rf x1), (2, .int x2), (3, .int x3)]) hx hb dL_written_19 hl (by decide) rfl (fun ls hl9 => ?_)
        replace hl := hl9
        refine lv_aloadV_n hx hb dL_written_21 rfl (lv_at hl 1 rfl) ?_
        refine lv_iconst (v := 0) hx hb dL_written_22 (by decide) ?_
        refine lv_aloadV_n hx hb dL_written_23 rfl (lv_at hl 2 rfl) ?_
        refine lv_iload hx hb dL_written_24 (lv_at hl 0 rfl) ?_
        refine lv_aloadV_n hx hb dL_written_26 rfl (lv_at hl 2 rfl) ?_
        refine lv_iload hx hb dL_written_27 (lv_at hl 0 rfl) ?_
        refine lv_bipush (v := 8) hx hb dL_written_29 (by decide) ?_
        refine lv_iadd hx hb dL_written_31 ?_
        refine h_goi C0 hW (va_runS (As := [va_rf x1, .int (v6 + 8)]) (rest := [.int v6, va_rf x1, .int 0, va_rf x0]) ⟨hx, hb, hml, ho, hts⟩ (k_L_cell (l := l) (u := u) (X := X) (sz := H.size) _ x1 (v6 + 8) S  hw) (va_cwS 2 hts gL_written_L_cell rfl rfl rfl (by decide +kernel) ⟨Nat.le_of_ble_eq_true rfl, Nat.le_of_ble_eq_true rfl⟩) ⟨h_blind, (h_pre C0 hW [va_rf x1, .int (v6 + 8)])⟩ rfl rfl hl.1 rfl (lv_room (by simp [va_rf_cat, va_c_ref, va_c_int, va_c_null])) dL_written_32 ⟨by show _ ≤ MC; omega, by show _ ≤ MS; omega⟩) (fun r7 S8 H locs h9 hW => ?_)
        obtain ⟨h10, hp⟩ := h9
        rw [h10] at hW
        replace hw := hp
        refine lv_iconst (v := 4) hx hb dL_written_35 (by decide) ?_
        refine g_calls (As := [.int r7, .int 4]) (rest := [.int v6, va_rf x1, .int 0, va_rf x0]) ⟨hx, hb, hml, ho, hts⟩ hl.1 (k_L_low (l := l) _ r7 4 (by decide) hw) (va_cwS 2 hts gL_written_L_low rfl rfl rfl (by decide +kernel) ⟨Nat.le_of_ble_eq_true rfl, Nat.le_of_ble_eq_true rfl⟩) (by simp [va_rf_cat, va_c_ref, va_c_int, va_c_null]) dL_written_36 rfl ⟨by show _ ≤ MC; omega, by show _ ≤ MS; omega⟩ (fun r11 hp => ?_)
        replace hw := hp
        obtain ⟨k13, n14, h15, h16, hw⟩ := hw
        refine h_goi C0 hW (va_runS (As := [va_rf x0, .int 0, va_rf x1, .int v6, .int r11]) (rest := []) ⟨hx, hb, hml, ho, hts⟩ (k_L_lays (l := l) (u := u) (X := X) (sz := H.size) _ x0 0 x1 v6 r11 S k13 n14 hw) (va_cwS 5 hts gL_written_L_lays rfl rfl rfl (by decide +kernel) ⟨Nat.le_of_ble_eq_true rfl, Nat.le_of_ble_eq_true rfl⟩) ⟨h_blind, (h_pre C0 hW [va_rf x0, .int 0, va_rf x1, .int v6, .int r11])⟩ rfl rfl hl.1 rfl (lv_room (Nat.le_of_ble_eq_true rfl)) dL_written_39 ⟨by show _ ≤ MC; omega, by show _ ≤ MS; omega⟩) (fun r12 S17 H locs h18 hW => ?_)
        replace hw := h18
        have hkn : (k + k13) + (mc - k13) ≤ MC ∧ (n + n14) + (ms - n14) ≤ MS := by omega
        refine lv_if_eq (tgt := 90) hx hb dL_written_42 (by decide) (fun c19 => ?_) (fun c19 => ?_)
        · replace hw := hw.1 c19
          refine lv_iconst (v := 0) hx hb dL_written_90 (by decide) ?_
          refine lv_istore_n (lv' := [(2, .int 0), (4, .int v6), (0, va_rf x0), (1, va_rf x1), (3, .int x3)]) hx hb dL_written_91 rfl hl (by decide) (by show (2, .int 0) :: List.filter (fun q : Nat × Value => !(q.1 == 2) && !(q.1 + 1 == 2 && q.2.category == 2)) [(4, .int v6), (0, va_rf x0), (1, va_rf x1), (2, .int x2), (3, .int x3)] = [(2, .int 0), (4, .int v6), (0, va_rf x0), (1, va_rf x1), (3, .int x3)]; simp [va_rf_cat, va_c_ref, va_c_int, va_c_null]) (fun ls hl9 => ?_)
          replace hl := hl9
          obtain ⟨v20, ev20⟩ : ∃ y : Int32, y = x3 + 1 := ⟨_, rfl⟩
          replace hw := hw v20 ev20
          refine lv_iinc (v := v20) (lv' := [(3, .int v20), (2, .int 0), (4, .int v6), (0, va_rf x0), (1, va_rf x1)]) hx hb dL_written_92 hl (k := 4) rfl (by rw [ev20]; rfl) (by decide) rfl (fun ls hl9 => ?_)
          replace hl := hl9
          refine lv_goto (tgt := 4) hx hb dL_written_95 (by decide) ?_
          exact ih x0 x1 0 v20 S17 (mc - k13) (ms - n14) _ _ hkn hw _ _ _ hW (lv_sub hl [3, 4, 1, 0] rfl)
        · replace hw := hw.2 c19
          refine lv_aloadV_n hx hb dL_written_45 rfl (lv_at hl 1 rfl) ?_
          refine lv_iconst (v := 1) hx hb dL_written_46 (by decide) ?_
          refine lv_aloadV_n hx hb dL_written_47 rfl (lv_at hl 2 rfl) ?_
          refine lv_iload hx hb dL_written_48 (lv_at hl 0 rfl) ?_
          refine lv_iconst (v := 3) hx hb dL_written_50 (by decide) ?_
          refine lv_iadd hx hb dL_written_51 ?_
          refine lv_aloadV_n hx hb dL_written_52 rfl (lv_at hl 2 rfl) ?_
          refine lv_iload hx hb dL_written_53 (lv_at hl 0 rfl) ?_
          refine lv_bipush (v := 8) hx hb dL_written_55 (by decide) ?_
          refine lv_iadd hx hb dL_written_57 ?_
          refine h_goi C0 hW (va_runS (As := [va_rf x1, .int (v6 + 8)]) (rest := [.int (v6 + 3), va_rf x1, .int 1, va_rf x0]) ⟨hx, hb, hml, ho, hts⟩ (k_L_cell (l := l) (u := u) (X := X) (sz := H.size) _ x1 (v6 + 8) S17  hw) (va_cwS 2 hts gL_written_L_cell rfl rfl rfl (by decide +kernel) ⟨Nat.le_of_ble_eq_true rfl, Nat.le_of_ble_eq_true rfl⟩) ⟨h_blind, (h_pre C0 hW [va_rf x1, .int (v6 + 8)])⟩ rfl rfl hl.1 rfl (lv_room (by simp [va_rf_cat, va_c_ref, va_c_int, va_c_null])) dL_written_58 ⟨by show _ ≤ MC; omega, by show _ ≤ MS; omega⟩) (fun r21 S22 H locs h23 hW => ?_)
          obtain ⟨h24, hp⟩ := h23
          rw [h24] at hW
          replace hw := hp
          refine lv_iconst (v := 2) hx hb dL_written_61 (by decide) ?_
          refine lv_ishr hx hb dL_written_62 ?_
          refine lv_iconst (v := 5) hx hb dL_written_63 (by decide) ?_
          refine g_calls (As := [.int (r21 >>> (2 &&& 31)), .int 5]) (rest := [.int (v6 + 3), va_rf x1, .int 1, va_rf x0]) ⟨hx, hb, hml, ho, hts⟩ hl.1 (k_L_low (l := l) _ (r21 >>> (2 &&& 31)) 5 (by decide) hw) (va_cwS 2 hts gL_written_L_low rfl rfl rfl (by decide +kernel) ⟨Nat.le_of_ble_eq_true rfl, Nat.le_of_ble_eq_true rfl⟩) (by simp [va_rf_cat, va_c_ref, va_c_int, va_c_null]) dL_written_64 rfl ⟨by show _ ≤ MC; omega, by show _ ≤ MS; omega⟩ (fun r25 hp => ?_)
          replace hw := hp
          obtain ⟨k27, n28, h29, h30, hw⟩ := hw
          refine h_goi C0 hW (va_runS (As := [va_rf x0, .int 1, va_rf x1, .int (v6 + 3), .int r25]) (rest := []) ⟨hx, hb, hml, ho, hts⟩ (k_L_lays (l := l) (u := u) (X := X) (sz := H.size) _ x0 1 x1 (v6 + 3) r25 S17 k27 n28 hw) (va_cwS 5 hts gL_written_L_lays rfl rfl rfl (by decide +kernel) ⟨Nat.le_of_ble_eq_true rfl, Nat.le_of_ble_eq_true rfl⟩) ⟨h_blind, (h_pre C0 hW [va_rf x0, .int 1, va_rf x1, .int (v6 + 3), .int r25])⟩ rfl rfl hl.1 rfl (lv_room (Nat.le_of_ble_eq_true rfl)) dL_written_67 ⟨by show _ ≤ MC; omega, by show _ ≤ MS; omega⟩) (fun r26 S31 H locs h32 hW => ?_)
          replace hw := h32
          have hkn : ((k + k13) + k27) + ((mc - k13) - k27) ≤ MC ∧ ((n + n14) + n28) + ((ms - n14) - n28) ≤ MS := by omega
          refine lv_if_eq (tgt := 90) hx hb dL_written_70 (by decide) (fun c33 => ?_) (fun c33 => ?_)
          · replace hw := hw.1 c33
            refine lv_iconst (v := 0) hx hb dL_written_90 (by decide) ?_
            refine lv_istore_n (lv' := [(2, .int 0), (4, .int v6), (0, va_rf x0), (1, va_rf x1), (3, .int x3)]) hx hb dL_written_91 rfl hl (by decide) (by show (2, .int 0) :: List.filter (fun q : Nat × Value => !(q.1 == 2) && !(q.1 + 1 == 2 && q.2.category == 2)) [(4, .int v6), (0, va_rf x0), (1, va_rf x1), (2, .int x2), (3, .int x3)] = [(2, .int 0), (4, .int v6), (0, va_rf x0), (1, va_rf x1), (3, .int x3)]; simp [va_rf_cat, va_c_ref, va_c_int, va_c_null]) (fun ls hl9 => ?_)
            replace hl := hl9
            obtain ⟨v34, ev34⟩ : ∃ y : Int32, y = x3 + 1 := ⟨_, rfl⟩
            replace hw := hw v34 ev34
            refine lv_iinc (v := v34) (lv' := [(3, .int v34), (2, .int 0), (4, .int v6), (0, va_rf x0), (1, va_rf x1)]) hx hb dL_written_92 hl (k := 4) rfl (by rw [ev34]; rfl) (by decide) rfl (fun ls hl9 => ?_)
            replace hl := hl9
            refine lv_goto (tgt := 4) hx hb dL_written_95 (by decide) ?_
            exact ih x0 x1 0 v34 S31 ((mc - k13) - k27) ((ms - n14) - n28) _ _ hkn hw _ _ _ hW (lv_sub hl [3, 4, 1, 0] rfl)
          · replace hw := hw.2 c33
            refine lv_aloadV_n hx hb dL_written_73 rfl (lv_at hl 1 rfl) ?_
            refine lv_iload_n hx hb dL_written_74 rfl (lv_at hl 4 rfl) ?_
            refine lv_iconst (v := 3) hx hb dL_written_75 (by decide) ?_
            refine lv_irem hx hb dL_written_76 (by decide) ?_
            refine lv_iconst (v := 0) hx hb dL_written_77 (by decide) ?_
            refine lv_iconst (v := 1) hx hb dL_written_78 (by decide) ?_
            refine lv_iconst (v := 2) hx hb dL_written_79 (by decide) ?_
            obtain ⟨a35, rfl, hw⟩ := hw
            obtain ⟨h41, k37, n38, h39, h40, hw⟩ := hw
            refine h_goi C0 hW (va_runV (As := [.int (x3 - x3 / 3 * 3), .int 0, .int 1, .int 2]) (rest := []) ⟨hx, hb, hml, ho, hts⟩ (k_X9_set (l := l) (u := u) (X := X) (sz := H.size) _ a35 (x3 - x3 / 3 * 3) 0 1 2 S31 k37 n38 hw) (cwV 4 hts gL_written_X9_set rfl rfl rfl (by decide +kernel) ⟨Nat.le_of_ble_eq_true rfl, Nat.le_of_ble_eq_true rfl⟩) ⟨h_blind, (h_recv C0 hW (ci := 10) rfl h41), (h_pre C0 hW [.ref a35, .int (x3 - x3 / 3 * 3), .int 0, .int 1, .int 2])⟩ rfl rfl hl.1 rfl (lv_room (Nat.le_of_ble_eq_true rfl)) dL_written_80 ⟨by show _ ≤ MC; omega, by show _ ≤ MS; omega⟩) (fun r36 S42 H locs h43 hW => ?_)
            replace hw := h43
            have hkn : (((k + k13) + k27) + k37) + (((mc - k13) - k27) - k37) ≤ MC ∧ (((n + n14) + n28) + n38) + (((ms - n14) - n28) - n38) ≤ MS := by omega
            refine lv_if_le (tgt := 90) hx hb dL_written_83 (by decide) (fun c44 => ?_) (fun c44 => ?_)
            · replace hw := hw.1 c44
              refine lv_iconst (v := 0) hx hb dL_written_90 (by decide) ?_
              refine lv_istore_n (lv' := [(2, .int 0), (4, .int v6), (0, .ref a35), (1, va_rf x1), (3, .int x3)]) hx hb dL_written_91 rfl hl (by decide) (by show (2, .int 0) :: List.filter (fun q : Nat × Value => !(q.1 == 2) && !(q.1 + 1 == 2 && q.2.category == 2)) [(4, .int v6), (0, .ref a35), (1, va_rf x1), (2, .int x2), (3, .int x3)] = [(2, .int 0), (4, .int v6), (0, .ref a35), (1, va_rf x1), (3, .int x3)]; simp [va_rf_cat, va_c_ref, va_c_int, va_c_null]) (fun ls hl9 => ?_)
              replace hl := hl9
              obtain ⟨v45, ev45⟩ : ∃ y : Int32, y = x3 + 1 := ⟨_, rfl⟩
              replace hw := hw v45 ev45
              refine lv_iinc (v := v45) (lv' := [(3, .int v45), (2, .int 0), (4, .int v6), (0, .ref a35), (1, va_rf x1)]) hx hb dL_written_92 hl (k := 4) rfl (by rw [ev45]; rfl) (by decide) rfl (fun ls hl9 => ?_)
              replace hl := hl9
              refine lv_goto (tgt := 4) hx hb dL_written_95 (by decide) ?_
              exact ih (some a35) x1 0 v45 S42 (((mc - k13) - k27) - k37) (((ms - n14) - n28) - n38) _ _ hkn hw _ _ _ hW (lv_sub hl [3, 4, 1, 0] rfl)
            · replace hw := hw.2 c44
              refine lv_iconst (v := 1) hx hb dL_written_86 (by decide) ?_
              refine lv_goto (tgt := 91) hx hb dL_written_87 (by decide) ?_
              refine lv_istore_n (lv' := [(2, .int 1), (4, .int v6), (0, .ref a35), (1, va_rf x1), (3, .int x3)]) hx hb dL_written_91 rfl hl (by decide) (by show (2, .int 1) :: List.filter (fun q : Nat × Value => !(q.1 == 2) && !(q.1 + 1 == 2 && q.2.category == 2)) [(4, .int v6), (0, .ref a35), (1, va_rf x1), (2, .int x2), (3, .int x3)] = [(2, .int 1), (4, .int v6), (0, .ref a35), (1, va_rf x1), (3, .int x3)]; simp [va_rf_cat, va_c_ref, va_c_int, va_c_null]) (fun ls hl9 => ?_)
              replace hl := hl9
              obtain ⟨v46, ev46⟩ : ∃ y : Int32, y = x3 + 1 := ⟨_, rfl⟩
              replace hw := hw v46 ev46
              refine lv_iinc (v := v46) (lv' := [(3, .int v46), (2, .int 1), (4, .int v6), (0, .ref a35), (1, va_rf x1)]) hx hb dL_written_92 hl (k := 4) rfl (by rw [ev46]; rfl) (by decide) rfl (fun ls hl9 => ?_)
              replace hl := hl9
              refine lv_goto (tgt := 4) hx hb dL_written_95 (by decide) ?_
              exact ih (some a35) x1 1 v46 S42 (((mc - k13) - k27) - k37) (((ms - n14) - n28) - n38) _ _ hkn hw _ _ _ hW (lv_sub hl [3, 4, 1, 0] rfl)
set_option maxHeartbeats 4000000 in
set_option maxRecDepth 100000 in
theorem t_L_written_0 (C0 : hX p s m args c cL_written 5 RL wsL_written D (gt u.2.1) A u.1 u.2.2)  (post : Int32 → hS → Prop) (hret : ∀ (r : Int32) (S' : hS) (pc : Nat) (lv : List (Nat × Value)) (k n : Nat), k ≤ MC → n ≤ MS → post r S' → narrow .boolean (.int r) = .int r → decode cL_written pc = .ok (.ireturn, 1) → gG p l e (rm_L_written MC MS) s m args below meth c Q D A 5 k n (hC X S') pc lv [.int r])  : ∀ (p1 : Option Nat) (p2 : Option Nat) (S : hS) (mc ms k n : Nat), k + mc ≤ MC ∧ n + ms ≤ MS → w_L_written u post   p1 p2 S mc ms → gG p l e (rm_L_written MC MS) s m args below meth c Q D A 5 k n (hC X S) 0 [(0, va_rf p1), (1, va_rf p2)] [] := by
  obtain ⟨⟨hx, hb, hml, ho, hts, hK, hA⟩, hR⟩ := id C0
  intro p1 p2 S mc ms k n hkn hw H locs ls hW hl
  rw [w_L_written] at hw
  refine lv_iconst (v := 1) hx hb dL_written_0 (by decide) ?_
  refine lv_istore_n (lv' := [(2, .int 1), (0, va_rf p1), (1, va_rf p2)]) hx hb dL_written_1 rfl hl (by decide) (by show (2, .int 1) :: List.filter (fun q : Nat × Value => !(q.1 == 2) && !(q.1 + 1 == 2 && q.2.category == 2)) [(0, va_rf p1), (1, va_rf p2)] = [(2, .int 1), (0, va_rf p1), (1, va_rf p2)]; simp [va_rf_cat, va_c_ref, va_c_int, va_c_null]) (fun ls hl9 => ?_)
  replace hl := hl9
  refine lv_iconst (v := 0) hx hb dL_written_2 (by decide) ?_
  refine lv_istore_n (lv' := [(3, .int 0), (2, .int 1), (0, va_rf p1), (1, va_rf p2)]) hx hb dL_written_3 rfl hl (by decide) rfl (fun ls hl9 => ?_)
  replace hl := hl9
  obtain ⟨n1, hw⟩ := hw
  exact t_L_written_4 C0  post hret  n1 p1 p2 1 0 S mc ms _ _ hkn hw _ _ _ hW (lv_sub hl [2, 3, 1, 0] rfl)
set_option maxHeartbeats 4000000 in
set_option maxRecDepth 100000 in
theorem k_L_written {l : Launch} {D : va_G} {u : hU} {X : va_W} {sz : Nat} (post : Int32 → hS → Prop) (p1 : Option Nat) (p2 : Option Nat) (S : hS) (mc ms : Nat) (hw : w_L_written u post  p1 p2 S mc ms) : hMi l yL_written wsL_written (rm_L_written mc ms) D (gt u.2.1) u.1 u.2.2 sz X S [va_rf p1, va_rf p2] post mc ms := by
  refine hMi_of (cc := cL_written) (nL := 5) (ty := .boolean) (own := RL) (by decide) rfl rfl (by cases p1 <;> cases p2 <;> exact Nat.le_of_ble_eq_true rfl) ?_
  intro p e s m args below meth c A Q C0 hin hret
  have hfin := t_L_written_0 C0  post hret p1 p2 S mc ms 0 0 ⟨by omega, by omega⟩ hw
  intro H locs ls hW hl
  refine hfin H locs ls hW ?_
  cases p1 <;> cases p2 <;> exact hl
abbrev rm_L_found (MC MS : Nat) : Room := { frames := 10, cells := MC, slots := MS, locals := 227 }
set_option maxHeartbeats 4000000 in
set_option maxRecDepth 100000 in
theorem t_L_found_110 (C0 : hX p s m args c cL_found 6 RL wsL_found D (gt u.2.1) A u.1 u.2.2)  (post : Int32 → hS → Prop) (hret : ∀ (r : Int32) (S' : hS) (pc : Nat) (lv : List (Nat × Value)) (k n : Nat), k ≤ MC → n ≤ MS → post r S' → narrow .boolean (.int r) = .int r → decode cL_found pc = .ok (.ireturn, 1) → gG p l e (rm_L_found MC MS) s m args below meth c Q D A 6 k n (hC X S') pc lv [.int r]) (K4 : Option Nat → Int32 → Int32 → Int32 → hS → Nat → Nat → Prop) (hK4 : ∀ (x0 : Option Nat) (x1 : Int32) (x2 : Int32) (x3 : Int32) (S : hS) (mc ms k n : Nat), k + mc ≤ MC ∧ n + ms ≤ MS → K4 x0 x1 x2 x3 S mc ms → gG p l e (rm_L_found MC MS) s m args below meth c Q D A 6 k n (hC X S) 4 [(0, va_rf x0), (1, .int x1), (2, .int x2), (3, .int x3)] []) : ∀ (nf : Nat) (x0 : Nat) (x1 : Int32) (x2 : Int32) (x3 : Int32) (x5 : Int32) (S : hS) (mc ms k n : Nat), k + mc ≤ MC ∧ n + ms ≤ MS → w_L_found_110 u post  K4 nf x0 x1 x2 x3 x5 S mc ms → gG p l e (rm_L_found MC MS) s m args below meth c Q D A 6 k n (hC X S) 110 [(0, .ref x0), (1, .int x1), (2, .int x2), (3, .int x3), (5, .int x5)] [] := by
  obtain ⟨⟨hx, hb, hml, ho, hts, hK, hA⟩, hR⟩ := id C0
  intro nf
  induction nf with
  | zero => intro x0 x1 x2 x3 x5 S mc ms k n hkn hw; exact hw.elim
  | succ nf ih =>
    intro x0 x1 x2 x3 x5 S mc ms k n hkn hw H locs ls hW hl
    rw [w_L_found_110] at hw
    refine lv_iload hx hb dL_found_110 (lv_at hl 4 rfl) ?_
    refine lv_iload_n hx hb dL_found_112 rfl (lv_at hl 1 rfl) ?_
    refine lv_icmp_gt (tgt := 142) hx hb dL_found_113 (by decide) (fun c66 => ?_) (fun c66 => ?_)
    · replace hw := hw.1 c66
      obtain ⟨v67, ev67⟩ : ∃ y : Int32, y = x3 + 1 := ⟨_, rfl⟩
      replace hw := hw v67 ev67
      refine lv_iinc (v := v67) (lv' := [(3, .int v67), (0, .ref x0), (1, .int x1), (2, .int x2), (5, .int x5)]) hx hb dL_found_142 hl (k := 3) rfl (by rw [ev67]; rfl) (by decide) rfl (fun ls hl9 => ?_)
      replace hl := hl9
      refine lv_goto (tgt := 4) hx hb dL_found_145 (by decide) ?_
      exact hK4 (some x0) x1 x2 v67 S mc ms _ _ hkn hw _ _ _ hW (lv_sub hl [1, 2, 3, 0] rfl)
    · replace hw := hw.2 c66
      refine lv_iload_n hx hb dL_found_116 rfl (lv_at hl 2 rfl) ?_
      refine lv_if_eq (tgt := 134) hx hb dL_found_117 (by decide) (fun c68 => ?_) (fun c68 => ?_)
      · replace hw := hw.1 c68
        refine lv_iconst (v := 0) hx hb dL_found_134 (by decide) ?_
        refine lv_istore_n (lv' := [(2, .int 0), (0, .ref x0), (1, .int x1), (3, .int x3), (5, .int x5)]) hx hb dL_found_135 rfl hl (by decide) rfl (fun ls hl9 => ?_)
        replace hl := hl9
        obtain ⟨v69, ev69⟩ : ∃ y : Int32, y = x5 + 1 := ⟨_, rfl⟩
        replace hw := hw v69 ev69
        refine lv_iinc (v := v69) (lv' := [(5, .int v69), (2, .int 0), (0, .ref x0), (1, .int x1), (3, .int x3)]) hx hb dL_found_136 hl (k := 4) rfl (by rw [ev69]; rfl) (by decide) rfl (fun ls hl9 => ?_)
        replace hl := hl9
        refine lv_goto (tgt := 110) hx hb dL_found_139 (by decide) ?_
        exact ih x0 x1 0 x3 v69 S mc ms _ _ hkn hw _ _ _ hW (lv_sub hl [2, 3, 1, 4, 0] rfl)
      · replace hw := hw.2 c68
        refine lv_aload_n hx hb dL_found_120 rfl (lv_at hl 0 rfl) ?_
        refine lv_iload hx hb dL_found_121 (lv_at hl 4 rfl) ?_
        refine lv_iconst (v := 0) hx hb dL_found_123 (by decide) ?_
        obtain ⟨h71, hw⟩ := hw
        refine h_goi C0 hW (va_runV (As := [.int x5, .int 0]) (rest := []) ⟨hx, hb, hml, ho, hts⟩ (k_X9_has (l := l) (u := u) (X := X) (sz := H.size) _ x0 x5 0 S  hw) (cwV 2 hts gL_found_X9_has rfl rfl rfl (by decide +kernel) ⟨Nat.le_of_ble_eq_true rfl, Nat.le_of_ble_eq_true rfl⟩) ⟨h_blind, (h_recv C0 hW (ci := 10) rfl h71), (h_pre C0 hW [.ref x0, .int x5, .int 0])⟩ rfl rfl hl.1 rfl (lv_room (Nat.le_of_ble_eq_true rfl)) dL_found_124 ⟨by show _ ≤ MC; omega, by show _ ≤ MS; omega⟩) (fun r70 S72 H locs h73 hW => ?_)
        replace hw := h73
        refine lv_if_ne (tgt := 134) hx hb dL_found_127 (by decide) (fun c74 => ?_) (fun c74 => ?_)
        · replace hw := hw.1 c74
          refine lv_iconst (v := 0) hx hb dL_found_134 (by decide) ?_
          refine lv_istore_n (lv' := [(2, .int 0), (0, .ref x0), (1, .int x1), (3, .int x3), (5, .int x5)]) hx hb dL_found_135 rfl hl (by decide) rfl (fun ls hl9 => ?_)
          replace hl := hl9
          obtain ⟨v75, ev75⟩ : ∃ y : Int32, y = x5 + 1 := ⟨_, rfl⟩
          replace hw := hw v75 ev75
          refine lv_iinc (v := v75) (lv' := [(5, .int v75), (2, .int 0), (0, .ref x0), (1, .int x1), (3, .int x3)]) hx hb dL_found_136 hl (k := 4) rfl (by rw [ev75]; rfl) (by decide) rfl (fun ls hl9 => ?_)
          replace hl := hl9
          refine lv_goto (tgt := 110) hx hb dL_found_139 (by decide) ?_
          exact ih x0 x1 0 x3 v75 S72 mc ms _ _ hkn hw _ _ _ hW (lv_sub hl [2, 3, 1, 4, 0] rfl)
        · replace hw := hw.2 c74
          refine lv_iconst (v := 1) hx hb dL_found_130 (by decide) ?_
          refine lv_goto (tgt := 135) hx hb dL_found_131 (by decide) ?_
          refine lv_istore_n (lv' := [(2, .int 1), (0, .ref x0), (1, .int x1), (3, .int x3), (5, .int x5)]) hx hb dL_found_135 rfl hl (by decide) rfl (fun ls hl9 => ?_)
          replace hl := hl9
          obtain ⟨v76, ev76⟩ : ∃ y : Int32, y = x5 + 1 := ⟨_, rfl⟩
          replace hw := hw v76 ev76
          refine lv_iinc (v := v76) (lv' := [(5, .int v76), (2, .int 1), (0, .ref x0), (1, .int x1), (3, .int x3)]) hx hb dL_found_136 hl (k := 4) rfl (by rw [ev76]; rfl) (by decide) rfl (fun ls hl9 => ?_)
          replace hl := hl9
          refine lv_goto (tgt := 110) hx hb dL_found_139 (by decide) ?_
          exact ih x0 x1 1 x3 v76 S72 mc ms _ _ hkn hw _ _ _ hW (lv_sub hl [2, 3, 1, 4, 0] rfl)
set_option maxHeartbeats 4000000 in
set_option maxRecDepth 100000 in
theorem t_L_found_32 (C0 : hX p s m args c cL_found 6 RL wsL_found D (gt u.2.1) A u.1 u.2.2)  (post : Int32 → hS → Prop) (hret : ∀ (r : Int32) (S' : hS) (pc : Nat) (lv : List (Nat × Value)) (k n : Nat), k ≤ MC → n ≤ MS → post r S' → narrow .boolean (.int r) = .int r → decode cL_found pc = .ok (.ireturn, 1) → gG p l e (rm_L_found MC MS) s m args below meth c Q D A 6 k n (hC X S') pc lv [.int r]) (K4 : Option Nat → Int32 → Int32 → Int32 → hS → Nat → Nat → Prop) (hK4 : ∀ (x0 : Option Nat) (x1 : Int32) (x2 : Int32) (x3 : Int32) (S : hS) (mc ms k n : Nat), k + mc ≤ MC ∧ n + ms ≤ MS → K4 x0 x1 x2 x3 S mc ms → gG p l e (rm_L_found MC MS) s m args below meth c Q D A 6 k n (hC X S) 4 [(0, va_rf x0), (1, .int x1), (2, .int x2), (3, .int x3)] []) : ∀ (x0 : Nat) (x1 : Int32) (x3 : Int32) (s0 : Int32) (S : hS) (mc ms k n : Nat), k + mc ≤ MC ∧ n + ms ≤ MS → w_L_found_32 u post  K4 x0 x1 x3 s0 S mc ms → gG p l e (rm_L_found MC MS) s m args below meth c Q D A 6 k n (hC X S) 32 [(0, .ref x0), (1, .int x1), (3, .int x3)] [.int s0] := by
  obtain ⟨⟨hx, hb, hml, ho, hts, hK, hA⟩, hR⟩ := id C0
  intro x0 x1 x3 s0 S mc ms k n hkn hw H locs ls hW hl
  rw [w_L_found_32] at hw
  refine lv_istore_n (lv' := [(2, .int s0), (0, .ref x0), (1, .int x1), (3, .int x3)]) hx hb dL_found_32 rfl hl (by decide) rfl (fun ls hl9 => ?_)
  replace hl := hl9
  refine lv_aload_n hx hb dL_found_33 rfl (lv_at hl 1 rfl) ?_
  refine lv_iload_n hx hb dL_found_34 rfl (lv_at hl 2 rfl) ?_
  refine lv_iconst (v := 0) hx hb dL_found_35 (by decide) ?_
  obtain ⟨h23, hw⟩ := hw
  refine h_goi C0 hW (va_runV (As := [.int x1, .int 0]) (rest := []) ⟨hx, hb, hml, ho, hts⟩ (k_X9_layerOf (l := l) (u := u) (X := X) (sz := H.size) _ x0 x1 0 S  hw) (cwV 2 hts gL_found_X9_layerOf rfl rfl rfl (by decide +kernel) ⟨Nat.le_of_ble_eq_true rfl, Nat.le_of_ble_eq_true rfl⟩) ⟨h_blind, (h_recv C0 hW (ci := 10) rfl h23), (h_pre C0 hW [.ref x0, .int x1, .int 0])⟩ rfl rfl hl.1 rfl (lv_room (Nat.le_of_ble_eq_true rfl)) dL_found_36 ⟨by show _ ≤ MC; omega, by show _ ≤ MS; omega⟩) (fun r22 S24 H locs h25 hW => ?_)
  replace hw := h25
  refine lv_istore (lv' := [(4, .int r22), (2, .int s0), (0, .ref x0), (1, .int x1), (3, .int x3)]) hx hb dL_found_39 hl (by decide) rfl (fun ls hl9 => ?_)
  replace hl := hl9
  refine lv_iload_n hx hb dL_found_41 rfl (lv_at hl 1 rfl) ?_
  refine lv_if_eq (tgt := 102) hx hb dL_found_42 (by decide) (fun c26 => ?_) (fun c26 => ?_)
  · replace hw := hw.1 c26
    refine lv_iconst (v := 0) hx hb dL_found_102 (by decide) ?_
    refine lv_istore_n (lv' := [(2, .int 0), (4, .int r22), (0, .ref x0), (1, .int x1), (3, .int x3)]) hx hb dL_found_103 rfl hl (by decide) rfl (fun ls hl9 => ?_)
    replace hl := hl9
    refine lv_iload hx hb dL_found_104 (lv_at hl 1 rfl) ?_
    refine lv_iconst (v := 1) hx hb dL_found_106 (by decide) ?_
    refine lv_iadd hx hb dL_found_107 ?_
    refine lv_topi (fun v27 ev27 => ?_)
    replace hw := hw v27 ev27
    refine lv_istore (lv' := [(5, .int v27), (2, .int 0), (4, .int r22), (0, .ref x0), (1, .int x1), (3, .int x3)]) hx hb dL_found_108 hl (by decide) rfl (fun ls hl9 => ?_)
    replace hl := hl9
    obtain ⟨n28, hw⟩ := hw
    exact t_L_found_110 C0  post hret K4 hK4 n28 x0 x1 0 x3 v27 S24 mc ms _ _ hkn hw _ _ _ hW (lv_sub hl [3, 4, 1, 5, 0] rfl)
  · replace hw := hw.2 c26
    refine lv_iload hx hb dL_found_45 (lv_at hl 0 rfl) ?_
    refine lv_if_lt (tgt := 102) hx hb dL_found_47 (by decide) (fun c29 => ?_) (fun c29 => ?_)
    · replace hw := hw.1 c29
      refine lv_iconst (v := 0) hx hb dL_found_102 (by decide) ?_
      refine lv_istore_n (lv' := [(2, .int 0), (4, .int r22), (0, .ref x0), (1, .int x1), (3, .int x3)]) hx hb dL_found_103 rfl hl (by decide) rfl (fun ls hl9 => ?_)
      replace hl := hl9
      refine lv_iload hx hb dL_found_104 (lv_at hl 1 rfl) ?_
      refine lv_iconst (v := 1) hx hb dL_found_106 (by decide) ?_
      refine lv_iadd hx hb dL_found_107 ?_
      refine lv_topi (fun v30 ev30 => ?_)
      replace hw := hw v30 ev30
      refine lv_istore (lv' := [(5, .int v30), (2, .int 0), (4, .int r22), (0, .ref x0), (1, .int x1), (3, .int x3)]) hx hb dL_found_108 hl (by decide) rfl (fun ls hl9 => ?_)
      replace hl := hl9
      obtain ⟨n31, hw⟩ := hw
      exact t_L_found_110 C0  post hret K4 hK4 n31 x0 x1 0 x3 v30 S24 mc ms _ _ hkn hw _ _ _ hW (lv_sub hl [3, 4, 1, 5, 0] rfl)
    · replace hw := hw.2 c29
      refine lv_iload hx hb dL_found_50 (lv_at hl 0 rfl) ?_
      refine lv_iload_n hx hb dL_found_52 rfl (lv_at hl 3 rfl) ?_
      refine lv_icmp_gt (tgt := 102) hx hb dL_found_53 (by decide) (fun c32 => ?_) (fun c32 => ?_)
      · replace hw := hw.1 c32
        refine lv_iconst (v := 0) hx hb dL_found_102 (by decide) ?_
        refine lv_istore_n (lv' := [(2, .int 0), (4, .int r22), (0, .ref x0), (1, .int x1), (3, .int x3)]) hx hb dL_found_103 rfl hl (by decide) rfl (fun ls hl9 => ?_)
        replace hl := hl9
        refine lv_iload hx hb dL_found_104 (lv_at hl 1 rfl) ?_
        refine lv_iconst (v := 1) hx hb dL_found_106 (by decide) ?_
        refine lv_iadd hx hb dL_found_107 ?_
        refine lv_topi (fun v33 ev33 => ?_)
        replace hw := hw v33 ev33
        refine lv_istore (lv' := [(5, .int v33), (2, .int 0), (4, .int r22), (0, .ref x0), (1, .int x1), (3, .int x3)]) hx hb dL_found_108 hl (by decide) rfl (fun ls hl9 => ?_)
        replace hl := hl9
        obtain ⟨n34, hw⟩ := hw
        exact t_L_found_110 C0  post hret K4 hK4 n34 x0 x1 0 x3 v33 S24 mc ms _ _ hkn hw _ _ _ hW (lv_sub hl [3, 4, 1, 5, 0] rfl)
      · replace hw := hw.2 c32
        refine lv_aload_n hx hb dL_found_56 rfl (lv_at hl 2 rfl) ?_
        refine lv_iload_n hx hb dL_found_57 rfl (lv_at hl 3 rfl) ?_
        refine lv_iconst (v := 0) hx hb dL_found_58 (by decide) ?_
        refine lv_iconst (v := 1) hx hb dL_found_59 (by decide) ?_
        obtain ⟨h36, hw⟩ := hw
        refine h_goi C0 hW (va_runV (As := [.int x1, .int 0, .int 1]) (rest := []) ⟨hx, hb, hml, ho, hts⟩ (k_X9_get (l := l) (u := u) (X := X) (sz := H.size) _ x0 x1 0 1 S24  hw) (cwV 3 hts gL_found_X9_get rfl rfl rfl (by decide +kernel) ⟨Nat.le_of_ble_eq_true rfl, Nat.le_of_ble_eq_true rfl⟩) ⟨h_blind, (h_recv C0 hW (ci := 10) rfl h36), (h_pre C0 hW [.ref x0, .int x1, .int 0, .int 1])⟩ rfl rfl hl.1 rfl (lv_room (Nat.le_of_ble_eq_true rfl)) dL_found_60 ⟨by show _ ≤ MC; omega, by show _ ≤ MS; omega⟩) (fun r35 S37 H locs h38 hW => ?_)
        replace hw := h38
        refine lv_if_lt (tgt := 102) hx hb dL_found_63 (by decide) (fun c39 => ?_) (fun c39 => ?_)
        · replace hw := hw.1 c39
          refine lv_iconst (v := 0) hx hb dL_found_102 (by decide) ?_
          refine lv_istore_n (lv' := [(2, .int 0), (4, .int r22), (0, .ref x0), (1, .int x1), (3, .int x3)]) hx hb dL_found_103 rfl hl (by decide) rfl (fun ls hl9 => ?_)
          replace hl := hl9
          refine lv_iload hx hb dL_found_104 (lv_at hl 1 rfl) ?_
          refine lv_iconst (v := 1) hx hb dL_found_106 (by decide) ?_
          refine lv_iadd hx hb dL_found_107 ?_
          refine lv_topi (fun v40 ev40 => ?_)
          replace hw := hw v40 ev40
          refine lv_istore (lv' := [(5, .int v40), (2, .int 0), (4, .int r22), (0, .ref x0), (1, .int x1), (3, .int x3)]) hx hb dL_found_108 hl (by decide) rfl (fun ls hl9 => ?_)
          replace hl := hl9
          obtain ⟨n41, hw⟩ := hw
          exact t_L_found_110 C0  post hret K4 hK4 n41 x0 x1 0 x3 v40 S37 mc ms _ _ hkn hw _ _ _ hW (lv_sub hl [3, 4, 1, 5, 0] rfl)
        · replace hw := hw.2 c39
          refine lv_aload_n hx hb dL_found_66 rfl (lv_at hl 2 rfl) ?_
          refine lv_iload hx hb dL_found_67 (lv_at hl 0 rfl) ?_
          refine lv_iconst (v := 0) hx hb dL_found_69 (by decide) ?_
          refine lv_iconst (v := 2) hx hb dL_found_70 (by decide) ?_
          obtain ⟨h43, hw⟩ := hw
          refine h_goi C0 hW (va_runV (As := [.int r22, .int 0, .int 2]) (rest := []) ⟨hx, hb, hml, ho, hts⟩ (k_X9_get (l := l) (u := u) (X := X) (sz := H.size) _ x0 r22 0 2 S37  hw) (cwV 3 hts gL_found_X9_get rfl rfl rfl (by decide +kernel) ⟨Nat.le_of_ble_eq_true rfl, Nat.le_of_ble_eq_true rfl⟩) ⟨h_blind, (h_recv C0 hW (ci := 10) rfl h43), (h_pre C0 hW [.ref x0, .int r22, .int 0, .int 2])⟩ rfl rfl hl.1 rfl (lv_room (Nat.le_of_ble_eq_true rfl)) dL_found_71 ⟨by show _ ≤ MC; omega, by show _ ≤ MS; omega⟩) (fun r42 S44 H locs h45 hW => ?_)
          replace hw := h45
          refine lv_if_lt (tgt := 102) hx hb dL_found_74 (by decide) (fun c46 => ?_) (fun c46 => ?_)
          · replace hw := hw.1 c46
            refine lv_iconst (v := 0) hx hb dL_found_102 (by decide) ?_
            refine lv_istore_n (lv' := [(2, .int 0), (4, .int r22), (0, .ref x0), (1, .int x1), (3, .int x3)]) hx hb dL_found_103 rfl hl (by decide) rfl (fun ls hl9 => ?_)
            replace hl := hl9
            refine lv_iload hx hb dL_found_104 (lv_at hl 1 rfl) ?_
            refine lv_iconst (v := 1) hx hb dL_found_106 (by decide) ?_
            refine lv_iadd hx hb dL_found_107 ?_
            refine lv_topi (fun v47 ev47 => ?_)
            replace hw := hw v47 ev47
            refine lv_istore (lv' := [(5, .int v47), (2, .int 0), (4, .int r22), (0, .ref x0), (1, .int x1), (3, .int x3)]) hx hb dL_found_108 hl (by decide) rfl (fun ls hl9 => ?_)
            replace hl := hl9
            obtain ⟨n48, hw⟩ := hw
            exact t_L_found_110 C0  post hret K4 hK4 n48 x0 x1 0 x3 v47 S44 mc ms _ _ hkn hw _ _ _ hW (lv_sub hl [3, 4, 1, 5, 0] rfl)
          · replace hw := hw.2 c46
            refine lv_aload_n hx hb dL_found_77 rfl (lv_at hl 2 rfl) ?_
            refine lv_iconst (v := 1) hx hb dL_found_78 (by decide) ?_
            refine lv_iconst (v := 2) hx hb dL_found_79 (by decide) ?_
            obtain ⟨h50, hw⟩ := hw
            refine h_goi C0 hW (va_runV (As := [.int 1, .int 2]) (rest := []) ⟨hx, hb, hml, ho, hts⟩ (k_X9_same (l := l) (u := u) (X := X) (sz := H.size) _ x0 1 2 S44  hw) (cwV 2 hts gL_found_X9_same rfl rfl rfl (by decide +kernel) ⟨Nat.le_of_ble_eq_true rfl, Nat.le_of_ble_eq_true rfl⟩) ⟨h_blind, (h_recv C0 hW (ci := 10) rfl h50), (h_pre C0 hW [.ref x0, .int 1, .int 2])⟩ rfl rfl hl.1 rfl (lv_room (Nat.le_of_ble_eq_true rfl)) dL_found_80 ⟨by show _ ≤ MC; omega, by show _ ≤ MS; omega⟩) (fun r49 S51 H locs h52 hW => ?_)
            obtain ⟨h53, hp⟩ := h52
            rw [h53] at hW
            replace hw := hp
            refine lv_iconst (v := 1) hx hb dL_found_83 (by decide) ?_
            refine lv_icmp_ne (tgt := 102) hx hb dL_found_84 (by decide) (fun c54 => ?_) (fun c54 => ?_)
            · replace hw := hw.1 c54
              refine lv_iconst (v := 0) hx hb dL_found_102 (by decide) ?_
              refine lv_istore_n (lv' := [(2, .int 0), (4, .int r22), (0, .ref x0), (1, .int x1), (3, .int x3)]) hx hb dL_found_103 rfl hl (by decide) rfl (fun ls hl9 => ?_)
              replace hl := hl9
              refine lv_iload hx hb dL_found_104 (lv_at hl 1 rfl) ?_
              refine lv_iconst (v := 1) hx hb dL_found_106 (by decide) ?_
              refine lv_iadd hx hb dL_found_107 ?_
              refine lv_topi (fun v55 ev55 => ?_)
              replace hw := hw v55 ev55
              refine lv_istore (lv' := [(5, .int v55), (2, .int 0), (4, .int r22), (0, .ref x0), (1, .int x1), (3, .int x3)]) hx hb dL_found_108 hl (by decide) rfl (fun ls hl9 => ?_)
              replace hl := hl9
              obtain ⟨n56, hw⟩ := hw
              exact t_L_found_110 C0  post hret K4 hK4 n56 x0 x1 0 x3 v55 S44 mc ms _ _ hkn hw _ _ _ hW (lv_sub hl [3, 4, 1, 5, 0] rfl)
            · replace hw := hw.2 c54
              refine lv_aload_n hx hb dL_found_87 rfl (lv_at hl 2 rfl) ?_
              refine lv_iload hx hb dL_found_88 (lv_at hl 0 rfl) ?_
              refine lv_iconst (v := 0) hx hb dL_found_90 (by decide) ?_
              obtain ⟨h58, hw⟩ := hw
              refine h_goi C0 hW (va_runV (As := [.int r22, .int 0]) (rest := []) ⟨hx, hb, hml, ho, hts⟩ (k_X9_has (l := l) (u := u) (X := X) (sz := H.size) _ x0 r22 0 S44  hw) (cwV 2 hts gL_found_X9_has rfl rfl rfl (by decide +kernel) ⟨Nat.le_of_ble_eq_true rfl, Nat.le_of_ble_eq_true rfl⟩) ⟨h_blind, (h_recv C0 hW (ci := 10) rfl h58), (h_pre C0 hW [.ref x0, .int r22, .int 0])⟩ rfl rfl hl.1 rfl (lv_room (Nat.le_of_ble_eq_true rfl)) dL_found_91 ⟨by show _ ≤ MC; omega, by show _ ≤ MS; omega⟩) (fun r57 S59 H locs h60 hW => ?_)
              replace hw := h60
              refine lv_iconst (v := 1) hx hb dL_found_94 (by decide) ?_
              refine lv_icmp_ne (tgt := 102) hx hb dL_found_95 (by decide) (fun c61 => ?_) (fun c61 => ?_)
              · replace hw := hw.1 c61
                refine lv_iconst (v := 0) hx hb dL_found_102 (by decide) ?_
                refine lv_istore_n (lv' := [(2, .int 0), (4, .int r22), (0, .ref x0), (1, .int x1), (3, .int x3)]) hx hb dL_found_103 rfl hl (by decide) rfl (fun ls hl9 => ?_)
                replace hl := hl9
                refine lv_iload hx hb dL_found_104 (lv_at hl 1 rfl) ?_
                refine lv_iconst (v := 1) hx hb dL_found_106 (by decide) ?_
                refine lv_iadd hx hb dL_found_107 ?_
                refine lv_topi (fun v62 ev62 => ?_)
                replace hw := hw v62 ev62
                refine lv_istore (lv' := [(5, .int v62), (2, .int 0), (4, .int r22), (0, .ref x0), (1, .int x1), (3, .int x3)]) hx hb dL_found_108 hl (by decide) rfl (fun ls hl9 => ?_)
                replace hl := hl9
                obtain ⟨n63, hw⟩ := hw
                exact t_L_found_110 C0  post hret K4 hK4 n63 x0 x1 0 x3 v62 S59 mc ms _ _ hkn hw _ _ _ hW (lv_sub hl [3, 4, 1, 5, 0] rfl)
              · replace hw := hw.2 c61
                refine lv_iconst (v := 1) hx hb dL_found_98 (by decide) ?_
                refine lv_goto (tgt := 103) hx hb dL_found_99 (by decide) ?_
                refine lv_istore_n (lv' := [(2, .int 1), (4, .int r22), (0, .ref x0), (1, .int x1), (3, .int x3)]) hx hb dL_found_103 rfl hl (by decide) rfl (fun ls hl9 => ?_)
                replace hl := hl9
                refine lv_iload hx hb dL_found_104 (lv_at hl 1 rfl) ?_
                refine lv_iconst (v := 1) hx hb dL_found_106 (by decide) ?_
                refine lv_iadd hx hb dL_found_107 ?_
                refine lv_topi (fun v64 ev64 => ?_)
                replace hw := hw v64 ev64
                refine lv_istore (lv' := [(5, .int v64), (2, .int 1), (4, .int r22), (0, .ref x0), (1, .int x1), (3, .int x3)]) hx hb dL_found_108 hl (by decide) rfl (fun ls hl9 => ?_)
                replace hl := hl9
                obtain ⟨n65, hw⟩ := hw
                exact t_L_found_110 C0  post hret K4 hK4 n65 x0 x1 1 x3 v64 S59 mc ms _ _ hkn hw _ _ _ hW (lv_sub hl [3, 4, 1, 5, 0] rfl)
set_option maxHeartbeats 4000000 in
set_option maxRecDepth 100000 in
theorem t_L_found_31 (C0 : hX p s m args c cL_found 6 RL wsL_found D (gt u.2.1) A u.1 u.2.2)  (post : Int32 → hS → Prop) (hret : ∀ (r : Int32) (S' : hS) (pc : Nat) (lv : List (Nat × Value)) (k n : Nat), k ≤ MC → n ≤ MS → post r S' → narrow .boolean (.int r) = .int r → decode cL_found pc = .ok (.ireturn, 1) → gG p l e (rm_L_found MC MS) s m args below meth c Q D A 6 k n (hC X S') pc lv [.int r]) (K4 : Option Nat → Int32 → Int32 → Int32 → hS → Nat → Nat → Prop) (hK4 : ∀ (x0 : Option Nat) (x1 : Int32) (x2 : Int32) (x3 : Int32) (S : hS) (mc ms k n : Nat), k + mc ≤ MC ∧ n + ms ≤ MS → K4 x0 x1 x2 x3 S mc ms → gG p l e (rm_L_found MC MS) s m args below meth c Q D A 6 k n (hC X S) 4 [(0, va_rf x0), (1, .int x1), (2, .int x2), (3, .int x3)] []) : ∀ (x0 : Nat) (x1 : Int32) (x3 : Int32) (S : hS) (mc ms k n : Nat), k + mc ≤ MC ∧ n + ms ≤ MS → w_L_found_31 u post  K4 x0 x1 x3 S mc ms → gG p l e (rm_L_found MC MS) s m args below meth c Q D A 6 k n (hC X S) 31 [(0, .ref x0), (1, .int x1), (3, .int x3)] [] := by
  obtain ⟨⟨hx, hb, hml, ho, hts, hK, hA⟩, hR⟩ := id C0
  intro x0 x1 x3 S mc ms k n hkn hw H locs ls hW hl
  rw [w_L_found_31] at hw
  refine lv_iconst (v := 0) hx hb dL_found_31 (by decide) ?_
  exact t_L_found_32 C0  post hret K4 hK4 x0 x1 x3 0 S mc ms _ _ hkn hw _ _ _ hW (lv_sub hl [0, 1, 2] rfl)
set_option maxHeartbeats 4000000 in
set_option maxRecDepth 100000 in
theorem t_L_found_4 (C0 : hX p s m args c cL_found 6 RL wsL_found D (gt u.2.1) A u.1 u.2.2)  (post : Int32 → hS → Prop) (hret : ∀ (r : Int32) (S' : hS) (pc : Nat) (lv : List (Nat × Value)) (k n : Nat), k ≤ MC → n ≤ MS → post r S' → narrow .boolean (.int r) = .int r → decode cL_found pc = .ok (.ireturn, 1) → gG p l e (rm_L_found MC MS) s m args below meth c Q D A 6 k n (hC X S') pc lv [.int r])  : ∀ (nf : Nat) (x0 : Option Nat) (x1 : Int32) (x2 : Int32) (x3 : Int32) (S : hS) (mc ms k n : Nat), k + mc ≤ MC ∧ n + ms ≤ MS → w_L_found_4 u post   nf x0 x1 x2 x3 S mc ms → gG p l e (rm_L_found MC MS) s m args below meth c Q D A 6 k n (hC X S) 4 [(0, va_rf x0), (1, .int x1), (2, .int x2), (3, .int x3)] [] := by
  obtain ⟨⟨hx, hb, hml, ho, hts, hK, hA⟩, hR⟩ := id C0
  intro nf
  induction nf with
  | zero => intro x0 x1 x2 x3 S mc ms k n hkn hw; exact hw.elim
  | succ nf ih =>
    intro x0 x1 x2 x3 S mc ms k n hkn hw H locs ls hW hl
    rw [w_L_found_4] at hw
    refine lv_iload_n hx hb dL_found_4 rfl (lv_at hl 3 rfl) ?_
    refine lv_aloadV_n hx hb dL_found_5 rfl (lv_at hl 0 rfl) ?_
    refine lv_iload_n hx hb dL_found_6 rfl (lv_at hl 1 rfl) ?_
    obtain ⟨a2, rfl, hw⟩ := hw
    obtain ⟨h8, k4, n5, h6, h7, hw⟩ := hw
    refine h_goi C0 hW (va_runV (As := [.int x1]) (rest := [.int x3]) ⟨hx, hb, hml, ho, hts⟩ (k_X9_names (l := l) (u := u) (X := X) (sz := H.size) _ a2 x1 S k4 n5 hw) (cwV 1 hts gL_found_X9_names rfl rfl rfl (by decide +kernel) ⟨Nat.le_of_ble_eq_true rfl, Nat.le_of_ble_eq_true rfl⟩) ⟨h_blind, (h_recv C0 hW (ci := 10) rfl h8), (h_pre C0 hW [.ref a2, .int x1])⟩ rfl rfl hl.1 rfl (lv_room (Nat.le_of_ble_eq_true rfl)) dL_found_7 ⟨by show _ ≤ MC; omega, by show _ ≤ MS; omega⟩) (fun r3 S9 H locs h10 hW => ?_)
    replace hw := h10
    have hkn : (k + k4) + (mc - k4) ≤ MC ∧ (n + n5) + (ms - n5) ≤ MS := by omega
    refine lv_icmp_ge (tgt := 148) hx hb dL_found_10 (by decide) (fun c11 => ?_) (fun c11 => ?_)
    · replace hw := hw.1 c11
      refine lv_iload_n hx hb dL_found_148 rfl (lv_at hl 2 rfl) ?_
      exact hret x2 S9 _ _ _ _ (by omega) (by omega) hw.2 hw.1 dL_found_149 _ _ _ hW hl
    · replace hw := hw.2 c11
      refine lv_iload_n hx hb dL_found_13 rfl (lv_at hl 2 rfl) ?_
      refine lv_if_eq (tgt := 31) hx hb dL_found_14 (by decide) (fun c12 => ?_) (fun c12 => ?_)
      · replace hw := hw.1 c12
        exact t_L_found_31 C0  post hret (w_L_found_4 u post   nf) ih a2 x1 x3 S9 (mc - k4) (ms - n5) _ _ hkn hw _ _ _ hW (lv_sub hl [0, 1, 3] rfl)
      · replace hw := hw.2 c12
        refine lv_aload_n hx hb dL_found_17 rfl (lv_at hl 0 rfl) ?_
        refine lv_iload_n hx hb dL_found_18 rfl (lv_at hl 1 rfl) ?_
        refine lv_iload_n hx hb dL_found_19 rfl (lv_at hl 3 rfl) ?_
        refine lv_iconst (v := 0) hx hb dL_found_20 (by decide) ?_
        obtain ⟨h18, k14, n15, h16, h17, hw⟩ := hw
        refine h_goi C0 hW (va_runV (As := [.int x1, .int x3, .int 0]) (rest := []) ⟨hx, hb, hml, ho, hts⟩ (k_X9_name (l := l) (u := u) (X := X) (sz := H.size) _ a2 x1 x3 0 S9 k14 n15 hw) (cwV 3 hts gL_found_X9_name rfl rfl rfl (by decide +kernel) ⟨Nat.le_of_ble_eq_true rfl, Nat.le_of_ble_eq_true rfl⟩) ⟨h_blind, (h_recv C0 hW (ci := 10) rfl h18), (h_pre C0 hW [.ref a2, .int x1, .int x3, .int 0])⟩ rfl rfl hl.1 rfl (lv_room (Nat.le_of_ble_eq_true rfl)) dL_found_21 ⟨by show _ ≤ MC; omega, by show _ ≤ MS; omega⟩) (fun r13 S19 H locs h20 hW => ?_)
        replace hw := h20
        have hkn : ((k + k4) + k14) + ((mc - k4) - k14) ≤ MC ∧ ((n + n5) + n15) + ((ms - n5) - n15) ≤ MS := by omega
        refine lv_if_lt (tgt := 31) hx hb dL_found_24 (by decide) (fun c21 => ?_) (fun c21 => ?_)
        · replace hw := hw.1 c21
          exact t_L_found_31 C0  post hret (w_L_found_4 u post   nf) ih a2 x1 x3 S19 ((mc - k4) - k14) ((ms - n5) - n15) _ _ hkn hw _ _ _ hW (lv_sub hl [0, 1, 3] rfl)
        · replace hw := hw.2 c21
          refine lv_iconst (v := 1) hx hb dL_found_27 (by decide) ?_
          refine lv_goto (tgt := 32) hx hb dL_found_28 (by decide) ?_
          exact t_L_found_32 C0  post hret (w_L_found_4 u post   nf) ih a2 x1 x3 1 S19 ((mc - k4) - k14) ((ms - n5) - n15) _ _ hkn hw _ _ _ hW (lv_sub hl [0, 1, 3] rfl)
set_option maxHeartbeats 4000000 in
set_option maxRecDepth 100000 in
theorem t_L_found_0 (C0 : hX p s m args c cL_found 6 RL wsL_found D (gt u.2.1) A u.1 u.2.2)  (post : Int32 → hS → Prop) (hret : ∀ (r : Int32) (S' : hS) (pc : Nat) (lv : List (Nat × Value)) (k n : Nat), k ≤ MC → n ≤ MS → post r S' → narrow .boolean (.int r) = .int r → decode cL_found pc = .ok (.ireturn, 1) → gG p l e (rm_L_found MC MS) s m args below meth c Q D A 6 k n (hC X S') pc lv [.int r])  : ∀ (p1 : Option Nat) (z2 : Int32) (S : hS) (mc ms k n : Nat), k + mc ≤ MC ∧ n + ms ≤ MS → w_L_found u post   p1 z2 S mc ms → gG p l e (rm_L_found MC MS) s m args below meth c Q D A 6 k n (hC X S) 0 [(0, va_rf p1), (1, .int z2)] [] := by
  obtain ⟨⟨hx, hb, hml, ho, hts, hK, hA⟩, hR⟩ := id C0
  intro p1 z2 S mc ms k n hkn hw H locs ls hW hl
  rw [w_L_found] at hw
  refine lv_iconst (v := 1) hx hb dL_found_0 (by decide) ?_
  refine lv_istore_n (lv' := [(2, .int 1), (0, va_rf p1), (1, .int z2)]) hx hb dL_found_1 rfl hl (by decide) rfl (fun ls hl9 => ?_)
  replace hl := hl9
  refine lv_iconst (v := 0) hx hb dL_found_2 (by decide) ?_
  refine lv_istore_n (lv' := [(3, .int 0), (2, .int 1), (0, va_rf p1), (1, .int z2)]) hx hb dL_found_3 rfl hl (by decide) rfl (fun ls hl9 => ?_)
  replace hl := hl9
  obtain ⟨n1, hw⟩ := hw
  exact t_L_found_4 C0  post hret  n1 p1 z2 1 0 S mc ms _ _ hkn hw _ _ _ hW (lv_sub hl [2, 3, 1, 0] rfl)
set_option maxHeartbeats 4000000 in
set_option maxRecDepth 100000 in
theorem k_L_found {l : Launch} {D : va_G} {u : hU} {X : va_W} {sz : Nat} (post : Int32 → hS → Prop) (p1 : Option Nat) (z2 : Int32) (S : hS) (mc ms : Nat) (hw : w_L_found u post  p1 z2 S mc ms) : hMi l yL_found wsL_found (rm_L_found mc ms) D (gt u.2.1) u.1 u.2.2 sz X S [va_rf p1, .int z2] post mc ms := by
  refine hMi_of (cc := cL_found) (nL := 6) (ty := .boolean) (own := RL) (by decide) rfl rfl (by cases p1 <;> exact Nat.le_of_ble_eq_true rfl) ?_
  intro p e s m args below meth c A Q C0 hin hret
  have hfin := t_L_found_0 C0  post hret p1 z2 S mc ms 0 0 ⟨by omega, by omega⟩ hw
  intro H locs ls hW hl
  refine hfin H locs ls hW ?_
  cases p1 <;> exact hl
end RAWM
