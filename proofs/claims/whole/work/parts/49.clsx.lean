section RAWM
variable {p : Program} {l : Launch} {e : Env} {s : State} {m : MethodId} {args : Array Value} {below : List Frame} {meth : Method} {c : Code} {Q : State → Prop}
variable {D : va_G} {A : Nat → Prop} {u : hU} {X : va_W} {MC MS : Nat}
abbrev rm_X10_init (MC MS : Nat) : Room := { frames := 1, cells := MC, slots := MS, locals := 12 }
theorem in_X10_init_RX10 : ∀ w ∈ wsX100, w ∈ wsX10_init := fun w hw9 => List.mem_cons_of_mem _ (List.mem_append_right _ hw9)
set_option maxHeartbeats 4000000 in
set_option maxRecDepth 100000 in
theorem t_X10_init_107 (C0 : hX p s m args c cX10_init 2 RX10 wsX10_init D (gt u.2.1) A u.1 u.2.2) (hin : yX10_init.name = "<init>" → meth.name = "<init>") (t0 : Nat) (post : hS → Prop) (hret : ∀ (S' : hS) (pc : Nat) (lv : List (Nat × Value)) (k n : Nat), k ≤ MC → n ≤ MS → post S' → decode cX10_init pc = .ok (.return_, 1) → gG p l e (rm_X10_init MC MS) s m args below meth c Q D A 2 k n (hC X S') pc lv [])  : ∀ (nf : Nat) (x1 : Int32) (S : hS) (mc ms k n : Nat), k + mc ≤ MC ∧ n + ms ≤ MS → w_X10_init_107 u post t0  nf x1 S mc ms → gG p l e (rm_X10_init MC MS) s m args below meth c Q D A 2 k n (hC X S) 107 [(0, .ref t0), (1, .int x1)] [] := by
  obtain ⟨⟨hx, hb, hml, ho, hts, hK, hA⟩, hR⟩ := id C0
  intro nf
  induction nf with
  | zero => intro x1 S mc ms k n hkn hw; exact hw.elim
  | succ nf ih =>
    intro x1 S mc ms k n hkn hw H locs ls hW hl
    rw [w_X10_init_107] at hw
    refine lv_iload_n hx hb dX10_init_107 rfl (lv_at hl 1 rfl) ?_
    refine lv_bipush (v := 6) hx hb dX10_init_108 (by decide) ?_
    refine lv_icmp_ge (tgt := 131) hx hb dX10_init_110 (by decide) (fun c171 => ?_) (fun c171 => ?_)
    · replace hw := hw.1 c171
      exact hret S _ _ _ _ (by omega) (by omega) hw dX10_init_131 _ _ _ hW hl
    · replace hw := hw.2 c171
      refine lv_aload_n hx hb dX10_init_113 rfl (lv_at hl 0 rfl) ?_
      obtain ⟨o172, h173, hw⟩ := hw
      refine h_getR C0 hW (T := TX10) (kf := 0) in_X10_init_RX10 h173 rfl (by decide) (List.mem_of_getElem? (i := 6) rfl) rfl dX10_init_114 ?_
      refine lv_sipush (v := 301) hx hb dX10_init_117 (by decide) ?_
      refine lv_iload_n hx hb dX10_init_120 rfl (lv_at hl 1 rfl) ?_
      refine lv_imul hx hb dX10_init_121 ?_
      refine lv_bipush (v := (-5)) hx hb dX10_init_122 (by decide) ?_
      obtain ⟨a174, rfl, hw⟩ := hw
      obtain ⟨N175, g176, h177, h178, hw⟩ := hw
      refine h_iast C0 hW h177 rfl h178 dX10_init_124 (fun H locs hW => ?_)
      obtain ⟨S179, eS179⟩ : ∃ z : hS, z = upS S a174 (.inl (u.2.1 0, N175, .inl (upd g176 ((301 * x1) : Int32).toNatClampNeg (-5)))) := ⟨_, rfl⟩
      rw [← eS179] at hW
      replace hw := hw S179 eS179
      obtain ⟨v180, ev180⟩ : ∃ y : Int32, y = x1 + 1 := ⟨_, rfl⟩
      replace hw := hw v180 ev180
      refine lv_iinc (v := v180) (lv' := [(1, .int v180), (0, .ref t0)]) hx hb dX10_init_125 hl (k := 1) rfl (by rw [ev180]; rfl) (by decide) rfl (fun ls hl9 => ?_)
      replace hl := hl9
      refine lv_goto (tgt := 107) hx hb dX10_init_128 (by decide) ?_
      exact ih v180 S179 mc ms _ _ hkn hw _ _ _ hW (lv_sub hl [1, 0] rfl)
set_option maxHeartbeats 4000000 in
set_option maxRecDepth 100000 in
theorem t_X10_init_0 (C0 : hX p s m args c cX10_init 2 RX10 wsX10_init D (gt u.2.1) A u.1 u.2.2) (hin : yX10_init.name = "<init>" → meth.name = "<init>") (t0 : Nat) (post : hS → Prop) (hret : ∀ (S' : hS) (pc : Nat) (lv : List (Nat × Value)) (k n : Nat), k ≤ MC → n ≤ MS → post S' → decode cX10_init pc = .ok (.return_, 1) → gG p l e (rm_X10_init MC MS) s m args below meth c Q D A 2 k n (hC X S') pc lv [])  : ∀ (S : hS) (mc ms k n : Nat), k + mc ≤ MC ∧ n + ms ≤ MS → w_X10_init u post t0   S mc ms → gG p l e (rm_X10_init MC MS) s m args below meth c Q D A 2 k n (hC X S) 0 [(0, .ref t0)] [] := by
  obtain ⟨⟨hx, hb, hml, ho, hts, hK, hA⟩, hR⟩ := id C0
  intro  S mc ms k n hkn hw H locs ls hW hl
  rw [w_X10_init] at hw
  refine lv_aload_n hx hb dX10_init_0 rfl (lv_at hl 0 rfl) ?_
  refine W.objInit hx hb ho (hts (.methodLink RX10 1 objectInit) (List.mem_of_getElem? (i := 1) rfl)) (hts (.instanceMethod objectInit) (List.mem_of_getElem? (i := 2) rfl)) (hts (.code objectInit ⟨#[0xb1]⟩ 1 none) (List.mem_of_getElem? (i := 3) rfl)) rfl (by rw [hml]; exact hl.1) rfl dX10_init_1 (Nat.le_of_ble_eq_true rfl) (Nat.le_of_ble_eq_true rfl) ?_
  refine W.eq (g2 := F0 m 4 ls []) rfl ?_
  refine lv_aload_n hx hb dX10_init_4 rfl (lv_at hl 0 rfl) ?_
  refine lv_ldc (v := (321140)) hx hb ho (hts (.constant RX10 7 (321140)) (List.mem_of_getElem? (i := 4) rfl)) dX10_init_5 ?_
  obtain ⟨N8, h9, h7, h4, h5, hw⟩ := hw
  refine h_newI4 C0 hW rfl (List.mem_of_getElem? (i := 5) rfl) (N := N8) (by rw [h9]; exact nI_pos (by omega)) (by rw [h9]; exact nI_clamp (by omega)) h7 (by show _ ≤ MC; omega) (by show _ ≤ MS; omega) dX10_init_7 (fun q1 H h2 hW => ?_)
  obtain ⟨S3, eS3⟩ : ∃ z : hS, z = adS S q1 (.inl (u.2.1 0, N8, .inl (fun _ => 0))) := ⟨_, rfl⟩
  rw [← eS3] at hW
  replace hw := hw q1 S3 h2 eS3
  have hkn : (k + 1) + (mc - 1) ≤ MC ∧ (n + N8) + (ms - N8) ≤ MS := by omega
  obtain ⟨fs10, h11, h12, hw⟩ := hw
  refine h_put C0 hW (T := TX10) (kf := 0) (ty := .array (.int)) in_X10_init_RX10 h11 rfl (by decide) h12 tyX10 tyX10_ok nmX10 (List.mem_of_getElem? (i := 6) rfl) rfl (Or.inr ⟨rfl, hin rfl, rfl⟩) (by decide +kernel) rfl rfl dX10_init_9 rfl (fun H locs hW => ?_)
  obtain ⟨S13, eS13⟩ : ∃ z : hS, z = upS S3 t0 (.inr (11, fs10.set 0 (.ref q1))) := ⟨_, rfl⟩
  rw [← eS13] at hW
  replace hw := hw S13 eS13
  refine lv_aload_n hx hb dX10_init_12 rfl (lv_at hl 0 rfl) ?_
  refine lv_bipush (v := 13) hx hb dX10_init_13 (by decide) ?_
  obtain ⟨N21, h22, h20, h17, h18, hw⟩ := hw
  refine h_newI4 C0 hW rfl (List.mem_of_getElem? (i := 5) rfl) (N := N21) (by rw [h22]; exact nI_pos (by omega)) (by rw [h22]; exact nI_clamp (by omega)) h20 (by show _ ≤ MC; omega) (by show _ ≤ MS; omega) dX10_init_15 (fun q14 H h15 hW => ?_)
  obtain ⟨S16, eS16⟩ : ∃ z : hS, z = adS S13 q14 (.inl (u.2.1 0, N21, .inl (fun _ => 0))) := ⟨_, rfl⟩
  rw [← eS16] at hW
  replace hw := hw q14 S16 h15 eS16
  have hkn : ((k + 1) + 1) + ((mc - 1) - 1) ≤ MC ∧ ((n + N8) + N21) + ((ms - N8) - N21) ≤ MS := by omega
  obtain ⟨fs23, h24, h25, hw⟩ := hw
  refine h_put C0 hW (T := TX10) (kf := 1) (ty := .array (.int)) in_X10_init_RX10 h24 rfl (by decide) h25 tyX10 tyX10_ok nmX10 (List.mem_of_getElem? (i := 7) rfl) rfl (Or.inr ⟨rfl, hin rfl, rfl⟩) (by decide +kernel) rfl rfl dX10_init_17 rfl (fun H locs hW => ?_)
  obtain ⟨S26, eS26⟩ : ∃ z : hS, z = upS S16 t0 (.inr (11, fs23.set 1 (.ref q14))) := ⟨_, rfl⟩
  rw [← eS26] at hW
  replace hw := hw S26 eS26
  refine lv_aload_n hx hb dX10_init_20 rfl (lv_at hl 0 rfl) ?_
  refine lv_iconst (v := 2) hx hb dX10_init_21 (by decide) ?_
  obtain ⟨N34, h35, h33, h30, h31, hw⟩ := hw
  refine h_newZ C0 hW rfl (List.mem_of_getElem? (i := 8) rfl) (N := N34) (by rw [h35]; exact nI_pos (by omega)) (by rw [h35]; exact nI_clamp (by omega)) h33 (by show _ ≤ MC; omega) (by show _ ≤ MS; omega) dX10_init_22 (fun q27 H h28 hW => ?_)
  obtain ⟨S29, eS29⟩ : ∃ z : hS, z = adS S26 q27 (.inl (u.2.1 1, N34, .inl (fun _ => 0))) := ⟨_, rfl⟩
  rw [← eS29] at hW
  replace hw := hw q27 S29 h28 eS29
  have hkn : (((k + 1) + 1) + 1) + (((mc - 1) - 1) - 1) ≤ MC ∧ (((n + N8) + N21) + N34) + (((ms - N8) - N21) - N34) ≤ MS := by omega
  obtain ⟨fs36, h37, h38, hw⟩ := hw
  refine h_put C0 hW (T := TX10) (kf := 2) (ty := .array (.boolean)) in_X10_init_RX10 h37 rfl (by decide) h38 tyX10 tyX10_ok nmX10 (List.mem_of_getElem? (i := 9) rfl) rfl (Or.inr ⟨rfl, hin rfl, rfl⟩) (by decide +kernel) rfl rfl dX10_init_24 rfl (fun H locs hW => ?_)
  obtain ⟨S39, eS39⟩ : ∃ z : hS, z = upS S29 t0 (.inr (11, fs36.set 2 (.ref q27))) := ⟨_, rfl⟩
  rw [← eS39] at hW
  replace hw := hw S39 eS39
  refine lv_aload_n hx hb dX10_init_27 rfl (lv_at hl 0 rfl) ?_
  refine lv_sipush (v := 300) hx hb dX10_init_28 (by decide) ?_
  obtain ⟨N47, h48, h46, h43, h44, hw⟩ := hw
  refine h_newI4 C0 hW rfl (List.mem_of_getElem? (i := 5) rfl) (N := N47) (by rw [h48]; exact nI_pos (by omega)) (by rw [h48]; exact nI_clamp (by omega)) h46 (by show _ ≤ MC; omega) (by show _ ≤ MS; omega) dX10_init_31 (fun q40 H h41 hW => ?_)
  obtain ⟨S42, eS42⟩ : ∃ z : hS, z = adS S39 q40 (.inl (u.2.1 0, N47, .inl (fun _ => 0))) := ⟨_, rfl⟩
  rw [← eS42] at hW
  replace hw := hw q40 S42 h41 eS42
  have hkn : ((((k + 1) + 1) + 1) + 1) + ((((mc - 1) - 1) - 1) - 1) ≤ MC ∧ ((((n + N8) + N21) + N34) + N47) + ((((ms - N8) - N21) - N34) - N47) ≤ MS := by omega
  obtain ⟨fs49, h50, h51, hw⟩ := hw
  refine h_put C0 hW (T := TX10) (kf := 3) (ty := .array (.int)) in_X10_init_RX10 h50 rfl (by decide) h51 tyX10 tyX10_ok nmX10 (List.mem_of_getElem? (i := 10) rfl) rfl (Or.inr ⟨rfl, hin rfl, rfl⟩) (by decide +kernel) rfl rfl dX10_init_33 rfl (fun H locs hW => ?_)
  obtain ⟨S52, eS52⟩ : ∃ z : hS, z = upS S42 t0 (.inr (11, fs49.set 3 (.ref q40))) := ⟨_, rfl⟩
  rw [← eS52] at hW
  replace hw := hw S52 eS52
  refine lv_aload_n hx hb dX10_init_36 rfl (lv_at hl 0 rfl) ?_
  refine lv_sipush (v := 300) hx hb dX10_init_37 (by decide) ?_
  obtain ⟨N60, h61, h59, h56, h57, hw⟩ := hw
  refine h_newI4 C0 hW rfl (List.mem_of_getElem? (i := 5) rfl) (N := N60) (by rw [h61]; exact nI_pos (by omega)) (by rw [h61]; exact nI_clamp (by omega)) h59 (by show _ ≤ MC; omega) (by show _ ≤ MS; omega) dX10_init_40 (fun q53 H h54 hW => ?_)
  obtain ⟨S55, eS55⟩ : ∃ z : hS, z = adS S52 q53 (.inl (u.2.1 0, N60, .inl (fun _ => 0))) := ⟨_, rfl⟩
  rw [← eS55] at hW
  replace hw := hw q53 S55 h54 eS55
  have hkn : (((((k + 1) + 1) + 1) + 1) + 1) + (((((mc - 1) - 1) - 1) - 1) - 1) ≤ MC ∧ (((((n + N8) + N21) + N34) + N47) + N60) + (((((ms - N8) - N21) - N34) - N47) - N60) ≤ MS := by omega
  obtain ⟨fs62, h63, h64, hw⟩ := hw
  refine h_put C0 hW (T := TX10) (kf := 5) (ty := .array (.int)) in_X10_init_RX10 h63 rfl (by decide) h64 tyX10 tyX10_ok nmX10 (List.mem_of_getElem? (i := 11) rfl) rfl (Or.inr ⟨rfl, hin rfl, rfl⟩) (by decide +kernel) rfl rfl dX10_init_42 rfl (fun H locs hW => ?_)
  obtain ⟨S65, eS65⟩ : ∃ z : hS, z = upS S55 t0 (.inr (11, fs62.set 5 (.ref q53))) := ⟨_, rfl⟩
  rw [← eS65] at hW
  replace hw := hw S65 eS65
  refine lv_aload_n hx hb dX10_init_45 rfl (lv_at hl 0 rfl) ?_
  refine lv_iconst (v := 2) hx hb dX10_init_46 (by decide) ?_
  obtain ⟨N73, h74, h72, h69, h70, hw⟩ := hw
  refine h_newZ C0 hW rfl (List.mem_of_getElem? (i := 8) rfl) (N := N73) (by rw [h74]; exact nI_pos (by omega)) (by rw [h74]; exact nI_clamp (by omega)) h72 (by show _ ≤ MC; omega) (by show _ ≤ MS; omega) dX10_init_47 (fun q66 H h67 hW => ?_)
  obtain ⟨S68, eS68⟩ : ∃ z : hS, z = adS S65 q66 (.inl (u.2.1 1, N73, .inl (fun _ => 0))) := ⟨_, rfl⟩
  rw [← eS68] at hW
  replace hw := hw q66 S68 h67 eS68
  have hkn : ((((((k + 1) + 1) + 1) + 1) + 1) + 1) + ((((((mc - 1) - 1) - 1) - 1) - 1) - 1) ≤ MC ∧ ((((((n + N8) + N21) + N34) + N47) + N60) + N73) + ((((((ms - N8) - N21) - N34) - N47) - N60) - N73) ≤ MS := by omega
  obtain ⟨fs75, h76, h77, hw⟩ := hw
  refine h_put C0 hW (T := TX10) (kf := 7) (ty := .array (.boolean)) in_X10_init_RX10 h76 rfl (by decide) h77 tyX10 tyX10_ok nmX10 (List.mem_of_getElem? (i := 12) rfl) rfl (Or.inr ⟨rfl, hin rfl, rfl⟩) (by decide +kernel) rfl rfl dX10_init_49 rfl (fun H locs hW => ?_)
  obtain ⟨S78, eS78⟩ : ∃ z : hS, z = upS S68 t0 (.inr (11, fs75.set 7 (.ref q66))) := ⟨_, rfl⟩
  rw [← eS78] at hW
  replace hw := hw S78 eS78
  refine lv_aload_n hx hb dX10_init_52 rfl (lv_at hl 0 rfl) ?_
  refine lv_iconst (v := 2) hx hb dX10_init_53 (by decide) ?_
  obtain ⟨N86, h87, h85, h82, h83, hw⟩ := hw
  refine h_newZ C0 hW rfl (List.mem_of_getElem? (i := 8) rfl) (N := N86) (by rw [h87]; exact nI_pos (by omega)) (by rw [h87]; exact nI_clamp (by omega)) h85 (by show _ ≤ MC; omega) (by show _ ≤ MS; omega) dX10_init_54 (fun q79 H h80 hW => ?_)
  obtain ⟨S81, eS81⟩ : ∃ z : hS, z = adS S78 q79 (.inl (u.2.1 1, N86, .inl (fun _ => 0))) := ⟨_, rfl⟩
  rw [← eS81] at hW
  replace hw := hw q79 S81 h80 eS81
  have hkn : (((((((k + 1) + 1) + 1) + 1) + 1) + 1) + 1) + (((((((mc - 1) - 1) - 1) - 1) - 1) - 1) - 1) ≤ MC ∧ (((((((n + N8) + N21) + N34) + N47) + N60) + N73) + N86) + (((((((ms - N8) - N21) - N34) - N47) - N60) - N73) - N86) ≤ MS := by omega
  obtain ⟨fs88, h89, h90, hw⟩ := hw
  refine h_put C0 hW (T := TX10) (kf := 8) (ty := .array (.boolean)) in_X10_init_RX10 h89 rfl (by decide) h90 tyX10 tyX10_ok nmX10 (List.mem_of_getElem? (i := 13) rfl) rfl (Or.inr ⟨rfl, hin rfl, rfl⟩) (by decide +kernel) rfl rfl dX10_init_56 rfl (fun H locs hW => ?_)
  obtain ⟨S91, eS91⟩ : ∃ z : hS, z = upS S81 t0 (.inr (11, fs88.set 8 (.ref q79))) := ⟨_, rfl⟩
  rw [← eS91] at hW
  replace hw := hw S91 eS91
  refine lv_aload_n hx hb dX10_init_59 rfl (lv_at hl 0 rfl) ?_
  refine lv_iconst (v := 2) hx hb dX10_init_60 (by decide) ?_
  obtain ⟨N99, h100, h98, h95, h96, hw⟩ := hw
  refine h_newI4 C0 hW rfl (List.mem_of_getElem? (i := 5) rfl) (N := N99) (by rw [h100]; exact nI_pos (by omega)) (by rw [h100]; exact nI_clamp (by omega)) h98 (by show _ ≤ MC; omega) (by show _ ≤ MS; omega) dX10_init_61 (fun q92 H h93 hW => ?_)
  obtain ⟨S94, eS94⟩ : ∃ z : hS, z = adS S91 q92 (.inl (u.2.1 0, N99, .inl (fun _ => 0))) := ⟨_, rfl⟩
  rw [← eS94] at hW
  replace hw := hw q92 S94 h93 eS94
  have hkn : ((((((((k + 1) + 1) + 1) + 1) + 1) + 1) + 1) + 1) + ((((((((mc - 1) - 1) - 1) - 1) - 1) - 1) - 1) - 1) ≤ MC ∧ ((((((((n + N8) + N21) + N34) + N47) + N60) + N73) + N86) + N99) + ((((((((ms - N8) - N21) - N34) - N47) - N60) - N73) - N86) - N99) ≤ MS := by omega
  obtain ⟨fs101, h102, h103, hw⟩ := hw
  refine h_put C0 hW (T := TX10) (kf := 9) (ty := .array (.int)) in_X10_init_RX10 h102 rfl (by decide) h103 tyX10 tyX10_ok nmX10 (List.mem_of_getElem? (i := 14) rfl) rfl (Or.inr ⟨rfl, hin rfl, rfl⟩) (by decide +kernel) rfl rfl dX10_init_63 rfl (fun H locs hW => ?_)
  obtain ⟨S104, eS104⟩ : ∃ z : hS, z = upS S94 t0 (.inr (11, fs101.set 9 (.ref q92))) := ⟨_, rfl⟩
  rw [← eS104] at hW
  replace hw := hw S104 eS104
  refine lv_aload_n hx hb dX10_init_66 rfl (lv_at hl 0 rfl) ?_
  refine lv_iconst (v := 3) hx hb dX10_init_67 (by decide) ?_
  obtain ⟨N112, h113, h111, h108, h109, hw⟩ := hw
  refine h_newZ C0 hW rfl (List.mem_of_getElem? (i := 8) rfl) (N := N112) (by rw [h113]; exact nI_pos (by omega)) (by rw [h113]; exact nI_clamp (by omega)) h111 (by show _ ≤ MC; omega) (by show _ ≤ MS; omega) dX10_init_68 (fun q105 H h106 hW => ?_)
  obtain ⟨S107, eS107⟩ : ∃ z : hS, z = adS S104 q105 (.inl (u.2.1 1, N112, .inl (fun _ => 0))) := ⟨_, rfl⟩
  rw [← eS107] at hW
  replace hw := hw q105 S107 h106 eS107
  have hkn : (((((((((k + 1) + 1) + 1) + 1) + 1) + 1) + 1) + 1) + 1) + (((((((((mc - 1) - 1) - 1) - 1) - 1) - 1) - 1) - 1) - 1) ≤ MC ∧ (((((((((n + N8) + N21) + N34) + N47) + N60) + N73) + N86) + N99) + N112) + (((((((((ms - N8) - N21) - N34) - N47) - N60) - N73) - N86) - N99) - N112) ≤ MS := by omega
  obtain ⟨fs114, h115, h116, hw⟩ := hw
  refine h_put C0 hW (T := TX10) (kf := 10) (ty := .array (.boolean)) in_X10_init_RX10 h115 rfl (by decide) h116 tyX10 tyX10_ok nmX10 (List.mem_of_getElem? (i := 15) rfl) rfl (Or.inr ⟨rfl, hin rfl, rfl⟩) (by decide +kernel) rfl rfl dX10_init_70 rfl (fun H locs hW => ?_)
  obtain ⟨S117, eS117⟩ : ∃ z : hS, z = upS S107 t0 (.inr (11, fs114.set 10 (.ref q105))) := ⟨_, rfl⟩
  rw [← eS117] at hW
  replace hw := hw S117 eS117
  refine lv_aload_n hx hb dX10_init_73 rfl (lv_at hl 0 rfl) ?_
  refine lv_iconst (v := 3) hx hb dX10_init_74 (by decide) ?_
  obtain ⟨N125, h126, h124, h121, h122, hw⟩ := hw
  refine h_newZ C0 hW rfl (List.mem_of_getElem? (i := 8) rfl) (N := N125) (by rw [h126]; exact nI_pos (by omega)) (by rw [h126]; exact nI_clamp (by omega)) h124 (by show _ ≤ MC; omega) (by show _ ≤ MS; omega) dX10_init_75 (fun q118 H h119 hW => ?_)
  obtain ⟨S120, eS120⟩ : ∃ z : hS, z = adS S117 q118 (.inl (u.2.1 1, N125, .inl (fun _ => 0))) := ⟨_, rfl⟩
  rw [← eS120] at hW
  replace hw := hw q118 S120 h119 eS120
  have hkn : ((((((((((k + 1) + 1) + 1) + 1) + 1) + 1) + 1) + 1) + 1) + 1) + ((((((((((mc - 1) - 1) - 1) - 1) - 1) - 1) - 1) - 1) - 1) - 1) ≤ MC ∧ ((((((((((n + N8) + N21) + N34) + N47) + N60) + N73) + N86) + N99) + N112) + N125) + ((((((((((ms - N8) - N21) - N34) - N47) - N60) - N73) - N86) - N99) - N112) - N125) ≤ MS := by omega
  obtain ⟨fs127, h128, h129, hw⟩ := hw
  refine h_put C0 hW (T := TX10) (kf := 11) (ty := .array (.boolean)) in_X10_init_RX10 h128 rfl (by decide) h129 tyX10 tyX10_ok nmX10 (List.mem_of_getElem? (i := 16) rfl) rfl (Or.inr ⟨rfl, hin rfl, rfl⟩) (by decide +kernel) rfl rfl dX10_init_77 rfl (fun H locs hW => ?_)
  obtain ⟨S130, eS130⟩ : ∃ z : hS, z = upS S120 t0 (.inr (11, fs127.set 11 (.ref q118))) := ⟨_, rfl⟩
  rw [← eS130] at hW
  replace hw := hw S130 eS130
  refine lv_aload_n hx hb dX10_init_80 rfl (lv_at hl 0 rfl) ?_
  refine lv_sipush (v := 300) hx hb dX10_init_81 (by decide) ?_
  obtain ⟨N138, h139, h137, h134, h135, hw⟩ := hw
  refine h_newI4 C0 hW rfl (List.mem_of_getElem? (i := 5) rfl) (N := N138) (by rw [h139]; exact nI_pos (by omega)) (by rw [h139]; exact nI_clamp (by omega)) h137 (by show _ ≤ MC; omega) (by show _ ≤ MS; omega) dX10_init_84 (fun q131 H h132 hW => ?_)
  obtain ⟨S133, eS133⟩ : ∃ z : hS, z = adS S130 q131 (.inl (u.2.1 0, N138, .inl (fun _ => 0))) := ⟨_, rfl⟩
  rw [← eS133] at hW
  replace hw := hw q131 S133 h132 eS133
  have hkn : (((((((((((k + 1) + 1) + 1) + 1) + 1) + 1) + 1) + 1) + 1) + 1) + 1) + (((((((((((mc - 1) - 1) - 1) - 1) - 1) - 1) - 1) - 1) - 1) - 1) - 1) ≤ MC ∧ (((((((((((n + N8) + N21) + N34) + N47) + N60) + N73) + N86) + N99) + N112) + N125) + N138) + (((((((((((ms - N8) - N21) - N34) - N47) - N60) - N73) - N86) - N99) - N112) - N125) - N138) ≤ MS := by omega
  obtain ⟨fs140, h141, h142, hw⟩ := hw
  refine h_put C0 hW (T := TX10) (kf := 17) (ty := .array (.int)) in_X10_init_RX10 h141 rfl (by decide) h142 tyX10 tyX10_ok nmX10 (List.mem_of_getElem? (i := 17) rfl) rfl (Or.inr ⟨rfl, hin rfl, rfl⟩) (by decide +kernel) rfl rfl dX10_init_86 rfl (fun H locs hW => ?_)
  obtain ⟨S143, eS143⟩ : ∃ z : hS, z = upS S133 t0 (.inr (11, fs140.set 17 (.ref q131))) := ⟨_, rfl⟩
  rw [← eS143] at hW
  replace hw := hw S143 eS143
  refine lv_aload_n hx hb dX10_init_89 rfl (lv_at hl 0 rfl) ?_
  refine lv_sipush (v := 300) hx hb dX10_init_90 (by decide) ?_
  obtain ⟨N151, h152, h150, h147, h148, hw⟩ := hw
  refine h_newI4 C0 hW rfl (List.mem_of_getElem? (i := 5) rfl) (N := N151) (by rw [h152]; exact nI_pos (by omega)) (by rw [h152]; exact nI_clamp (by omega)) h150 (by show _ ≤ MC; omega) (by show _ ≤ MS; omega) dX10_init_93 (fun q144 H h145 hW => ?_)
  obtain ⟨S146, eS146⟩ : ∃ z : hS, z = adS S143 q144 (.inl (u.2.1 0, N151, .inl (fun _ => 0))) := ⟨_, rfl⟩
  rw [← eS146] at hW
  replace hw := hw q144 S146 h145 eS146
  have hkn : ((((((((((((k + 1) + 1) + 1) + 1) + 1) + 1) + 1) + 1) + 1) + 1) + 1) + 1) + ((((((((((((mc - 1) - 1) - 1) - 1) - 1) - 1) - 1) - 1) - 1) - 1) - 1) - 1) ≤ MC ∧ ((((((((((((n + N8) + N21) + N34) + N47) + N60) + N73) + N86) + N99) + N112) + N125) + N138) + N151) + ((((((((((((ms - N8) - N21) - N34) - N47) - N60) - N73) - N86) - N99) - N112) - N125) - N138) - N151) ≤ MS := by omega
  obtain ⟨fs153, h154, h155, hw⟩ := hw
  refine h_put C0 hW (T := TX10) (kf := 18) (ty := .array (.int)) in_X10_init_RX10 h154 rfl (by decide) h155 tyX10 tyX10_ok nmX10 (List.mem_of_getElem? (i := 18) rfl) rfl (Or.inr ⟨rfl, hin rfl, rfl⟩) (by decide +kernel) rfl rfl dX10_init_95 rfl (fun H locs hW => ?_)
  obtain ⟨S156, eS156⟩ : ∃ z : hS, z = upS S146 t0 (.inr (11, fs153.set 18 (.ref q144))) := ⟨_, rfl⟩
  rw [← eS156] at hW
  replace hw := hw S156 eS156
  refine lv_aload_n hx hb dX10_init_98 rfl (lv_at hl 0 rfl) ?_
  refine lv_iconst (v := 4) hx hb dX10_init_99 (by decide) ?_
  obtain ⟨N164, h165, h163, h160, h161, hw⟩ := hw
  refine h_newI4 C0 hW rfl (List.mem_of_getElem? (i := 5) rfl) (N := N164) (by rw [h165]; exact nI_pos (by omega)) (by rw [h165]; exact nI_clamp (by omega)) h163 (by show _ ≤ MC; omega) (by show _ ≤ MS; omega) dX10_init_100 (fun q157 H h158 hW => ?_)
  obtain ⟨S159, eS159⟩ : ∃ z : hS, z = adS S156 q157 (.inl (u.2.1 0, N164, .inl (fun _ => 0))) := ⟨_, rfl⟩
  rw [← eS159] at hW
  replace hw := hw q157 S159 h158 eS159
  have hkn : (((((((((((((k + 1) + 1) + 1) + 1) + 1) + 1) + 1) + 1) + 1) + 1) + 1) + 1) + 1) + (((((((((((((mc - 1) - 1) - 1) - 1) - 1) - 1) - 1) - 1) - 1) - 1) - 1) - 1) - 1) ≤ MC ∧ (((((((((((((n + N8) + N21) + N34) + N47) + N60) + N73) + N86) + N99) + N112) + N125) + N138) + N151) + N164) + (((((((((((((ms - N8) - N21) - N34) - N47) - N60) - N73) - N86) - N99) - N112) - N125) - N138) - N151) - N164) ≤ MS := by omega
  obtain ⟨fs166, h167, h168, hw⟩ := hw
  refine h_put C0 hW (T := TX10) (kf := 20) (ty := .array (.int)) in_X10_init_RX10 h167 rfl (by decide) h168 tyX10 tyX10_ok nmX10 (List.mem_of_getElem? (i := 19) rfl) rfl (Or.inr ⟨rfl, hin rfl, rfl⟩) (by decide +kernel) rfl rfl dX10_init_102 rfl (fun H locs hW => ?_)
  obtain ⟨S169, eS169⟩ : ∃ z : hS, z = upS S159 t0 (.inr (11, fs166.set 20 (.ref q157))) := ⟨_, rfl⟩
  rw [← eS169] at hW
  replace hw := hw S169 eS169
  refine lv_iconst (v := 0) hx hb dX10_init_105 (by decide) ?_
  refine lv_istore_n (lv' := [(1, .int 0), (0, .ref t0)]) hx hb dX10_init_106 rfl hl (by decide) rfl (fun ls hl9 => ?_)
  replace hl := hl9
  obtain ⟨n170, hw⟩ := hw
  exact t_X10_init_107 C0 hin t0 post hret  n170 0 S169 (((((((((((((mc - 1) - 1) - 1) - 1) - 1) - 1) - 1) - 1) - 1) - 1) - 1) - 1) - 1) (((((((((((((ms - N8) - N21) - N34) - N47) - N60) - N73) - N86) - N99) - N112) - N125) - N138) - N151) - N164) _ _ hkn hw _ _ _ hW (lv_sub hl [1, 0] rfl)
set_option maxHeartbeats 4000000 in
set_option maxRecDepth 100000 in
theorem k_X10_init {l : Launch} {D : va_G} {u : hU} {X : va_W} {sz : Nat} (post : hS → Prop) (t0 : Nat) (S : hS) (mc ms : Nat) (hw : w_X10_init u post t0  S mc ms) : hMv l yX10_init wsX10_init (rm_X10_init mc ms) D (gt u.2.1) u.1 u.2.2 sz X S [.ref t0] post mc ms := by
  refine hMv_of (cc := cX10_init) (nL := 2) (own := RX10) (by decide) rfl rfl (Nat.le_of_ble_eq_true rfl) ?_
  intro p e s m args below meth c A Q C0 hin hret
  exact t_X10_init_0 C0 hin t0 post hret  S mc ms 0 0 ⟨by omega, by omega⟩ hw
end RAWM
