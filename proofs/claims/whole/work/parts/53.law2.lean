section LAWM
variable {p : Program} {l : Launch} {e : Env} {s : State} {m : MethodId} {b : Nat} {below : List Frame} {meth : Method} {c : Code} {Q : State → Prop}
variable {D : va_G} {u : hU} {ad : Nat → Nat} {d0 L : Nat} {xs : Nat → Int32}

set_option maxHeartbeats 4000000 in
set_option maxRecDepth 100000 in
theorem t_law_18 (C0 : hX p s m #[Value.ref b] c cL_law 4 RL wsL_law D (gt u.2.1) (fun q => s.heap.size ≤ q) u.1 u.2.2) (hXs : va_X b L xs s s.heap) (hbl : b < s.heap.size) (hL : L < 2 ^ 30) (hQ : ∀ (S : hS) (M : RM) (mc ms k n : Nat) (pc : Nat) (lv : List (Nat × Value)), k + mc ≤ 600000 ∧ n + ms ≤ 7302249 → decode cL_law pc = .ok (.ireturn, 1) → gG p l e room_1 s m #[Value.ref b] below meth c Q D (fun q => s.heap.size ≤ q) 4 k n (rcells (u.2.1 0) (u.2.1 1) ad M (va_pl S.1 S.2)) pc lv [.int 1]) : ∀ (nf : Nat) (x3 : Int32) (S : hS) (M : RM) (mc ms k n : Nat), k + mc ≤ 600000 ∧ n + ms ≤ 7302249 → w_law_18 u d0 L xs nf x3 S M mc ms → gG p l e room_1 s m #[Value.ref b] below meth c Q D (fun q => s.heap.size ≤ q) 4 k n (rcells (u.2.1 0) (u.2.1 1) ad M (va_pl S.1 S.2)) 18 [(0, .ref b), (1, .ref d0), (2, .ref (ad 0)), (3, .int x3)] [] := by
  obtain ⟨⟨hx, hb, hml, ho, hts, hK, hA⟩, hR⟩ := id C0
  have hbA : ¬ (fun q : Nat => s.heap.size ≤ q) b := Nat.not_le.mpr hbl
  intro nf
  induction nf with
  | zero => intro x3 S M mc ms k n hkn hw; exact hw.elim
  | succ nf ih =>
    have hKK : ∀ (x3 : Int32) (S : hS) (M : RM) (mc ms k n : Nat), k + mc ≤ 600000 ∧ n + ms ≤ 7302249 → (∀ x4 : Int32, x4 = x3 + 5 → w_law_18 u d0 L xs nf x4 S M mc ms) → gG p l e room_1 s m #[Value.ref b] below meth c Q D (fun q => s.heap.size ≤ q) 4 k n (rcells (u.2.1 0) (u.2.1 1) ad M (va_pl S.1 S.2)) 1680 [(0, .ref b), (1, .ref d0), (2, .ref (ad 0)), (3, .int x3)] [] := by
      intro x3 S M mc ms k n hkn hw H locs ls hW hl
      obtain ⟨x4, e4⟩ : ∃ y : Int32, y = x3 + 5 := ⟨_, rfl⟩
      refine lv_iinc (v := x4) (lv' := [(3, .int x4), (0, .ref b), (1, .ref d0), (2, .ref (ad 0))]) hx hb dL_law_1680 hl (k := 3) rfl (by rw [e4]; rfl) (by decide) rfl (fun ls hl9 => ?_)
      refine lv_goto (tgt := 18) hx hb dL_law_1683 (by decide) ?_
      exact ih x4 S M mc ms k n hkn (hw x4 e4) _ _ _ hW (lv_sub hl9 [1, 2, 3, 0] rfl)
    intro x3 S M mc ms k n hkn hw H locs ls hW hl
    rw [w_law_18] at hw
    refine lv_iload_n hx hb dL_law_18 rfl (lv_at hl 3 rfl) ?_
    refine lv_aload_n hx hb dL_law_19 rfl (lv_at hl 0 rfl) ?_
    refine va_slen hx hb hXs hbl hbA hW.2.2 dL_law_20 ?_
    refine lv_iconst (v := 5) hx hb dL_law_21 (by decide) ?_
    refine lv_isub hx hb dL_law_22 ?_
    refine lv_icmp_gt (tgt := 1686) hx hb dL_law_23 (by decide) (fun c1 => ?_) (fun c1 => ?_)
    · refine lv_iconst (v := 1) hx hb dL_law_1686 (by decide) ?_
      exact hQ S M mc ms k n _ _ hkn dL_law_1687 _ _ _ hW hl
    · obtain ⟨h1, hw⟩ := hw.2 c1
      refine lv_aload_n hx hb dL_law_26 rfl (lv_at hl 0 rfl) ?_
      refine lv_iload_n hx hb dL_law_27 rfl (lv_at hl 3 rfl) ?_
      refine va_sld hx hb hXs hbl hbA hW.2.2 h1 dL_law_28 ?_
      refine lv_bipush (v := 63) hx hb dL_law_29 (by decide) ?_
      refine lv_iand hx hb dL_law_31 ?_
      refine lv_topi (fun v ev => ?_)
      replace hw := hw v ev
      rcases sw_law v with h | h | h | h | h | h | h | h | h | h | h | h | h | h | h | h | h | h | h | h | h | h | h | h | h | h | h | h | h | h | h | h | h | h | h | h | h | h | h | h | h | h | h | h | h | h | h
      · refine lv_tableOut (tgt := 1680) hx hb dL_law_32 (by rcases h with h | h; exact Or.inl (by have := Int32.lt_iff_toInt_lt.mp h; exact this); exact Or.inr (by have := Int32.lt_iff_toInt_lt.mp h; exact this)) (by decide) ?_
        exact hKK x3 S M mc ms k n hkn (hw.1 h) _ _ _ hW hl
      · have hw2 := hw.2.1 h
        subst h
        refine lv_tableIn (off := 200) (tgt := 232) hx hb dL_law_32 (by decide) (by decide) (by decide) (by decide) ?_
        exact t_law_c0 C0 hXs hbl _ hKK x3 S M mc ms k n hkn hw2 _ _ _ hW hl
      · have hw2 := hw.2.2.1 h
        subst h
        refine lv_tableIn (off := 223) (tgt := 255) hx hb dL_law_32 (by decide) (by decide) (by decide) (by decide) ?_
        exact t_law_c1 C0 hXs hbl _ hKK x3 S M mc ms k n hkn hw2 _ _ _ hW hl
      · have hw2 := hw.2.2.2.1 h
        subst h
        refine lv_tableIn (off := 246) (tgt := 278) hx hb dL_law_32 (by decide) (by decide) (by decide) (by decide) ?_
        exact t_law_c2 C0 hXs hbl _ hKK x3 S M mc ms k n hkn hw2 _ _ _ hW hl
      · have hw2 := hw.2.2.2.2.1 h
        subst h
        refine lv_tableIn (off := 279) (tgt := 311) hx hb dL_law_32 (by decide) (by decide) (by decide) (by decide) ?_
        exact t_law_c3 C0 hXs hbl _ hKK x3 S M mc ms k n hkn hw2 _ _ _ hW hl
      · have hw2 := hw.2.2.2.2.2.1 h
        subst h
        refine lv_tableIn (off := 302) (tgt := 334) hx hb dL_law_32 (by decide) (by decide) (by decide) (by decide) ?_
        exact t_law_c4 C0 hXs hbl _ hKK x3 S M mc ms k n hkn hw2 _ _ _ hW hl
      · have hw2 := hw.2.2.2.2.2.2.1 h
        subst h
        refine lv_tableIn (off := 335) (tgt := 367) hx hb dL_law_32 (by decide) (by decide) (by decide) (by decide) ?_
        exact t_law_c5 C0 hXs hbl _ hKK x3 S M mc ms k n hkn hw2 _ _ _ hW hl
      · have hw2 := hw.2.2.2.2.2.2.2.1 h
        subst h
        refine lv_tableIn (off := 368) (tgt := 400) hx hb dL_law_32 (by decide) (by decide) (by decide) (by decide) ?_
        exact t_law_c6 C0 hXs hbl _ hKK x3 S M mc ms k n hkn hw2 _ _ _ hW hl
      · have hw2 := hw.2.2.2.2.2.2.2.2.1 h
        subst h
        refine lv_tableIn (off := 401) (tgt := 433) hx hb dL_law_32 (by decide) (by decide) (by decide) (by decide) ?_
        exact t_law_c7 C0 hXs hbl _ hKK x3 S M mc ms k n hkn hw2 _ _ _ hW hl
      · have hw2 := hw.2.2.2.2.2.2.2.2.2.1 h
        subst h
        refine lv_tableIn (off := 424) (tgt := 456) hx hb dL_law_32 (by decide) (by decide) (by decide) (by decide) ?_
        exact t_law_c8 C0 hXs hbl _ hKK x3 S M mc ms k n hkn hw2 _ _ _ hW hl
      · have hw2 := hw.2.2.2.2.2.2.2.2.2.2.1 h
        subst h
        refine lv_tableIn (off := 437) (tgt := 469) hx hb dL_law_32 (by decide) (by decide) (by decide) (by decide) ?_
        exact t_law_c9 C0 hXs hbl _ hKK x3 S M mc ms k n hkn hw2 _ _ _ hW hl
      · have hw2 := hw.2.2.2.2.2.2.2.2.2.2.2.1 h
        subst h
        refine lv_tableIn (off := 460) (tgt := 492) hx hb dL_law_32 (by decide) (by decide) (by decide) (by decide) ?_
        exact t_law_c10 C0 hXs hbl _ hKK x3 S M mc ms k n hkn hw2 _ _ _ hW hl
      · have hw2 := hw.2.2.2.2.2.2.2.2.2.2.2.2.1 h
        subst h
        refine lv_tableIn (off := 473) (tgt := 505) hx hb dL_law_32 (by decide) (by decide) (by decide) (by decide) ?_
        exact t_law_c11 C0 hXs hbl _ hKK x3 S M mc ms k n hkn hw2 _ _ _ hW hl
      · have hw2 := hw.2.2.2.2.2.2.2.2.2.2.2.2.2.1 h
        subst h
        refine lv_tableIn (off := 496) (tgt := 528) hx hb dL_law_32 (by decide) (by decide) (by decide) (by decide) ?_
        exact t_law_c12 C0 hXs hbl _ hKK x3 S M mc ms k n hkn hw2 _ _ _ hW hl
      · have hw2 := hw.2.2.2.2.2.2.2.2.2.2.2.2.2.2.1 h
        subst h
        refine lv_tableIn (off := 509) (tgt := 541) hx hb dL_law_32 (by decide) (by decide) (by decide) (by decide) ?_
        exact t_law_c13 C0 hXs hbl _ hKK x3 S M mc ms k n hkn hw2 _ _ _ hW hl
      · have hw2 := hw.2.2.2.2.2.2.2.2.2.2.2.2.2.2.2.1 h
        subst h
        refine lv_tableIn (off := 532) (tgt := 564) hx hb dL_law_32 (by decide) (by decide) (by decide) (by decide) ?_
        exact t_law_c14 C0 hXs hbl _ hKK x3 S M mc ms k n hkn hw2 _ _ _ hW hl
      · have hw2 := hw.2.2.2.2.2.2.2.2.2.2.2.2.2.2.2.2.1 h
        subst h
        refine lv_tableIn (off := 575) (tgt := 607) hx hb dL_law_32 (by decide) (by decide) (by decide) (by decide) ?_
        exact t_law_c15 C0 hXs hbl _ hKK x3 S M mc ms k n hkn hw2 _ _ _ hW hl
      · have hw2 := hw.2.2.2.2.2.2.2.2.2.2.2.2.2.2.2.2.2.1 h
        subst h
        refine lv_tableIn (off := 628) (tgt := 660) hx hb dL_law_32 (by decide) (by decide) (by decide) (by decide) ?_
        exact t_law_c16 C0 hXs hbl _ hKK x3 S M mc ms k n hkn hw2 _ _ _ hW hl
      · have hw2 := hw.2.2.2.2.2.2.2.2.2.2.2.2.2.2.2.2.2.2.1 h
        subst h
        refine lv_tableIn (off := 661) (tgt := 693) hx hb dL_law_32 (by decide) (by decide) (by decide) (by decide) ?_
        exact t_law_c17 C0 hXs hbl _ hKK x3 S M mc ms k n hkn hw2 _ _ _ hW hl
      · have hw2 := hw.2.2.2.2.2.2.2.2.2.2.2.2.2.2.2.2.2.2.2.1 h
        subst h
        refine lv_tableIn (off := 694) (tgt := 726) hx hb dL_law_32 (by decide) (by decide) (by decide) (by decide) ?_
        exact t_law_c18 C0 hXs hbl _ hKK x3 S M mc ms k n hkn hw2 _ _ _ hW hl
      · have hw2 := hw.2.2.2.2.2.2.2.2.2.2.2.2.2.2.2.2.2.2.2.2.1 h
        subst h
        refine lv_tableIn (off := 747) (tgt := 779) hx hb dL_law_32 (by decide) (by decide) (by decide) (by decide) ?_
        exact t_law_c19 C0 hXs hbl _ hKK x3 S M mc ms k n hkn hw2 _ _ _ hW hl
      · have hw2 := hw.2.2.2.2.2.2.2.2.2.2.2.2.2.2.2.2.2.2.2.2.2.1 h
        subst h
        refine lv_tableIn (off := 790) (tgt := 822) hx hb dL_law_32 (by decide) (by decide) (by decide) (by decide) ?_
        exact t_law_c20 C0 hXs hbl _ hKK x3 S M mc ms k n hkn hw2 _ _ _ hW hl
      · have hw2 := hw.2.2.2.2.2.2.2.2.2.2.2.2.2.2.2.2.2.2.2.2.2.2.1 h
        subst h
        refine lv_tableIn (off := 813) (tgt := 845) hx hb dL_law_32 (by decide) (by decide) (by decide) (by decide) ?_
        exact t_law_c21 C0 hXs hbl _ hKK x3 S M mc ms k n hkn hw2 _ _ _ hW hl
      · have hw2 := hw.2.2.2.2.2.2.2.2.2.2.2.2.2.2.2.2.2.2.2.2.2.2.2.1 h
        subst h
        refine lv_tableIn (off := 836) (tgt := 868) hx hb dL_law_32 (by decide) (by decide) (by decide) (by decide) ?_
        exact t_law_c22 C0 hXs hbl _ hKK x3 S M mc ms k n hkn hw2 _ _ _ hW hl
      · have hw2 := hw.2.2.2.2.2.2.2.2.2.2.2.2.2.2.2.2.2.2.2.2.2.2.2.2.1 h
        subst h
        refine lv_tableIn (off := 859) (tgt := 891) hx hb dL_law_32 (by decide) (by decide) (by decide) (by decide) ?_
        exact t_law_c23 C0 hXs hbl _ hKK x3 S M mc ms k n hkn hw2 _ _ _ hW hl
      · have hw2 := hw.2.2.2.2.2.2.2.2.2.2.2.2.2.2.2.2.2.2.2.2.2.2.2.2.2.1 h
        subst h
        refine lv_tableIn (off := 902) (tgt := 934) hx hb dL_law_32 (by decide) (by decide) (by decide) (by decide) ?_
        exact t_law_c24 C0 hXs hbl _ hKK x3 S M mc ms k n hkn hw2 _ _ _ hW hl
      · have hw2 := hw.2.2.2.2.2.2.2.2.2.2.2.2.2.2.2.2.2.2.2.2.2.2.2.2.2.2.1 h
        subst h
        refine lv_tableIn (off := 945) (tgt := 977) hx hb dL_law_32 (by decide) (by decide) (by decide) (by decide) ?_
        exact t_law_c25 C0 hXs hbl _ hKK x3 S M mc ms k n hkn hw2 _ _ _ hW hl
      · have hw2 := hw.2.2.2.2.2.2.2.2.2.2.2.2.2.2.2.2.2.2.2.2.2.2.2.2.2.2.2.1 h
        subst h
        refine lv_tableIn (off := 978) (tgt := 1010) hx hb dL_law_32 (by decide) (by decide) (by decide) (by decide) ?_
        exact t_law_c26 C0 hXs hbl _ hKK x3 S M mc ms k n hkn hw2 _ _ _ hW hl
      · have hw2 := hw.2.2.2.2.2.2.2.2.2.2.2.2.2.2.2.2.2.2.2.2.2.2.2.2.2.2.2.2.1 h
        subst h
        refine lv_tableIn (off := 1001) (tgt := 1033) hx hb dL_law_32 (by decide) (by decide) (by decide) (by decide) ?_
        exact t_law_c27 C0 hXs hbl _ hKK x3 S M mc ms k n hkn hw2 _ _ _ hW hl
      · have hw2 := hw.2.2.2.2.2.2.2.2.2.2.2.2.2.2.2.2.2.2.2.2.2.2.2.2.2.2.2.2.2.1 h
        subst h
        refine lv_tableIn (off := 1034) (tgt := 1066) hx hb dL_law_32 (by decide) (by decide) (by decide) (by decide) ?_
        exact t_law_c28 C0 hXs hbl _ hKK x3 S M mc ms k n hkn hw2 _ _ _ hW hl
      · have hw2 := hw.2.2.2.2.2.2.2.2.2.2.2.2.2.2.2.2.2.2.2.2.2.2.2.2.2.2.2.2.2.2.1 h
        subst h
        refine lv_tableIn (off := 1077) (tgt := 1109) hx hb dL_law_32 (by decide) (by decide) (by decide) (by decide) ?_
        exact t_law_c29 C0 hXs hbl _ hKK x3 S M mc ms k n hkn hw2 _ _ _ hW hl
      · have hw2 := hw.2.2.2.2.2.2.2.2.2.2.2.2.2.2.2.2.2.2.2.2.2.2.2.2.2.2.2.2.2.2.2.1 h
        subst h
        refine lv_tableIn (off := 1120) (tgt := 1152) hx hb dL_law_32 (by decide) (by decide) (by decide) (by decide) ?_
        exact t_law_c30 C0 hXs hbl _ hKK x3 S M mc ms k n hkn hw2 _ _ _ hW hl
      · have hw2 := hw.2.2.2.2.2.2.2.2.2.2.2.2.2.2.2.2.2.2.2.2.2.2.2.2.2.2.2.2.2.2.2.2.1 h
        subst h
        refine lv_tableIn (off := 1173) (tgt := 1205) hx hb dL_law_32 (by decide) (by decide) (by decide) (by decide) ?_
        exact t_law_c31 C0 hXs hbl _ hKK x3 S M mc ms k n hkn hw2 _ _ _ hW hl
      · have hw2 := hw.2.2.2.2.2.2.2.2.2.2.2.2.2.2.2.2.2.2.2.2.2.2.2.2.2.2.2.2.2.2.2.2.2.1 h
        subst h
        refine lv_tableIn (off := 1196) (tgt := 1228) hx hb dL_law_32 (by decide) (by decide) (by decide) (by decide) ?_
        exact t_law_c32 C0 hXs hbl _ hKK x3 S M mc ms k n hkn hw2 _ _ _ hW hl
      · have hw2 := hw.2.2.2.2.2.2.2.2.2.2.2.2.2.2.2.2.2.2.2.2.2.2.2.2.2.2.2.2.2.2.2.2.2.2.1 h
        subst h
        refine lv_tableIn (off := 1219) (tgt := 1251) hx hb dL_law_32 (by decide) (by decide) (by decide) (by decide) ?_
        exact t_law_c33 C0 hXs hbl _ hKK x3 S M mc ms k n hkn hw2 _ _ _ hW hl
      · have hw2 := hw.2.2.2.2.2.2.2.2.2.2.2.2.2.2.2.2.2.2.2.2.2.2.2.2.2.2.2.2.2.2.2.2.2.2.2.1 h
        subst h
        refine lv_tableIn (off := 1252) (tgt := 1284) hx hb dL_law_32 (by decide) (by decide) (by decide) (by decide) ?_
        exact t_law_c34 C0 hXs hbl _ hKK x3 S M mc ms k n hkn hw2 _ _ _ hW hl
      · have hw2 := hw.2.2.2.2.2.2.2.2.2.2.2.2.2.2.2.2.2.2.2.2.2.2.2.2.2.2.2.2.2.2.2.2.2.2.2.2.1 h
        subst h
        refine lv_tableIn (off := 1295) (tgt := 1327) hx hb dL_law_32 (by decide) (by decide) (by decide) (by decide) ?_
        exact t_law_c35 C0 hXs hbl _ hKK x3 S M mc ms k n hkn hw2 _ _ _ hW hl
      · have hw2 := hw.2.2.2.2.2.2.2.2.2.2.2.2.2.2.2.2.2.2.2.2.2.2.2.2.2.2.2.2.2.2.2.2.2.2.2.2.2.1 h
        subst h
        refine lv_tableIn (off := 1328) (tgt := 1360) hx hb dL_law_32 (by decide) (by decide) (by decide) (by decide) ?_
        exact t_law_c36 C0 hXs hbl _ hKK x3 S M mc ms k n hkn hw2 _ _ _ hW hl
      · have hw2 := hw.2.2.2.2.2.2.2.2.2.2.2.2.2.2.2.2.2.2.2.2.2.2.2.2.2.2.2.2.2.2.2.2.2.2.2.2.2.2.1 h
        subst h
        refine lv_tableIn (off := 1381) (tgt := 1413) hx hb dL_law_32 (by decide) (by decide) (by decide) (by decide) ?_
        exact t_law_c37 C0 hXs hbl _ hKK x3 S M mc ms k n hkn hw2 _ _ _ hW hl
      · have hw2 := hw.2.2.2.2.2.2.2.2.2.2.2.2.2.2.2.2.2.2.2.2.2.2.2.2.2.2.2.2.2.2.2.2.2.2.2.2.2.2.2.1 h
        subst h
        refine lv_tableIn (off := 1414) (tgt := 1446) hx hb dL_law_32 (by decide) (by decide) (by decide) (by decide) ?_
        exact t_law_c38 C0 hXs hbl _ hKK x3 S M mc ms k n hkn hw2 _ _ _ hW hl
      · have hw2 := hw.2.2.2.2.2.2.2.2.2.2.2.2.2.2.2.2.2.2.2.2.2.2.2.2.2.2.2.2.2.2.2.2.2.2.2.2.2.2.2.2.1 h
        subst h
        refine lv_tableIn (off := 1447) (tgt := 1479) hx hb dL_law_32 (by decide) (by decide) (by decide) (by decide) ?_
        exact t_law_c39 C0 hXs hbl _ hKK x3 S M mc ms k n hkn hw2 _ _ _ hW hl
      · have hw2 := hw.2.2.2.2.2.2.2.2.2.2.2.2.2.2.2.2.2.2.2.2.2.2.2.2.2.2.2.2.2.2.2.2.2.2.2.2.2.2.2.2.2.1 h
        subst h
        refine lv_tableIn (off := 1480) (tgt := 1512) hx hb dL_law_32 (by decide) (by decide) (by decide) (by decide) ?_
        exact t_law_c40 C0 hXs hbl _ hKK x3 S M mc ms k n hkn hw2 _ _ _ hW hl
      · have hw2 := hw.2.2.2.2.2.2.2.2.2.2.2.2.2.2.2.2.2.2.2.2.2.2.2.2.2.2.2.2.2.2.2.2.2.2.2.2.2.2.2.2.2.2.1 h
        subst h
        refine lv_tableIn (off := 1513) (tgt := 1545) hx hb dL_law_32 (by decide) (by decide) (by decide) (by decide) ?_
        exact t_law_c41 C0 hXs hbl _ hKK x3 S M mc ms k n hkn hw2 _ _ _ hW hl
      · have hw2 := hw.2.2.2.2.2.2.2.2.2.2.2.2.2.2.2.2.2.2.2.2.2.2.2.2.2.2.2.2.2.2.2.2.2.2.2.2.2.2.2.2.2.2.2.1 h
        subst h
        refine lv_tableIn (off := 1536) (tgt := 1568) hx hb dL_law_32 (by decide) (by decide) (by decide) (by decide) ?_
        exact t_law_c42 C0 hXs hbl _ hKK x3 S M mc ms k n hkn hw2 _ _ _ hW hl
      · have hw2 := hw.2.2.2.2.2.2.2.2.2.2.2.2.2.2.2.2.2.2.2.2.2.2.2.2.2.2.2.2.2.2.2.2.2.2.2.2.2.2.2.2.2.2.2.2.1 h
        subst h
        refine lv_tableIn (off := 1579) (tgt := 1611) hx hb dL_law_32 (by decide) (by decide) (by decide) (by decide) ?_
        exact t_law_c43 C0 hXs hbl _ hKK x3 S M mc ms k n hkn hw2 _ _ _ hW hl
      · have hw2 := hw.2.2.2.2.2.2.2.2.2.2.2.2.2.2.2.2.2.2.2.2.2.2.2.2.2.2.2.2.2.2.2.2.2.2.2.2.2.2.2.2.2.2.2.2.2.1 h
        subst h
        refine lv_tableIn (off := 1602) (tgt := 1634) hx hb dL_law_32 (by decide) (by decide) (by decide) (by decide) ?_
        exact t_law_c44 C0 hXs hbl _ hKK x3 S M mc ms k n hkn hw2 _ _ _ hW hl
      · have hw2 := hw.2.2.2.2.2.2.2.2.2.2.2.2.2.2.2.2.2.2.2.2.2.2.2.2.2.2.2.2.2.2.2.2.2.2.2.2.2.2.2.2.2.2.2.2.2.2 h
        subst h
        refine lv_tableIn (off := 1625) (tgt := 1657) hx hb dL_law_32 (by decide) (by decide) (by decide) (by decide) ?_
        exact t_law_c45 C0 hXs hbl _ hKK x3 S M mc ms k n hkn hw2 _ _ _ hW hl
end LAWM
