theorem slotT {s : AS} {M : RM} {k : Nat} {t : Tx} (hR : rRep s M) (hk : k < 6) (h : aSl s k = some t) : mT M (301 * k) t := by
  have := hR.1 k hk; rw [h] at this; exact this
theorem r_joinWithin {post : Int32 → RM → Prop} {s : AS} {M : RM} (x y z w : Int32) (hR : rRep s M) (hp : ∀ M', rRep (op_joinWithin x y z w s).2 M' → post (op_joinWithin x y z w s).1 M') : w_joinWithin post x y z w M := by
  rw [w_joinWithin]
  refine s_isJoiner x (fun e => ⟨fun _ => ?_, fun z => absurd rfl z⟩) (fun i hi hx e => ⟨fun z => absurd z (by decide), fun _ => ?_⟩)
  · simp only [op_joinWithin, e] at hp; exact hp M hR
  subst hx
  refine s_isSlot y (fun ey => ⟨fun _ => ?_, fun q => absurd rfl q⟩) (fun j hj hy ey => ⟨fun q => absurd q (by decide), fun _ => ?_⟩)
  · simp only [op_joinWithin, e, ey] at hp; exact hp M hR
  subst hy
  refine s_isSlot z (fun ez => ⟨fun _ => ?_, fun q => absurd rfl q⟩) (fun k hk hz ez => ⟨fun q => absurd q (by decide), fun _ => ?_⟩)
  · simp only [op_joinWithin, e, ey, ez] at hp; exact hp M hR
  subst hz
  refine s_isSlot w (fun ew => ⟨fun q => absurd rfl q, fun _ => ?_⟩) (fun l hl hw ew => ⟨fun _ => ?_, fun q => absurd q (by decide)⟩)
  · simp only [op_joinWithin, e, ey, ez, ew] at hp; exact hp M hR
  subst hw
  simp only [op_joinWithin, e, ey, ez, ew] at hp
  have hnull : (∀ M', rRep (sNp s) M' → post (-7) M') → w_joinWithin_56 post M := fun h => by rw [w_joinWithin_56]; exact s_refusedNull hR h
  refine s_key hR hj (fun d hd hD => ⟨fun z => absurd rfl z, fun _ => ?_⟩) (fun hd => ⟨fun _ => hnull (fun M' h' => ?_), fun z => absurd z (by decide)⟩)
  · refine s_key hR hk (fun pr hpr hP => ⟨fun z => absurd rfl z, fun _ => ?_⟩) (fun hpr => ⟨fun _ => hnull (fun M' h' => ?_), fun z => absurd z (by decide)⟩)
    · refine s_key hR hl (fun su hsu hS => ⟨fun _ => s_at ⟨vp_in_nI (by omega) (by omega), s_at ⟨vp_in_nI (by omega) (by omega), ?_⟩⟩, fun z => absurd rfl z⟩) (fun hsu => ⟨fun z => absurd z (by decide), fun _ => hnull (fun M' h' => ?_)⟩)
      · simp only [hd, hpr, hsu] at hp
        have l1 := hP.1.1
        have l2 := hS.1.1
        rw [nI_clamp (n := 301 * k) (by omega), nI_clamp (n := 301 * l) (by omega), hP.2.1, hS.2.1, nI_add]
        refine ⟨fun q => s_begin hi (fun M8 b1 b2 b3 b4 b5 => s_at (q_pt 0 rfl ?_)), fun q => ?_⟩
        · have hle := (nI_leI (b := 300) (by omega) (by decide)).mp q
          rw [if_pos hle] at hp
          have b6 : ∀ {a : Nat} {t : Tx}, a + 301 ≤ 2408 → mT M a t → mT M8 a t := fun ha h => h.congr fun j _ _ => b5 1 j (by unfold joO; omega)
          refine s_copyText (o := some d) (b6 (by omega) hD) (by omega) (by omega) (by omega) (fun M11 h11 f11 => s_at (q_pt 301 rfl ?_))
          refine s_copyText (o := some pr) ((b6 (by omega) hP).frame f11 (by omega)) (by omega) (by omega) (by omega) (fun M12 h12 f12 => s_at (q_pt 602 rfl ?_))
          refine s_copyText (o := some su) (((b6 (by omega) hS).frame f11 (by omega)).frame f12 (by omega)) (by omega) (by omega) (by omega) (fun M13 h13 f13 => ?_)
          have g : mF M8 M13 (2408 + 1505 * i) (2408 + 1505 * i + 903) := mF.tr (mF.tr (f11.wide (by omega) (by omega)) (f12.wide (by omega) (by omega))) (f13.wide (by omega) (by omega))
          have h11' : mT M11 (2408 + 1505 * i) d := h11
          have h12' : mT M12 (2408 + 1505 * i + 301) pr := h12
          have hJ : mJoi M13 i (some (d, pr, su, none, none)) := ⟨by rw [g.k (by decide)]; exact b1, (h11'.frame f12 (by omega)).frame f13 (by omega), h12'.frame f13 (by omega), h13, mO.frame b4 g (by omega), by rw [g.k (by decide)]; exact b2, b3.frame g (by omega), by simpa using hle⟩
          exact s_resultSize hJ hi (hp M13 (hR.joi hi (fun k j q => by rw [g k j (joO_f q (by omega) (by omega))]; exact b5 k j q) hJ))
        · have hle : ¬ pr.length + su.length ≤ 300 := fun h => q (nI_le (b := 300) h (by decide))
          rw [if_neg hle] at hp
          exact hp M hR
      · simp only [hd, hpr, hsu, nullS] at hp; exact hp M' h'
    · simp only [hd, hpr, nullS] at hp; exact hp M' h'
  · simp only [hd, nullS] at hp; exact hp M' h'
theorem s_add105 {post : Int32 → RM → Prop} {M0 M : RM} {i a : Nat} {d pr su t e0 : Tx} {el em : Option Tx} (hF : mF M0 M (2408 + 1505 * i + 1204) (2408 + 1505 * i + 1505)) (hJ : mJoi M0 i (some (d, pr, su, el, em))) (hi : i < 3) (hE : mT M (2408 + 1505 * i + 1204) e0) (hT : mT M a t) (ha : a + 301 ≤ 2408 + 1505 * i ∨ 2408 + 1505 * i + 1505 ≤ a) (hb : a + 301 ≤ 321140) (hl : pr.length + (e0 ++ t).length + su.length ≤ 300)
    (hp : ∀ M', mJoi M' i (some (d, pr, su, some (e0 ++ t), em)) → (∀ k j, ¬ joO i k j → M' k j = M0 k j) → post (nI (jnLen (d, pr, su, some (e0 ++ t), em))) M') : w_addElement_105 post (nI i) (nI a) M := by
  obtain ⟨c1, c2, c3, c4, c5, c6, c7, c8⟩ := hJ
  have hlen : e0.length + t.length ≤ 300 := by
    rw [List.length_append] at hl; omega
  rw [w_addElement_105]
  refine q_pt 1204 rfl (s_addText hT hE hlen hb (by omega) (by omega) (fun M20 h20 f20 => ⟨vp_in_nI hi (by omega), fun M22 e22 => ?_⟩))
  rw [nI_clamp (n := i) (by omega), nar1] at e22
  have g : mF M0 M20 (2408 + 1505 * i + 1204) (2408 + 1505 * i + 1505) := hF.tr f20
  have k1 : M22 1 = M20 1 := by rw [e22, upR_k _ _ _ (by decide)]
  have cc : ∀ {a : Nat} {t : Tx}, a + 301 ≤ 2408 + 1505 * i + 1204 → mT M0 a t → mT M22 a t := fun ha h => (h.frame g (by omega)).congr fun j _ _ => by rw [k1]
  have hJ2 : mJoi M22 i (some (d, pr, su, some (e0 ++ t), em)) := ⟨by rw [e22, upR_k _ _ _ (by decide), g.k (by decide)]; exact c1, cc (by omega) c2, cc (by omega) c3, cc (by omega) c4, (mO.frame c5 g (by omega)).congr fun j _ _ => by rw [k1], by rw [e22, upR_at]; rfl, h20.congr fun j _ _ => by rw [k1], hl⟩
  refine s_resultSize hJ2 hi (hp M22 hJ2 (fun k j q => ?_))
  rw [e22, upR_jo q (by omega)]
  exact g k j (joO_f q (by omega) (by omega))
theorem s_addElement {post : Int32 → RM → Prop} {s : AS} {M : RM} {i a : Nat} {t : Tx} {v : Jn} (hR : rRep s M) (hi : i < 3) (hv : aJn s i = some v) (hT : mT M a t) (ha : a + 301 ≤ 2408 + 1505 * i ∨ 2408 + 1505 * i + 1505 ≤ a) (hb : a + 301 ≤ 321140)
    (hp : ∀ M', rRep (op_el i t v s).2 M' → post (op_el i t v s).1 M') : w_addElement post (nI i) (nI a) M := by
  obtain ⟨d, pr, su, el, em⟩ := v
  have hJ := hR.2.2.2.2.2.1 i hi
  rw [hv] at hJ
  obtain ⟨c1, c2, c3, c4, c5, c6, c7, c8⟩ := id hJ
  have l2 := c2.1.1
  have l3 := c3.1.1
  have l4 := c4.1.1
  have l7 := c7.1.1
  have lt := hT.1.1
  simp only [op_el] at hp
  -- what the two roads share
  have key : ∀ (s0 : Int32) (n0 : Nat), s0 = nI n0 → n0 + t.length = (elF d t el).length → w_addElement_36 post (nI i) (nI a) s0 M := by
    intro s0 n0 h0 hn
    rw [w_addElement_36, nI_clamp (n := a) (by omega), hT.2.1, h0, nI_add]
    refine ⟨vp_in_nI (by omega) (by omega), fun v8 e8 => q_pt 301 rfl ⟨vp_in_nI (by omega) (by omega), q_pt 602 rfl ⟨vp_in_nI (by omega) (by omega), ?_⟩⟩⟩
    have hn2 : n0 ≤ 600 := by
      cases el with
      | none => have h : n0 + t.length = t.length := hn; omega
      | some e =>
        have h : n0 + t.length = (e ++ d ++ t).length := hn
        have l7' : e.length ≤ 300 := l7
        simp only [List.length_append] at h; omega
    rw [nI_clamp (n := 2408 + 1505 * i + 301) (by omega), nI_clamp (n := 2408 + 1505 * i + 602) (by omega), c3.2.1, c4.2.1, e8, hn, nI_add, nI_add, nI_clamp (n := i) (by omega), c6]
    refine ⟨fun q => ⟨vp_in_nI hi (by omega), fun z => ?_, fun z => ?_⟩, fun q => ?_⟩
    · have hle := (nI_leI (b := 300) (by omega) (by decide)).mp q
      rw [if_pos hle] at hp
      cases el with
      | some e => exact absurd (show (1 : Int32) = 0 from z) (by decide)
      | none => exact s_add105 (e0 := []) (t := t) mF.rf hJ hi c7 hT ha hb hle (fun M' h' f' => hp M' (hR.joi hi f' h'))
    · have hle := (nI_leI (b := 300) (by omega) (by decide)).mp q
      rw [if_pos hle] at hp
      cases el with
      | none => exact absurd rfl z
      | some e =>
        have c7' : mT M (2408 + 1505 * i + 1204) e := c7
        have hle' : pr.length + (e ++ d ++ t).length + su.length ≤ 300 := hle
        have hlen : e.length + d.length ≤ 300 := by
          simp only [List.length_append] at hle'; omega
        refine q_pt 0 rfl (q_pt 1204 rfl (s_addText c2 c7' hlen (by omega) (by omega) (by omega) (fun M18 h18 f18 => ?_)))
        exact s_add105 (e0 := e ++ d) (t := t) f18 hJ hi h18 (hT.frame f18 (by omega)) ha hb hle (fun M' h' f' => hp M' (hR.joi hi f' h'))
    · have hle : ¬ pr.length + (elF d t el).length + su.length ≤ 300 := fun h => q (nI_le (b := 300) h (by decide))
      rw [if_neg hle] at hp
      exact hp M hR
  rw [w_addElement, nI_clamp (n := i) (by omega), c6]
  refine ⟨vp_in_nI hi (by omega), fun z => ?_, fun z => ?_⟩
  · cases el with
    | some e => exact absurd (show (1 : Int32) = 0 from z) (by decide)
    | none => exact key 0 0 rfl (by show 0 + t.length = t.length; omega)
  · cases el with
    | none => exact absurd rfl z
    | some e =>
      have c7' : mT M (2408 + 1505 * i + 1204) e := c7
      refine q_pt 1204 rfl ⟨vp_in_nI (by omega) (by omega), q_pt 0 rfl ⟨vp_in_nI (by omega) (by omega), ?_⟩⟩
      rw [nI_clamp (n := 2408 + 1505 * i + 1204) (by omega), nI_clamp (n := 2408 + 1505 * i + 0) (by omega), c7'.2.1, Nat.add_zero, c2.2.1, nI_add]
      exact key _ (e.length + d.length) rfl (by show e.length + d.length + t.length = (e ++ d ++ t).length; rw [List.length_append, List.length_append])
theorem r_add {post : Int32 → RM → Prop} {s : AS} {M : RM} (x y : Int32) (hR : rRep s M) (hp : ∀ M', rRep (op_add x y s).2 M' → post (op_add x y s).1 M') : w_add post x y M := by
  rw [w_add]
  refine s_isJoiner x (fun e => ⟨fun _ => ?_, fun z => absurd rfl z⟩) (fun i hi hx e => ⟨fun z => absurd z (by decide), fun _ => ?_⟩)
  · simp only [op_add, e] at hp; exact hp M hR
  subst hx
  refine s_isSlot y (fun ey => ⟨fun z => absurd rfl z, fun _ => ?_⟩) (fun k hk hy ey => ⟨fun _ => ?_, fun z => absurd z (by decide)⟩)
  · simp only [op_add, e, ey] at hp; exact hp M hR
  subst hy
  simp only [op_add, e, ey] at hp
  have hK := hR.2.2.2.2.2.1 i hi
  rw [nI_clamp (n := i) (by omega)]
  refine ⟨vp_in_nI hi (by omega), fun z => ⟨vp_in_nI (n := 1806) (by omega) (by omega), fun M8 e8 => ?_⟩, fun z => ?_⟩
  · cases hv : aJn s i with
    | none => rw [hv] at hK; exact absurd (hK.made.mpr rfl) z
    | some v =>
      simp only [hv] at hp
      have e8' : M8 = upR M 1 1806 0 := e8
      have g8 : mF M M8 1806 2107 := by rw [e8']; exact mF.up _ mF.rf (by omega) (by omega)
      have h8 : mT M8 1806 [] := mO.nil (by rw [e8', upR_at])
      refine s_addSign (a := 1806) (c := 110) h8 (by omega) (by decide) (by omega) (fun M9 h9 f9 => ?_)
      refine s_addSign (a := 1806) (c := 117) h9 (by omega) (by decide) (by omega) (fun M10 h10 f10 => ?_)
      refine s_addSign (a := 1806) (c := 108) h10 (by omega) (by decide) (by omega) (fun M11 h11 f11 => ?_)
      refine s_addSign (a := 1806) (c := 108) h11 (by omega) (by decide) (by omega) (fun M12 h12 f12 => ?_)
      have gg : mF M M12 1806 2107 := ((((g8.tr f9).tr f10).tr f11).tr f12)
      have hR12 : rRep s M12 := hR.still (mA.of gg (fun z a b => scrKV z (by omega) (by omega)))
      refine s_key hR12 hk (fun t ht hT => ⟨fun _ => s_at ?_, fun z => absurd rfl z⟩) (fun ht => ⟨fun z => absurd z (by decide), fun _ => ?_⟩)
      · rw [w_add_93]
        simp only [ht, Option.getD_some] at hp
        exact s_addElement hR12 hi hv hT (by omega) (by omega) hp
      · rw [w_add_93]
        simp only [ht, Option.getD_none] at hp
        exact s_addElement (a := 1806) (t := tNull) hR12 hi hv h12 (by omega) (by omega) hp
  · have hn := hK.made.mp z
    simp only [hn] at hp; exact hp M hR
theorem r_ifEmpty {post : Int32 → RM → Prop} {s : AS} {M : RM} (x y : Int32) (hR : rRep s M) (hp : ∀ M', rRep (op_ifEmpty x y s).2 M' → post (op_ifEmpty x y s).1 M') : w_ifEmpty post x y M := by
  rw [w_ifEmpty]
  refine s_isJoiner x (fun e => ⟨fun _ => ?_, fun z => absurd rfl z⟩) (fun i hi hx e => ⟨fun z => absurd z (by decide), fun _ => ?_⟩)
  · simp only [op_ifEmpty, e] at hp; exact hp M hR
  subst hx
  refine s_isSlot y (fun ey => ⟨fun z => absurd rfl z, fun _ => ?_⟩) (fun k hk hy ey => ⟨fun _ => ?_, fun z => absurd z (by decide)⟩)
  · simp only [op_ifEmpty, e, ey] at hp; exact hp M hR
  subst hy
  simp only [op_ifEmpty, e, ey] at hp
  have hK := hR.2.2.2.2.2.1 i hi
  rw [nI_clamp (n := i) (by omega)]
  refine ⟨vp_in_nI hi (by omega), fun z => ?_, fun z => ?_⟩
  · cases hv : aJn s i with
    | none => rw [hv] at hK; exact absurd (hK.made.mpr rfl) z
    | some v =>
      obtain ⟨d, pr, su, el, em⟩ := v
      simp only [hv] at hp
      rw [hv] at hK
      obtain ⟨c1, c2, c3, c4, c5, c6, c7, c8⟩ := hK
      refine s_key hR hk (fun t ht hT => ⟨fun _ => s_at (q_pt 903 rfl ?_), fun z => absurd rfl z⟩) (fun ht => ⟨fun z => absurd z (by decide), fun _ => s_refusedNull hR (fun M' h' => ?_)⟩)
      · simp only [ht] at hp
        refine s_copyText (o := some t) hT (by omega) (by omega) (by omega) (fun M12 h12 f12 => ?_)
        have hJ : mJoi M12 i (some (d, pr, su, el, some t)) := ⟨by rw [f12.k (by decide)]; exact c1, c2.frame f12 (by omega), c3.frame f12 (by omega), c4.frame f12 (by omega), h12, by rw [f12.k (by decide)]; exact c6, c7.frame f12 (by omega), c8⟩
        exact s_resultSize hJ hi (hp M12 (hR.joi hi (fun k j q => f12 k j (joO_f q (by omega) (by omega))) hJ))
      · simp only [ht, nullS] at hp; exact hp M' h'
  · have hn := hK.made.mp z
    simp only [hn] at hp; exact hp M hR
theorem r_merge {post : Int32 → RM → Prop} {s : AS} {M : RM} (x y : Int32) (hR : rRep s M) (hp : ∀ M', rRep (op_merge x y s).2 M' → post (op_merge x y s).1 M') : w_merge post x y M := by
  rw [w_merge]
  refine s_isJoiner x (fun e => ⟨fun _ => ?_, fun z => absurd rfl z⟩) (fun i hi hx e => ⟨fun z => absurd z (by decide), fun _ => ?_⟩)
  · simp only [op_merge, e] at hp; exact hp M hR
  subst hx
  refine s_isJoiner y (fun ey => ⟨fun _ => ?_, fun z => absurd rfl z⟩) (fun j hj hy ey => ⟨fun z => absurd z (by decide), fun _ => ?_⟩)
  · simp only [op_merge, e, ey] at hp; exact hp M hR
  subst hy
  simp only [op_merge, e, ey] at hp
  have hK := hR.2.2.2.2.2.1 i hi
  have hN := hR.2.2.2.2.2.1 j hj
  rw [nI_clamp (n := i) (by omega), nI_clamp (n := j) (by omega)]
  refine ⟨fun hne => ?_, fun he => ?_⟩
  · have hij : ¬ i = j := fun q => hne (by rw [q])
    rw [if_neg hij] at hp
    refine ⟨vp_in_nI hi (by omega), fun z => ?_, fun z => ⟨vp_in_nI hj (by omega), fun z2 => ⟨vp_in_nI hj (by omega), ?_⟩, fun z2 => ?_⟩⟩
    · have hn := hK.made.mp z
      simp only [hn] at hp; exact hp M hR
    · cases hv : aJn s i with
      | none => rw [hv] at hK; exact absurd (hK.made.mpr rfl) z
      | some v =>
        cases hw : aJn s j with
        | none => rw [hw] at hN; exact absurd (hN.made.mpr rfl) z2
        | some v2 =>
          obtain ⟨d2, pr2, su2, el2, em2⟩ := v2
          rw [hw] at hN
          rw [hv] at hK
          obtain ⟨c1, c2, c3, c4, c5, c6, c7, c8⟩ := hN
          rw [c6]
          cases el2 with
          | none =>
            simp only [hv, hw] at hp
            exact ⟨fun _ => s_resultSize hK hi (hp M hR), fun q => absurd rfl q⟩
          | some e2 =>
            simp only [hv, hw] at hp
            refine ⟨fun q => absurd (show (1 : Int32) = 0 from q) (by decide), fun _ => q_pt 1204 rfl ?_⟩
            exact s_addElement hR hi hv c7 (by omega) (by omega) hp
    · cases hv : aJn s i with
      | none => rw [hv] at hK; exact absurd (hK.made.mpr rfl) z
      | some v =>
        have hn := hN.made.mp z2
        simp only [hv, hn] at hp; exact hp M hR
  · have hij : i = j := (nI_eq (by omega) (by omega)).mp he
    rw [if_pos hij] at hp
    exact hp M hR
theorem s_layResult {post : RM → Prop} {M : RM} {i a : Nat} {v : Jn} (hJ : mJoi M i (some v)) (hi : i < 3) (ha : a + 301 ≤ 2408) (hp : ∀ M', mT M' a (resF v) → mF M M' a (a + 301) → post M') : w_layResult post (nI i) (nI a) M := by
  obtain ⟨d, pr, su, el, em⟩ := v
  obtain ⟨c1, c2, c3, c4, c5, c6, c7, c8⟩ := hJ
  have key : (∀ M', mT M' a (pr ++ el.getD [] ++ su) → mF M M' a (a + 301) → post M') → w_layResult_39 post (nI i) (nI a) M := by
    intro hp
    rw [w_layResult_39]
    refine q_pt 301 rfl (s_copyText (o := some pr) c3 (by omega) (by omega) (by omega) (fun M9 h9 f9 => q_pt 1204 rfl ?_))
    refine s_addText (c7.frame f9 (by omega)) h9 (by omega) (by omega) (by omega) (by omega) (fun M11 h11 f11 => q_pt 602 rfl ?_)
    refine s_addText ((c4.frame f9 (by omega)).frame f11 (by omega)) h11 (by rw [List.length_append]; omega) (by omega) (by omega) (by omega) (fun M13 h13 f13 => hp M13 h13 ((f9.tr f11).tr f13))
  rw [w_layResult, nI_clamp (n := i) (by omega), c6]
  refine ⟨vp_in_nI hi (by omega), fun z => ?_, fun z => q_pt 903 rfl ⟨vp_in_nI (by omega) (by omega), ?_⟩⟩
  · cases el with
    | none => exact absurd rfl z
    | some e => exact key hp
  · rw [nI_clamp (n := 2408 + 1505 * i + 903) (by omega)]
    cases el with
    | some e => exact absurd (show (1 : Int32) = 0 from z) (by decide)
    | none =>
      cases em with
      | none =>
        have q : M 1 (2408 + 1505 * i + 903) = -5 := c5
        rw [q]
        refine ⟨fun _ => key (fun M' h' f' => hp M' ?_ f'), fun z => absurd (by decide) z⟩
        have e : pr ++ (none : Option Tx).getD [] ++ su = pr ++ su := by simp
        rw [e] at h'; exact h'
      | some t =>
        have q : mT M (2408 + 1505 * i + 903) t := c5
        have lq := q.1.1
        rw [q.2.1]
        refine ⟨fun z => absurd z (nI_pos (by omega)), fun _ => q_pt 903 rfl (s_copyText (o := some t) q (by omega) (by omega) (by omega) (fun M7 h7 f7 => hp M7 h7 f7))⟩
theorem r_joined {post : Int32 → RM → Prop} {s : AS} {M : RM} (x y : Int32) (hR : rRep s M) (hp : ∀ M', rRep (op_joined x y s).2 M' → post (op_joined x y s).1 M') : w_joined post x y M := by
  rw [w_joined]
  refine s_isJoiner x (fun e => ⟨fun _ => ?_, fun z => absurd rfl z⟩) (fun i hi hx e => ⟨fun z => absurd z (by decide), fun _ => ?_⟩)
  · simp only [op_joined, e] at hp; exact hp M hR
  subst hx
  refine s_isSlot y (fun ey => ⟨fun z => absurd rfl z, fun _ => ?_⟩) (fun k hk hy ey => ⟨fun _ => ?_, fun z => absurd z (by decide)⟩)
  · simp only [op_joined, e, ey] at hp; exact hp M hR
  subst hy
  simp only [op_joined, e, ey] at hp
  have hK := hR.2.2.2.2.2.1 i hi
  rw [nI_clamp (n := i) (by omega)]
  refine ⟨vp_in_nI hi (by omega), fun z => ?_, fun z => ?_⟩
  · cases hv : aJn s i with
    | none => rw [hv] at hK; exact absurd (hK.made.mpr rfl) z
    | some v =>
      simp only [hv] at hp
      rw [hv] at hK
      refine s_at (s_layResult hK hi (by omega) (fun M8 h8 f8 => s_at ⟨vp_in_nI (by omega) (by omega), ?_⟩))
      rw [nI_clamp (n := 301 * k) (by omega), h8.2.1, resF_len]
      exact hp M8 (hR.slot hk f8 h8)
  · have hn := hK.made.mp z
    simp only [hn] at hp; exact hp M hR
theorem r_joinedLength {post : Int32 → RM → Prop} {s : AS} {M : RM} (x : Int32) (hR : rRep s M) (hp : ∀ M', rRep (op_joinedLength x s).2 M' → post (op_joinedLength x s).1 M') : w_joinedLength post x M := by
  rw [w_joinedLength]
  refine s_isJoiner x (fun e => ⟨fun z => absurd rfl z, fun _ => ?_⟩) (fun i hi hx e => ⟨fun _ => ?_, fun z => absurd z (by decide)⟩)
  · simp only [op_joinedLength, e] at hp; exact hp M hR
  subst hx
  simp only [op_joinedLength, e] at hp
  have hK := hR.2.2.2.2.2.1 i hi
  rw [nI_clamp (n := i) (by omega)]
  refine ⟨vp_in_nI hi (by omega), fun z => ?_, fun z => ?_⟩
  · have hn := hK.made.mp z
    simp only [hn] at hp; exact hp M hR
  · cases hv : aJn s i with
    | none => rw [hv] at hK; exact absurd (hK.made.mpr rfl) z
    | some v =>
      simp only [hv] at hp
      rw [hv] at hK
      exact s_resultSize hK hi (hp M hR)
theorem r_setJoined {post : Int32 → RM → Prop} {s : AS} {M : RM} (x y z : Int32) (hR : rRep s M) (hp : ∀ M', rRep (op_setJoined x y z s).2 M' → post (op_setJoined x y z s).1 M') : w_setJoined post x y z M := by
  rw [w_setJoined]
  refine s_isLayer x (fun e => ⟨fun _ => ?_, fun q => absurd rfl q⟩) (fun l hl hx e => ⟨fun q => absurd q (by decide), fun _ => ?_⟩)
  · simp only [op_setJoined, e] at hp; exact hp M hR
  subst hx
  refine s_isSlot y (fun ey => ⟨fun _ => ?_, fun q => absurd rfl q⟩) (fun k hk hy ey => ⟨fun q => absurd q (by decide), fun _ => ?_⟩)
  · simp only [op_setJoined, e, ey] at hp; exact hp M hR
  subst hy
  refine s_isJoiner z (fun ez => ⟨fun q => absurd rfl q, fun _ => ?_⟩) (fun i hi hz ez => ⟨fun _ => ?_, fun q => absurd q (by decide)⟩)
  · simp only [op_setJoined, e, ey, ez] at hp; exact hp M hR
  subst hz
  simp only [op_setJoined, e, ey, ez] at hp
  have hK := hR.2.2.2.2.2.1 i hi
  rw [nI_clamp (n := i) (by omega)]
  refine ⟨vp_in_nI hi (by omega), fun z => ?_, fun z => ?_⟩
  · cases hv : aJn s i with
    | none => rw [hv] at hK; exact absurd (hK.made.mpr rfl) z
    | some v =>
      simp only [hv] at hp
      rw [hv] at hK
      refine s_key hR hk (fun t ht hT => ⟨fun _ => ?_, fun z => absurd rfl z⟩) (fun ht => ⟨fun z => absurd z (by decide), fun _ => s_refusedNull hR (fun M' h' => ?_)⟩)
      · simp only [ht] at hp
        refine s_layResult (a := 2107) hK hi (by omega) (fun M12 h12 f12 => s_at ?_)
        have hR12 : rRep s M12 := hR.still (mA.of f12 (fun z a b => scrKV z (by omega) (by omega)))
        have hL := hR12.2.2.1 l hl
        refine s_put (va := 2107) hL (by omega) (hT.frame f12 (by omega)) h12 (by omega) (by omega) (by omega) (by omega) (fun q => ⟨fun _ => ?_, fun z => absurd rfl z⟩) (fun q M' h' c' => ⟨fun z => absurd z (by decide), fun _ => ⟨vp_in_nI (by omega) (by omega), ?_⟩⟩)
        · have q' : findF (aLy s l) t = none ∧ 40 ≤ (aLy s l).length := q
          rw [if_pos q'] at hp; exact hp M12 hR12
        · have q' : ¬ (findF (aLy s l) t = none ∧ 40 ≤ (aLy s l).length) := q
          rw [if_neg q'] at hp
          rw [nI_clamp (n := l) (by omega), h'.2.1]
          exact hp M' (hR12.layer hl c' h')
      · simp only [ht, nullS] at hp; exact hp M' h'
  · have hn := hK.made.mp z
    simp only [hn] at hp; exact hp M hR
