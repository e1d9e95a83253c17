/-- the reference's buffer holds an entry: places on the tape, and the signs there -/
def mEn (M : RM) (T : Tx) (pl : List Nat) : Prop := M 0 7 = nI pl.length ∧ (∀ x ∈ pl, x < T.length) ∧ ∀ i, i < pl.length → M 11 i = nI (ch T (pl.getD i 0)) ∧ M 12 i = nI (pl.getD i 0)
def mX (M M' : RM) : Prop := ∀ k i, (k = 0 → i ≠ 7) → k ≠ 11 → k ≠ 12 → M' k i = M k i
theorem mX.rf {M : RM} : mX M M := fun _ _ _ _ _ => rfl
theorem mX.tr {M M1 M2 : RM} (h : mX M M1) (h2 : mX M1 M2) : mX M M2 := fun k i a b c => (h2 k i a b c).trans (h k i a b c)
theorem mX.toZ {M M' : RM} (h : mX M M') : mZ M M' := fun k i a b c _ => h k i (fun q => by have := a q; omega) b c
theorem upR_11 (M : RM) (i j : Nat) (x : Int32) : upR M 11 i x 11 j = if j = i then x else M 11 j := rfl
theorem upR_12 (M : RM) (i j : Nat) (x : Int32) : upR M 12 i x 12 j = if j = i then x else M 12 j := rfl
theorem mEn.l {M M' : RM} {T : Tx} {pl : List Nat} (h : mEn M T pl) (hF : mL M M') : mEn M' T pl :=
  ⟨by rw [hF 0 7 (by omega)]; exact h.1, h.2.1, fun i hi => ⟨by rw [hF 11 i (by omega)]; exact (h.2.2 i hi).1, by rw [hF 12 i (by omega)]; exact (h.2.2 i hi).2⟩⟩
theorem mEn.snoc {M : RM} {T : Tx} {pl : List Nat} {x : Nat} (h : mEn M T pl) (hx : x < T.length) : mEn (upR (upR (upR M 11 pl.length (nI (ch T x))) 12 pl.length (nI x)) 0 7 (nI (pl.length + 1))) T (pl ++ [x]) := by
  obtain ⟨h1, h2, h3⟩ := h
  refine ⟨by rw [upR_at]; simp, fun y hy => ?_, fun i hi => ?_⟩
  · rcases List.mem_append.mp hy with q | q
    · exact h2 y q
    · rw [List.mem_singleton.mp q]; exact hx
  · have hi' : i < pl.length + 1 := by simpa using hi
    have a1 : (upR (upR (upR M 11 pl.length (nI (ch T x))) 12 pl.length (nI x)) 0 7 (nI (pl.length + 1))) 11 i = if i = pl.length then nI (ch T x) else M 11 i := rfl
    have a2 : (upR (upR (upR M 11 pl.length (nI (ch T x))) 12 pl.length (nI x)) 0 7 (nI (pl.length + 1))) 12 i = if i = pl.length then nI x else M 12 i := rfl
    rw [a1, a2, getD_app1]
    by_cases q : i = pl.length
    · have q2 : ¬ i < pl.length := by omega
      rw [if_pos q, if_pos q, if_neg q2, if_pos q]
      exact ⟨rfl, rfl⟩
    · have q2 : i < pl.length := by omega
      simp only [if_neg q, if_pos q2]
      exact h3 i q2
theorem s_addLine_57 {post : Int32 → RM → Prop} {M : RM} {T : Tx} {pl : List Nat} {f e L : Nat} {b : Nat} (hT : mTp M T) (h5 : M 0 5 = nI e) (hLe : L ≤ e) (he : e ≤ T.length) (hpl : pl.length ≤ f) (hb : (b = 0 ∧ L = e) ∨ (b = 1 ∧ L + 1 = e))
    (hp : ∀ M', mX M M' → mEn M' T (pl ++ rg f (L - f)) → post (nI b) M') : ∀ n x M1, L < x + n → f ≤ x → x ≤ L → mX M M1 → mEn M1 T (pl ++ rg f (x - f)) → w_addLine_57 post n (nI b) (nI x) M1 := by
  have h300 := hT.1
  intro n
  induction n with
  | zero => intro x M1 h1 h2 h3; omega
  | succ n ih =>
    intro x M1 h1 h2 h3 hF hE
    have hT1 := hT.z hF.toZ
    have h5' : M1 0 5 = nI e := by rw [hF 0 5 (by omega) (by omega) (by omega)]; exact h5
    have hlen : (pl ++ rg f (x - f)).length = pl.length + (x - f) := by rw [List.length_append, rg_len]
    have k75 : ∀ s0 : Int32, s0 = nI L → w_addLine_75 post (w_addLine_57 post n) (nI b) (nI x) s0 (nI x) M1 := by
      intro s0 h0
      rw [w_addLine_75, h0]
      refine ⟨fun z => ⟨?_, ?_⟩, fun z => ?_⟩
      · rcases hb with q | q
        · rw [q.1]; decide
        · rw [q.1]; decide
      · have := (nI_leI (by omega) (by omega)).mp z
        have hxL : x = L := by omega
        subst hxL
        exact hp M1 hF hE
      · have hlt : x < L := by
          rcases Nat.lt_or_ge x L with c | c
          · exact c
          · exact absurd (nI_le c (by omega)) z
        rw [hE.1, hlen, nI_clamp (n := x) (by omega), nI_clamp (n := pl.length + (x - f)) (by omega), hT1.2.2.2 x (by omega)]
        refine ⟨vp_in_nI (by omega) (by omega), vp_in_nI (by omega) (by omega), fun M15 e15 => ?_⟩
        have g15 : M15 0 7 = nI (pl.length + (x - f)) := by rw [e15, upR_k _ _ _ (by decide), hE.1, hlen]
        rw [g15, nI_clamp (n := pl.length + (x - f)) (by omega)]
        refine ⟨vp_in_nI (by omega) (by omega), fun M17 e17 M18 e18 v ev => ?_⟩
        have g17 : M17 0 7 = nI (pl.length + (x - f)) := by rw [e17, upR_k _ _ _ (by decide)]; exact g15
        rw [g17, nI_1] at e18
        rw [ev, nI_1]
        have e9 : pl ++ rg f (x + 1 - f) = pl ++ rg f (x - f) ++ [x] := by
          rw [show x + 1 - f = (x - f) + 1 by omega, rg, show f + (x - f) = x by omega, List.append_assoc]
        have hs := hE.snoc (x := x) (by omega)
        rw [hlen, ← e15, ← e17, ← e18] at hs
        refine ih (x + 1) M18 (by omega) (by omega) (by omega) (hF.tr (fun k i a c d => ?_)) (by rw [e9]; exact hs)
        rw [e18]
        by_cases q : k = 0
        · subst q
          rw [upR_0, if_neg (a rfl), e17, upR_k _ _ _ (by decide), e15, upR_k _ _ _ (by decide)]
        · rw [upR_k _ _ _ q, e17, upR_k _ _ _ d, e15, upR_k _ _ _ c]
    rw [w_addLine_57, h5']
    refine ⟨fun z => k75 _ ?_, fun z => k75 _ ?_⟩
    · rcases hb with q | q
      · rw [q.2]
      · rw [q.1] at z; exact absurd z (by decide)
    · rcases hb with q | q
      · rw [q.1] at z; exact absurd rfl z
      · rw [show nI e - 1 = nI (e - 1) from pk_sub (b := 1) (by omega)]; congr 1; omega
theorem s_addLine {post : Int32 → RM → Prop} {M : RM} {T : Tx} {pl : List Nat} {f e : Nat} (hT : mTp M T) (h4 : M 0 4 = nI f) (h5 : M 0 5 = nI e) (hfe : f ≤ e) (he : e ≤ T.length) (hE : mEn M T pl) (hpl : pl.length ≤ f)
    (hp : ∀ M', mX M M' → mEn M' T (pl ++ lineP T f e) → post (if (slR T f e % 2 == 1) = true then 1 else 0) M') : w_addLine post M := by
  have h300 := hT.1
  have hsl := slR_le (T := T) (f := f) e
  have hlb := lastL_b (T := T) hfe
  have e0 : pl ++ rg f (f - f) = pl := by rw [Nat.sub_self]; exact List.append_nil pl
  have k39 : w_addLine_39 post (nI (slR T f e)) M := by
    have e2 : nI (slR T f e) - nI (slR T f e) / 2 * 2 = nI (slR T f e % 2) := pk_rem (d := 2) (by omega) (by omega) (by decide)
    rw [w_addLine_39, e2, h4]
    refine ⟨fun z v ev => ⟨e + 1, ?_⟩, fun z v ev => ⟨e + 1, ?_⟩⟩
    · have hev : slR T f e % 2 = 0 := by
        rcases Nat.mod_two_eq_zero_or_one (slR T f e) with q | q
        · exact q
        · exact absurd (by rw [q]; rfl) z
      have hL : lastL T f e = e := by unfold lastL; rw [if_neg (by omega)]
      rw [ev]
      refine s_addLine_57 (b := 0) (L := e) hT h5 (Nat.le_refl _) he hpl (Or.inl ⟨rfl, rfl⟩) (fun M' hF h' => ?_) (e + 1) f M (by omega) (Nat.le_refl _) hfe mX.rf (by rw [e0]; exact hE)
      have := hp M' hF (by unfold lineP; rw [hL]; exact h')
      rw [hev] at this; exact this
    · have hod : slR T f e % 2 = 1 := (nI_eq (b := 1) (by omega) (by decide)).mp z
      have hL : lastL T f e = e - 1 := by unfold lastL; rw [if_pos hod]
      rw [ev]
      refine s_addLine_57 (b := 1) (L := e - 1) hT h5 (by omega) he hpl (Or.inr ⟨rfl, by omega⟩) (fun M' hF h' => ?_) (e + 1) f M (by omega) (Nat.le_refl _) (by omega) mX.rf (by rw [e0]; exact hE)
      have := hp M' hF (by unfold lineP; rw [hL]; exact h')
      rw [hod] at this; exact this
  rw [w_addLine]
  refine ⟨e + 2, ?_⟩
  have key : ∀ n x, e < x + n + f → x ≤ e - f → x + slR T f (e - x) = slR T f e → w_addLine_2 post (n + 1) (nI x) M := by
    intro n
    induction n with
    | zero =>
      intro x h1 h2 h3
      omega
    | succ n ih =>
      intro x h1 h2 h3
      rw [w_addLine_2, h4, h5, pk_sub (a := e) (b := x) (by omega)]
      refine ⟨fun z => ?_, fun z => ?_⟩
      · have hle := (nI_leI (by omega) (by omega)).mp z
        have := slR_le (T := T) (f := f) (e - x)
        have hx : x = slR T f e := by omega
        rw [hx]; exact k39
      · have hlt : f < e - x := by
          rcases Nat.lt_or_ge f (e - x) with c | c
          · exact c
          · exact absurd (nI_le c (by omega)) z
        rw [show nI (e - x) - 1 = nI (e - x - 1) from pk_sub (b := 1) (by omega), nI_clamp (n := e - x - 1) (by omega), hT.2.2.2 _ (by omega)]
        have hst : slR T f (e - x) = if ch T (e - x - 1) = 92 then slR T f (e - x - 1) + 1 else 0 := by
          have e9 : e - x = (e - x - 1) + 1 := by omega
          rw [e9, slR, if_neg (by omega)]
          rfl
        have hc := ch_lt hT.2.1 (e - x - 1)
        refine ⟨vp_in_nI (by omega) (by omega), fun z1 => ?_, fun z1 v ev => ?_⟩
        · rw [if_neg (fun q => z1 (by rw [q]; rfl))] at hst
          have hx : x = slR T f e := by omega
          rw [hx]; exact k39
        · have d1 := (nI_eq (b := 92) (by omega) (by decide)).mp z1
          rw [if_pos d1] at hst
          rw [ev, nI_1]
          refine ih (x + 1) (by omega) (by omega) ?_
          rw [show e - (x + 1) = e - x - 1 by omega]; omega
  exact key (e + 1) 0 (by omega) (by omega) (by rw [Nat.sub_zero]; omega)
theorem s_layEntry_72 {post : Int32 → RM → Prop} {M0 : RM} {T : Tx} (hT0 : mTp M0 T) : ∀ n (b : Bool) p pl M1 (x3 : Int32), (x3 = if b then 1 else 0) → T.length + 1 < p + n → p ≤ T.length + 1 → mZ M0 M1 → M1 0 6 = nx T p → mEn M1 T pl → pl.length ≤ p → (∀ M', mZ M0 M' → mEn M' T (contF T n b p pl).1 → post (nx T (contF T n b p pl).2) M') → w_layEntry_72 post n x3 M1 := by
  have h300 := hT0.1
  intro n
  induction n with
  | zero => intro b p pl M1 x3 hx h1 h2; omega
  | succ n ih =>
    intro b p pl M1 x3 hx h1 h2 hF h6 hE hpl hp
    have hT := hT0.z hF
    rw [w_layEntry_72, h6]
    cases b with
    | false =>
      have hx' : x3 = 0 := hx
      refine ⟨fun _ => ?_, fun z => absurd hx' z⟩
      have e9 : contF T (n + 1) false p pl = (pl, p) := by rw [contF, if_pos (Or.inl rfl)]
      rw [e9] at hp
      exact hp M1 hF hE
    | true =>
      have hx' : x3 = 1 := hx
      refine ⟨fun z => absurd (hx'.symm.trans z) (by decide), fun _ => ⟨fun z => ?_, fun z => ?_⟩⟩
      · have hgt : T.length < p := by
          rcases Nat.lt_or_ge T.length p with q | q
          · exact q
          · unfold nx at z
            rw [if_neg (by omega)] at z
            exact absurd z (by
              intro q2
              have : nI p < 0 := by rw [q2]; decide
              exact nI_pos (by omega) this)
        have e9 : contF T (n + 1) true p pl = (pl, p) := by rw [contF, if_pos (Or.inr hgt)]
        rw [e9] at hp
        exact hp M1 hF hE
      · have hle : p ≤ T.length := by
          rcases Nat.lt_or_ge T.length p with q | q
          · unfold nx at z; rw [if_pos q] at z; exact absurd rfl z
          · exact q
        have e9 : contF T (n + 1) true p pl = contF T n (slR T (firstL T p (endL T p)) (endL T p) % 2 == 1) (nextL T (endL T p)) (pl ++ lineP T (firstL T p (endL T p)) (endL T p)) := by
          rw [contF, if_neg (by rintro (q | q); exact absurd q (by decide); omega)]
        rw [e9] at hp
        have b1 : p ≤ endL T p ∧ endL T p ≤ T.length := scan_b hle
        have b2 : p ≤ firstL T p (endL T p) ∧ firstL T p (endL T p) ≤ endL T p := scan_b b1.1
        have b3 := nextL_b b1.2
        have b4 := lastL_b (T := T) b2.2
        have hnx : nx T p = nI p := by unfold nx; rw [if_neg (by omega)]
        rw [hnx]
        refine s_layLine hT hle (fun M17 f17 g4 g5 g6 => ?_)
        refine s_addLine (hT.z f17.toZ) g4 g5 b2.2 b1.2 (hE.l f17) (by omega) (fun M18 f18 h18 => ?_)
        refine ih _ _ _ M18 _ rfl (by omega) b3.2 (hF.tr (f17.toZ.tr f18.toZ)) (by rw [f18 0 6 (by omega) (by omega) (by omega)]; exact g6) h18 ?_ hp
        rw [List.length_append]
        unfold lineP; rw [rg_len]; omega
theorem s_layEntry {post : Int32 → RM → Prop} {M : RM} {T : Tx} {p : Nat} (hT : mTp M T) (hpl : p ≤ T.length) (hp : ∀ M', mZ M M' → mEn M' T (entF T p).1 → post (nx T (entF T p).2) M') : w_layEntry post (nI p) M := by
  have h300 := hT.1
  have b1 : p ≤ endL T p ∧ endL T p ≤ T.length := scan_b hpl
  have b2 : p ≤ firstL T p (endL T p) ∧ firstL T p (endL T p) ≤ endL T p := scan_b b1.1
  have b3 := nextL_b b1.2
  have b4 := lastL_b (T := T) b2.2
  rw [w_layEntry]
  intro M1 e1
  have z1 : mZ M M1 := by rw [e1]; exact mZ.rf.up0 (by omega)
  have hE1 : mEn M1 T [] := ⟨by rw [e1, upR_at]; rfl, fun x hx => absurd hx (by simp), fun i hi => absurd hi (by simp)⟩
  refine s_layLine (hT.z z1) hpl (fun M2 f2 g4 g5 g6 => ?_)
  have z2 : mZ M M2 := z1.tr f2.toZ
  have hT2 := hT.z z2
  have hE2 := hE1.l f2
  have c1 := ch_lt hT2.2.1 (firstL T p (endL T p))
  have k49 : (firstL T p (endL T p) = endL T p ∨ ch T (firstL T p (endL T p)) = 35 ∨ ch T (firstL T p (endL T p)) = 33) → w_layEntry_49 post M2 := by
    intro h
    have e9 : entF T p = ([], nextL T (endL T p)) := by unfold entF; rw [if_pos h]
    rw [e9] at hp
    rw [w_layEntry_49, w_layEntry_54]
    refine ⟨fun _ => ⟨1, ?_⟩, fun z => absurd z (by decide)⟩
    rw [w_layEntry_72, g6]
    exact ⟨fun _ => hp M2 z2 hE2, fun z => absurd rfl z⟩
  rw [g4, g5]
  refine ⟨fun z => k49 (Or.inl ((nI_eq (by omega) (by omega)).mp z)), fun z => ?_⟩
  have hne : firstL T p (endL T p) ≠ endL T p := fun q => z (by rw [q])
  rw [nI_clamp (n := firstL T p (endL T p)) (by omega), hT2.2.2.2 _ (by omega)]
  refine ⟨vp_in_nI (by omega) (by omega), fun z1 => k49 (Or.inr (Or.inl ((nI_eq (b := 35) (by omega) (by decide)).mp z1))), fun z1 => ⟨vp_in_nI (by omega) (by omega), fun z3 => ?_, fun z3 => k49 (Or.inr (Or.inr ((nI_eq (b := 33) (by omega) (by decide)).mp z3)))⟩⟩
  have e9 : entF T p = contF T (T.length + 2) (slR T (firstL T p (endL T p)) (endL T p) % 2 == 1) (nextL T (endL T p)) (lineP T (firstL T p (endL T p)) (endL T p)) := by
    unfold entF
    rw [if_neg]
    rintro (q | q | q)
    · exact hne q
    · exact z1 (by rw [q]; rfl)
    · exact z3 (by rw [q]; rfl)
  rw [e9] at hp
  rw [w_layEntry_54]
  refine ⟨fun q => absurd rfl q, fun _ => ?_⟩
  refine s_addLine hT2 g4 g5 b2.2 b1.2 hE2 (by simp) (fun M10 f10 h10 => ?_)
  have go : ∀ x3 : Int32, (x3 = if (slR T (firstL T p (endL T p)) (endL T p) % 2 == 1) = true then 1 else 0) → ∃ n, w_layEntry_72 post n x3 M10 := by
    intro x3 hx
    refine ⟨T.length + 2, s_layEntry_72 hT _ _ _ _ M10 x3 hx (by omega) b3.2 (z2.tr f10.toZ) (by rw [f10 0 6 (by omega) (by omega) (by omega)]; exact g6) h10 ?_ hp⟩
    show (lineP T _ _).length ≤ _
    unfold lineP; rw [rg_len]; omega
  cases hb : (slR T (firstL T p (endL T p)) (endL T p) % 2 == 1) with
  | false => exact ⟨fun _ => go 0 (by rw [hb]; rfl), fun z => absurd rfl z⟩
  | true => exact ⟨fun z => absurd z (by decide), fun _ => go 1 (by rw [hb]; rfl)⟩
