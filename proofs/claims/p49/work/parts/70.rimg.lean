/-! alike, digest, images -/
def op_alike (x y : Int32) (s : AS) : Int32 × AS := match ixO x 4, ixO y 4 with
  | some i, some j => (if aLy s i = aLy s j then 1 else 0, s)
  | _, _ => (-1, s)
theorem ly_ext {L L' : Ly} (h : L.length = L'.length) (he : ∀ e, e < L.length → L.getD e ([], []) = L'.getD e ([], [])) : L = L' := by
  refine List.ext_getElem h (fun e h1 h2 => ?_)
  have := he e h1
  rw [List.getD_eq_getElem?_getD, List.getD_eq_getElem?_getD, List.getElem?_eq_getElem h1, List.getElem?_eq_getElem h2] at this
  exact this
theorem alike0 {post : Int32 → RM → Prop} {M : RM} {i : Nat} {y x4 : Int32} (hi : i < 13) (h : post 0 M) (n : Nat) : w_alike_40 post (n + 1) (nI i) y 0 x4 M := by
  rw [w_alike_40]
  exact ⟨vp_in_nI hi (by omega), fun _ => ⟨fun _ => h, fun z => absurd rfl z⟩, fun _ => ⟨fun _ => ⟨fun _ => h, fun z => absurd rfl z⟩, fun z => absurd rfl z⟩⟩
theorem s_alike_40 {post : Int32 → RM → Prop} {M : RM} {i j : Nat} {L L' : Ly} (hL : mLay M i L) (hL' : mLay M j L') (hi : i < 13) (hj : j < 13) (hlen : L.length = L'.length) (h1 : L = L' → post 1 M) (h0 : L ≠ L' → post 0 M) : ∀ n e, e + n = L.length → (∀ q, q < e → L.getD q ([], []) = L'.getD q ([], [])) → w_alike_40 post (n + 1) (nI i) (nI j) 1 (nI e) M := by
  have h40 := hL.1
  intro n
  induction n with
  | zero =>
    intro e he hq
    rw [w_alike_40, nI_clamp (n := i) (by omega), hL.2.1]
    refine ⟨vp_in_nI hi (by omega), fun _ => ⟨fun z => absurd z (by decide), fun _ => h1 (ly_ext hlen (fun q hq' => hq q (by omega)))⟩, fun z => absurd (nI_le (by omega) (by omega)) z⟩
  | succ n ih =>
    intro e he hq
    have hE := hL.e (e := e) (by omega)
    have hE' := hL'.e (e := e) (by omega)
    have b1 := eA_b (l := i) (e := e) hi (by omega)
    have b2 := eA_b (l := j) (e := e) hj (by omega)
    rw [w_alike_40, nI_clamp (n := i) (by omega), hL.2.1]
    refine ⟨vp_in_nI hi (by omega), fun z => absurd z (nI_ge (by omega) (by omega)), fun _ => ⟨fun z => absurd z (by decide), fun _ => q_ent (q_ent (s_compare hE.1 hE'.1 (by omega) (by omega) (fun r hr => ⟨fun z v ev => ?_, fun z => q_val (q_val (s_compare hE.2 hE'.2 (by omega) (by omega) (fun r2 hr2 => ⟨fun z2 v ev => ?_, fun z2 v ev => ?_⟩)))⟩)))⟩⟩
    · refine alike0 hi (h0 (fun q => z (toInt0.mpr ?_))) n
      rw [hr, q]; exact cmpT_self _
    · refine alike0 hi (h0 (fun q => z2 (toInt0.mpr ?_))) n
      rw [hr2, q]; exact cmpT_self _
    · rw [ev, nI_1]
      refine ih (e + 1) (by omega) (fun q hq' => ?_)
      rcases Nat.lt_or_ge q e with q1 | q1
      · exact hq q q1
      · have : q = e := by omega
        subst this
        exact Prod.ext (cmpT_zero _ _ (by rw [← hr]; exact toInt0.mp z)) (cmpT_zero _ _ (by rw [← hr2]; exact toInt0.mp z2))
theorem r_alike {post : Int32 → RM → Prop} {s : AS} {M : RM} (x y : Int32) (hR : rRep s M) (hp : ∀ M', rRep (op_alike x y s).2 M' → post (op_alike x y s).1 M') : w_alike post x y M := by
  rw [w_alike]
  refine s_isLayer x (fun e => ⟨fun _ => ?_, fun q => absurd rfl q⟩) (fun i hi hx e => ⟨fun q => absurd q (by decide), fun _ => ?_⟩)
  · simp only [op_alike, e] at hp; exact hp M hR
  subst hx
  refine s_isLayer y (fun ey => ⟨fun q => absurd rfl q, fun _ => ?_⟩) (fun j hj hy ey => ⟨fun _ => ?_, fun q => absurd q (by decide)⟩)
  · simp only [op_alike, e, ey] at hp; exact hp M hR
  subst hy
  simp only [op_alike, e, ey] at hp
  have hL := hR.2.2.1 i hi
  have hL' := hR.2.2.1 j hj
  have h40 := hL.1
  have h40' := hL'.1
  rw [nI_clamp (n := i) (by omega), nI_clamp (n := j) (by omega), hL.2.1, hL'.2.1]
  refine ⟨vp_in_nI (by omega) (by omega), vp_in_nI (by omega) (by omega), fun hq => ⟨1, ?_⟩, fun hq => ⟨(aLy s i).length + 1, ?_⟩⟩
  · have hne : aLy s i ≠ aLy s j := fun q => hq (by rw [q])
    rw [if_neg hne] at hp
    exact alike0 (by omega) (hp M hR) 0
  · have hlen := (nI_eq (by omega) (by omega)).mp hq
    refine s_alike_40 hL hL' (by omega) (by omega) hlen (fun q => ?_) (fun q => ?_) _ 0 (by omega) (fun q h => absurd h (by omega))
    · rw [if_pos q] at hp; exact hp M hR
    · rw [if_neg q] at hp; exact hp M hR
def mixT (h : Int32) : Tx → Int32
  | [] => h
  | c :: t => mixT (31 * h + nI c) t
def mixF (h : Int32) (t : Tx) (c : Int32) : Int32 := 31 * mixT h t + c
def digF (h : Int32) : Ly → Int32
  | [] => h
  | p :: L => digF (mixF (mixF h p.1 256) p.2 257) L
def op_digest (x : Int32) (s : AS) : Int32 × AS := match ixO x 4 with
  | none => (0, s)
  | some l => (digF 7 (aLy s l), s)
theorem s_mixed {post : Int32 → RM → Prop} {M : RM} {a : Nat} {t : Tx} {c : Int32} (hT : mT M a t) (ha : a + 301 ≤ 321140) (h : Int32) (hp : post (mixF h t c) M) : w_mixed post h (nI a) c M := by
  have hl := hT.1.1
  rw [w_mixed]
  refine ⟨t.length + 1, ?_⟩
  have key : ∀ n j g, j + n = t.length → mixF g (t.drop j) c = mixF h t c → w_mixed_6 post (n + 1) (nI a) c g (nI (j + 1)) M := by
    intro n
    induction n with
    | zero =>
      intro j g hj hg
      rw [w_mixed_6, nI_clamp (n := a) (by omega), hT.2.1]
      refine ⟨vp_in_nI (by omega) (by omega), fun _ => ?_, fun z => absurd (nI_lt (by omega) (by omega)) z⟩
      rw [← hg, drop_nil (by omega)] at hp
      exact hp
    | succ n ih =>
      intro j g hj hg
      have e1 : nI a + nI (j + 1) = nI (a + 1 + j) := by rw [nI_add]; congr 1; omega
      rw [w_mixed_6, nI_clamp (n := a) (by omega), hT.2.1, e1, nI_clamp (n := a + 1 + j) (by omega), hT.2.2 j (by omega)]
      refine ⟨vp_in_nI (by omega) (by omega), fun z => absurd z (nI_nlt (by omega) (by omega)), fun _ => ⟨vp_in_nI (by omega) (by omega), fun v5 e5 v6 e6 => ?_⟩⟩
      rw [e6, nI_1]
      refine ih (j + 1) v5 (by omega) ?_
      rw [drop_cons (by omega)] at hg
      rw [e5, ← hg]; rfl
  exact key t.length 0 h (by omega) rfl
theorem r_digest {post : Int32 → RM → Prop} {s : AS} {M : RM} (x : Int32) (hR : rRep s M) (hp : ∀ M', rRep (op_digest x s).2 M' → post (op_digest x s).1 M') : w_digest post x M := by
  rw [w_digest]
  refine s_isLayer x (fun e => ⟨fun q => absurd rfl q, fun _ => ?_⟩) (fun l hl hx e => ⟨fun _ => ?_, fun q => absurd q (by decide)⟩)
  · simp only [op_digest, e] at hp; exact hp M hR
  subst hx
  simp only [op_digest, e] at hp
  have hL := hR.2.2.1 l hl
  have h40 := hL.1
  refine ⟨(aLy s l).length + 1, ?_⟩
  have key : ∀ n j g, j + n = (aLy s l).length → digF g ((aLy s l).drop j) = digF 7 (aLy s l) → w_digest_14 post (n + 1) (nI l) g (nI j) M := by
    intro n
    induction n with
    | zero =>
      intro j g hj hg
      rw [w_digest_14, nI_clamp (n := l) (by omega), hL.2.1]
      refine ⟨vp_in_nI (by omega) (by omega), fun _ => ?_, fun z => absurd (nI_le (by omega) (by omega)) z⟩
      rw [List.drop_eq_nil_of_le (by omega)] at hg
      have := hp M hR
      rw [← hg] at this; exact this
    | succ n ih =>
      intro j g hj hg
      have hE := hL.e (e := j) (by omega)
      have be := eA_b (l := l) (e := j) (by omega) (by omega)
      rw [w_digest_14, nI_clamp (n := l) (by omega), hL.2.1]
      refine ⟨vp_in_nI (by omega) (by omega), fun z => absurd z (nI_ge (by omega) (by omega)), fun _ => q_ent (s_mixed hE.1 (by omega) g (q_val (s_mixed hE.2 (by omega) _ (fun v ev => ?_))))⟩
      rw [ev, nI_1]
      refine ih (j + 1) _ (by omega) ?_
      rw [dropL (by omega)] at hg
      exact hg
  exact key _ 0 7 (by omega) rfl
def sumL (f : Nat → Ly) : Int32 := nI ((f 0).length + (f 1).length + (f 2).length + (f 3).length)
def op_keep (x : Int32) (s : AS) : Int32 × AS := match ixO x 2 with
  | none => (-1, s)
  | some i => (sumL (aLy s), sIm s i (some (aLy s)))
def resL (f g : Nat → Ly) (n : Nat) : Nat → Ly := fun j => if j < n then f j else g j
def op_restore (x : Int32) (s : AS) : Int32 × AS := match ixO x 2 with
  | none => (-1, s)
  | some i => match aIm s i with
    | none => (-4, s)
    | some f => (sumL f, sLys s (resL f (aLy s) 4))
theorem s_all {post : Int32 → RM → Prop} {M : RM} {f : Nat → Ly} (hL : ∀ j, j < 4 → mLay M j (f j)) (h : post (sumL f) M) : w_all post M := by
  rw [w_all]
  have e0 : M 2 (0 : Int32).toNatClampNeg = nI (f 0).length := (hL 0 (by omega)).2.1
  have e1 : M 2 (1 : Int32).toNatClampNeg = nI (f 1).length := (hL 1 (by omega)).2.1
  have e2 : M 2 (2 : Int32).toNatClampNeg = nI (f 2).length := (hL 2 (by omega)).2.1
  have e3 : M 2 (3 : Int32).toNatClampNeg = nI (f 3).length := (hL 3 (by omega)).2.1
  rw [e0, e1, e2, e3, nI_add, nI_add, nI_add]
  exact ⟨vp_in_nI (n := 0) (by omega) (by omega), vp_in_nI (n := 1) (by omega) (by omega), vp_in_nI (n := 2) (by omega) (by omega), vp_in_nI (n := 3) (by omega) (by omega), h⟩
theorem s_isImage {x : Int32} {A B : Prop} (h0 : ixO x 2 = none → A) (h1 : ∀ i, i < 2 → x = nI i → ixO x 2 = some i → B) : (x < 0 → A) ∧ (¬ x < 0 → ((x ≤ 1 → B) ∧ (¬ x ≤ 1 → A))) := by
  rcases ixO_cases x (n := 2) (by omega) with ⟨e, h⟩ | ⟨i, hi, rfl, e⟩
  · refine ⟨fun _ => h0 e, fun z => ⟨fun z1 => ?_, fun _ => h0 e⟩⟩
    rcases h with h | h
    · exact absurd h z
    · have a := Int32.le_iff_toInt_le.mp h
      have b := Int32.le_iff_toInt_le.mp z1
      have c : (nI 2).toInt = 2 := by decide
      have d : (1 : Int32).toInt = 1 := by decide
      omega
  · exact ⟨fun z => absurd z (nI_pos (by omega)), fun _ => ⟨fun _ => h1 i hi rfl e, fun z => absurd (nI_le (b := 1) (by omega) (by decide)) z⟩⟩
theorem e_im (i j : Nat) : (4 : Int32) * (nI i + 1) + nI j = nI (4 * (i + 1) + j) := by
  rw [nI_1, show (4 : Int32) = nI 4 from rfl, pk_mul, nI_add]
def mI (M M' : RM) (i : Nat) : Prop := ∀ k z, (k = 2 → z < 4 * (i + 1) ∨ 4 * (i + 1) + 4 ≤ z) → (k = 1 → z < 8100 + 24080 * (4 * (i + 1)) ∨ 8100 + 24080 * (4 * (i + 1) + 4) ≤ z) → (k = 3 → z ≠ i) → M' k z = M k z
theorem lay8 {x y : Nat} (h : x < y) : 8100 + 24080 * x + 24080 ≤ 8100 + 24080 * y := by
  have := Nat.mul_le_mul_left 24080 (Nat.succ_le_of_lt h)
  omega
theorem lay96 {x y : Nat} (h : x + 4 ≤ y) : 8100 + 24080 * x + 96320 ≤ 8100 + 24080 * y := by
  have := Nat.mul_le_mul_left 24080 h
  omega
theorem mC.toI {M M' : RM} {i j : Nat} (h : mC M M' (4 * (i + 1) + j)) (hj : j < 4) : mI M M' i := by
  intro k z h2 h1 h3
  refine h k z (fun q => ?_) (fun q => ?_)
  · have := h2 q; omega
  · rcases h1 q with a | a
    · refine Or.inl (Nat.lt_of_lt_of_le a ?_)
      exact Nat.add_le_add_left (Nat.mul_le_mul_left _ (Nat.le_add_right _ _)) _
    · exact Or.inr (Nat.le_trans (lay8 (by omega)) a)
theorem mI.tr {M M1 M2 : RM} {i : Nat} (h : mI M M1 i) (h2 : mI M1 M2 i) : mI M M2 i := fun k z a b c => (h2 k z a b c).trans (h k z a b c)
theorem rRep.img {s : AS} {M M' : RM} {i : Nat} {v : Option (Nat → Ly)} (h : rRep s M) (hi : i < 2) (hF : mI M M' i) (hv : mImg M' i v) : rRep (sIm s i v) M' := by
  obtain ⟨h1, h2, h3, h4, h5, h6, h7, h8⟩ := h
  have n8 : 8100 + 24080 * 4 ≤ 8100 + 24080 * (4 * (i + 1)) := Nat.add_le_add_left (Nat.mul_le_mul_left _ (by omega)) _
  have n1 : ∀ j, j < 8100 + 24080 * 4 → M' 1 j = M 1 j := fun j q => hF 1 j (fun z => absurd z (by decide)) (fun _ => Or.inl (Nat.lt_of_lt_of_le q n8)) (fun z => absurd z (by decide))
  have nk : ∀ k j, k ≠ 1 → k ≠ 2 → k ≠ 3 → M' k j = M k j := fun k j q1 q2 q3 => hF k j (fun z => absurd z q2) (fun z => absurd z q1) (fun z => absurd z q3)
  have n2 : ∀ j, (j < 4 * (i + 1) ∨ 4 * (i + 1) + 4 ≤ j) → M' 2 j = M 2 j := fun j q => hF 2 j (fun _ => q) (fun z => absurd z (by decide)) (fun z => absurd z (by decide))
  refine ⟨fun j hj => (h1 j hj).congr fun z q1 q2 => n1 z (by omega), h2.congr (nk 0 0 (by omega) (by omega) (by omega)) fun j => nk 4 j (by omega) (by omega) (by omega), fun j hj => (h3 j hj).congr (n2 j (by omega)) fun z q1 q2 => n1 z (by omega), fun j hj => ?_, fun j hj => (h5 j hj).congr (fun k q => nk k j (by omega) (by omega) (by omega)) (fun z q1 q2 => n1 z (by omega)) fun z q1 q2 => n1 z (by omega), fun j hj => (h6 j hj).congr (fun k q => nk k j (by omega) (by omega) (by omega)) fun z q1 q2 => n1 z (by omega), by rw [nk 0 2 (by omega) (by omega) (by omega)]; exact h7, by rw [nk 0 3 (by omega) (by omega) (by omega)]; exact h8⟩
  show mImg M' j (va_up (aIm s) i v j)
  by_cases hji : j = i
  · subst hji; rw [va_up_self]; exact hv
  · rw [va_up_ne _ _ hji]
    refine (h4 j hj).congr (hF 3 j (fun z => absurd z (by decide)) (fun z => absurd z (by decide)) (fun _ => hji)) (fun l hl => n2 _ (by omega)) ?_
    intro z q1 q2
    refine hF 1 z (fun z => absurd z (by decide)) (fun _ => ?_) (fun z => absurd z (by decide))
    rcases Nat.lt_or_ge j i with q | q
    · exact Or.inl (Nat.lt_of_lt_of_le q2 (lay96 (by omega)))
    · refine Or.inr (Nat.le_trans ?_ q1)
      exact Nat.add_le_add_left (Nat.mul_le_mul_left _ (by omega)) _
theorem r_keep {post : Int32 → RM → Prop} {s : AS} {M : RM} (x : Int32) (hR : rRep s M) (hp : ∀ M', rRep (op_keep x s).2 M' → post (op_keep x s).1 M') : w_keep post x M := by
  rw [w_keep]
  refine s_isImage (fun e => ?_) (fun i hi hx e => ?_)
  · simp only [op_keep, e] at hp; exact hp M hR
  subst hx
  simp only [op_keep, e] at hp
  refine ⟨5, ?_⟩
  have key : ∀ n j M1, j + n = 4 → mI M M1 i → (∀ q, q < j → mLay M1 (4 * (i + 1) + q) (aLy s q)) → w_keep_13 post (n + 1) (nI i) (nI j) M1 := by
    intro n
    induction n with
    | zero =>
      intro j M1 hj hF hq
      rw [w_keep_13, nI_clamp (n := i) (by omega), nar1]
      refine ⟨fun _ => ⟨vp_in_nI hi (by omega), fun M6 e6 => ?_⟩, fun z => absurd (nI_le (a := 4) (by omega) (by omega)) z⟩
      have k2 : ∀ k, k ≠ 3 → M6 k = M1 k := fun k q => by rw [e6, upR_k _ _ _ q]
      have hF6 : mI M M6 i := by
        intro k z a b c
        by_cases hk : k = 3
        · subst hk
          rw [e6, upR_self]
          exact (if_neg (c rfl)).trans (hF 3 z a b c)
        · rw [k2 k hk]; exact hF k z a b c
      have hIm : mImg M6 i (some (aLy s)) := ⟨by rw [e6, upR_at], fun l hl => (hq l (by omega)).congr (by rw [k2 2 (by decide)]) (fun z _ _ => by rw [k2 1 (by decide)])⟩
      have hR6 := hR.img hi hF6 hIm
      exact s_all (f := aLy s) hR6.2.2.1 (hp M6 hR6)
    | succ n ih =>
      intro j M1 hj hF hq
      rw [w_keep_13, e_im]
      refine ⟨fun z => absurd z (nI_ge (b := 4) (by omega) (by decide)), fun _ => ?_⟩
      have n8 : 8100 + 24080 * 4 ≤ 8100 + 24080 * (4 * (i + 1)) := Nat.add_le_add_left (Nat.mul_le_mul_left _ (by omega)) _
      have hLj : mLay M1 j (aLy s j) := (hR.2.2.1 j (by omega)).congr (hF 2 j (fun _ => by omega) (fun z => absurd z (by decide)) (fun z => absurd z (by decide))) (fun z _ q2 => hF 1 z (fun z => absurd z (by decide)) (fun _ => Or.inl (Nat.lt_of_lt_of_le (show z < 8100 + 24080 * 4 by omega) n8)) (fun z => absurd z (by decide)))
      refine s_copyLayer hLj (by omega) (by omega) (by omega) (fun M9 h9 c9 v ev => ?_)
      rw [ev, nI_1]
      refine ih (j + 1) M9 (by omega) (hF.tr (c9.toI (by omega))) (fun q hq' => ?_)
      by_cases hqj : q = j
      · subst hqj; exact h9
      · exact (hq q (by omega)).other c9 (by omega)
  exact key 4 0 M (by omega) (fun _ _ _ _ _ => rfl) (fun q h => absurd h (by omega))
theorem r_restore {post : Int32 → RM → Prop} {s : AS} {M : RM} (x : Int32) (hR : rRep s M) (hp : ∀ M', rRep (op_restore x s).2 M' → post (op_restore x s).1 M') : w_restore post x M := by
  rw [w_restore]
  refine s_isImage (fun e => ?_) (fun i hi hx e => ?_)
  · simp only [op_restore, e] at hp; exact hp M hR
  subst hx
  simp only [op_restore, e] at hp
  have hI := hR.2.2.2.1 i hi
  rw [nI_clamp (n := i) (by omega)]
  refine ⟨vp_in_nI hi (by omega), fun z => ?_, fun z => ?_⟩
  · cases hv : aIm s i with
    | none => rw [hv] at hI; exact absurd hI z
    | some f =>
      simp only [hv] at hp
      refine ⟨5, ?_⟩
      have key : ∀ n j M1, j + n = 4 → rRep (sLys s (resL f (aLy s) j)) M1 → w_restore_25 post (n + 1) (nI i) (nI j) M1 := by
        intro n
        induction n with
        | zero =>
          intro j M1 hj hR1
          have : j = 4 := by omega
          subst this
          rw [w_restore_25]
          refine ⟨fun _ => s_all (f := f) (fun q hq => ?_) (hp M1 hR1), fun z => absurd (nI_le (a := 4) (Nat.le_refl _) (by omega)) z⟩
          have := hR1.2.2.1 q hq
          have e9 : resL f (aLy s) 4 q = f q := if_pos hq
          exact e9 ▸ this
        | succ n ih =>
          intro j M1 hj hR1
          rw [w_restore_25, e_im]
          refine ⟨fun z => absurd z (nI_ge (b := 4) (by omega) (by decide)), fun _ => ?_⟩
          have hIm : mImg M1 i (aIm s i) := hR1.2.2.2.1 i hi
          rw [hv] at hIm
          refine s_copyLayer (hIm.2 j (by omega)) (by omega) (by omega) (by omega) (fun M9 h9 c9 v ev => ?_)
          rw [ev, nI_1]
          refine ih (j + 1) M9 (by omega) ?_
          have h := hR1.layer (l := j) (by omega) c9 h9
          have e9 : va_up (resL f (aLy s) j) j (f j) = resL f (aLy s) (j + 1) := by
            funext q
            by_cases hq : q = j
            · subst hq; rw [va_up_self]; exact (if_pos (by omega)).symm
            · rw [va_up_ne _ _ hq]
              show (if q < j then f q else aLy s q) = if q < j + 1 then f q else aLy s q
              by_cases hq2 : q < j
              · rw [if_pos hq2, if_pos (by omega)]
              · rw [if_neg hq2, if_neg (by omega)]
          have h' : rRep (sLys s (va_up (resL f (aLy s) j) j (f j))) M9 := h
          rw [e9] at h'; exact h'
      exact key 4 0 M (by omega) hR
  · cases hv : aIm s i with
    | none => simp only [hv] at hp; exact hp M hR
    | some f =>
      rw [hv] at hI
      have h1 : M 3 i = 1 := hI.1
      rw [h1] at z
      exact absurd z (by decide)
