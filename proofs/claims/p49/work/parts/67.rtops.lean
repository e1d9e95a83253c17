def op_mk (i : Nat) (t d : Tx) (r : Bool) (s : AS) : Int32 × AS := (nI (cntA t d r 0), sTk s i (some (t, d, r, 0)))
def blanks5 : Tx := [32, 9, 10, 13, 12]
def op_tokenize (x y : Int32) (s : AS) : Int32 × AS := match ixO x 2, ixO y 6 with
  | some i, some j => match aSl s j with
    | none => nullS s
    | some t => op_mk i t blanks5 false s
  | _, _ => (-1, s)
def op_told (x y z : Int32) (r : Bool) (s : AS) : Int32 × AS := match ixO x 2, ixO y 6, ixO z 6 with
  | some i, some j, some k => match aSl s k with
    | none => (-2, s)
    | some d => match aSl s j with
      | none => nullS s
      | some t => op_mk i t d r s
  | _, _, _ => (-1, s)
def op_tokenizeValue (x y w z : Int32) (s : AS) : Int32 × AS := match ixO x 2, ixO y 4, ixO w 6, ixO z 6 with
  | some i, some l, some j, some k => match aSl s k with
    | none => (-2, s)
    | some d => match aSl s j with
      | none => nullS s
      | some t => match lookF (aLy s) t l with
        | none => (-5, s)
        | some v => op_mk i v d false s
  | _, _, _, _ => (-1, s)
def op_more (x : Int32) (s : AS) : Int32 × AS := match ixO x 2 with
  | none => (-1, s)
  | some i => match aTk s i with
    | none => (-4, s)
    | some (t, d, r, p) => (if begF t d r p < t.length then 1 else 0, s)
def op_count (x : Int32) (s : AS) : Int32 × AS := match ixO x 2 with
  | none => (-1, s)
  | some i => match aTk s i with
    | none => (-4, s)
    | some (t, d, r, p) => (nI (cntA t d r p), s)
def op_take (i j : Nat) (t d : Tx) (r : Bool) (p : Nat) (s : AS) : Int32 × AS :=
  if begF t d r p < t.length then (nI (endF t d (begF t d r p) - begF t d r p), sTk (sSl s j (some ((t.drop (begF t d r p)).take (endF t d (begF t d r p) - begF t d r p)))) i (some (t, d, r, endF t d (begF t d r p)))) else (-8, sNe (sTk s i none))
def op_next (x y : Int32) (s : AS) : Int32 × AS := match ixO x 2, ixO y 6 with
  | some i, some j => match aTk s i with
    | none => (-4, s)
    | some (t, d, r, p) => op_take i j t d r p s
  | _, _ => (-1, s)
def op_nextBy (x y z : Int32) (s : AS) : Int32 × AS := match ixO x 2, ixO y 6, ixO z 6 with
  | some i, some k, some j => match aTk s i with
    | none => (-4, s)
    | some (t, d, r, p) => match aSl s k with
      | none => (-2, s)
      | some d' => op_take i j t d' r p s
  | _, _, _ => (-1, s)
theorem nar1 : vp_nar .boolean 1 = 1 := by decide
theorem nar0 : vp_nar .boolean 0 = 0 := by decide
theorem tkO_t {i k j : Nat} (h : ¬ tkO i k j) : k ≠ 1 ∨ j < 6930 + 301 * i ∨ 6930 + 301 * i + 301 ≤ j := by
  by_cases q : k = 1
  · refine Or.inr ?_
    rcases Nat.lt_or_ge j (6930 + 301 * i) with a | a
    · exact Or.inl a
    · rcases Nat.lt_or_ge j (6930 + 301 * i + 301) with b | b
      · exact absurd (Or.inr ⟨q, Or.inl ⟨a, b⟩⟩) h
      · exact Or.inr b
  · exact Or.inl q
theorem tkO_d {i k j : Nat} (h : ¬ tkO i k j) : k ≠ 1 ∨ j < 7540 + 256 * i ∨ 7540 + 256 * i + 256 ≤ j := by
  by_cases q : k = 1
  · refine Or.inr ?_
    rcases Nat.lt_or_ge j (7540 + 256 * i) with a | a
    · exact Or.inl a
    · rcases Nat.lt_or_ge j (7540 + 256 * i + 256) with b | b
      · exact absurd (Or.inr ⟨q, Or.inr ⟨a, b⟩⟩) h
      · exact Or.inr b
  · exact Or.inl q
theorem upR_tk {M : RM} {i k j kk : Nat} {x : Int32} (h : ¬ tkO i k j) (hk : kk = 6 ∨ kk = 7 ∨ kk = 8) : upR M kk i x k j = M k j := by
  by_cases q : k = kk
  · subst q
    rw [upR_self]
    exact if_neg (fun z => h (Or.inl ⟨hk, z⟩))
  · rw [upR_k M i x q]
theorem s_make {post : Int32 → RM → Prop} {M : RM} {a i : Nat} {t d : Tx} {r : Bool} {a3 : Int32} (hT : mT M a t) (hd : mDel M i d) (ha : a + 301 ≤ 321140) (hi : i < 2) (hdis : a + 301 ≤ 6930 ∨ 8100 ≤ a) (h3 : a3 = if r then 1 else 0)
    (hp : ∀ M', mTok M' i (some (t, d, r, 0)) → (∀ k j, ¬ tkO i k j → M' k j = M k j) → post (nI (cntA t d r 0)) M') : w_make post (nI i) (nI a) a3 M := by
  rw [w_make]
  refine q_tt (s_copyText (o := some t) (src := a) (dst := 6930 + 301 * i) hT (by omega) (by omega) (by omega) (fun M2 h2 f2 => ?_))
  have h2' : mT M2 (6930 + 301 * i) t := h2
  rw [nI_clamp (n := i) (by omega), nar1]
  refine ⟨vp_in_nI hi (by omega), fun M4 e4 => ⟨vp_in_nI hi (by omega), fun M6 e6 => ⟨vp_in_nI hi (by omega), fun M8 e8 => ?_⟩⟩⟩
  have hn : vp_nar .boolean a3 = if r then 1 else 0 := by rw [h3]; cases r <;> decide
  rw [hn] at e6
  have k1 : M8 1 = M2 1 := by rw [e8, upR_k _ _ _ (by decide), e6, upR_k _ _ _ (by decide), e4, upR_k _ _ _ (by decide)]
  have k6 : M8 6 i = 1 := by rw [e8, upR_k _ _ _ (by decide), e6, upR_k _ _ _ (by decide), e4, upR_at]
  have k7 : M8 7 i = if r then 1 else 0 := by rw [e8, upR_k _ _ _ (by decide), e6, upR_at]
  have k8 : M8 8 i = nI 0 := by rw [e8, upR_at]; rfl
  have hT8 : mT M8 (6930 + 301 * i) t := h2'.congr fun j _ _ => by rw [k1]
  have hd8 : mDel M8 i d := ⟨hd.1, fun c hc => by rw [k1, f2 1 (7540 + 256 * i + c) (by omega)]; exact hd.2 c hc⟩
  refine s_counted hT8 hd8 hi k7 k8 (by omega) (hp M8 ⟨k6, hT8, hd8.1, hd8.2, k7, k8, by omega⟩ (fun k j q => ?_))
  rw [e8, upR_tk q (by omega), e6, upR_tk q (by omega), e4, upR_tk q (by omega)]
  exact f2 k j (tkO_t q)
/-- the text that the library's tokenizer has for delimiters when it is told none -/
theorem r_tokenize {post : Int32 → RM → Prop} {s : AS} {M : RM} (x y : Int32) (hR : rRep s M) (hp : ∀ M', rRep (op_tokenize x y s).2 M' → post (op_tokenize x y s).1 M') : w_tokenize post x y M := by
  rw [w_tokenize]
  refine s_isTokenizer x (fun e => ⟨fun _ => ?_, fun z => absurd rfl z⟩) (fun i hi hx e => ⟨fun z => absurd z (by decide), fun _ => ?_⟩)
  · simp only [op_tokenize, e] at hp; exact hp M hR
  · subst hx
    refine s_isSlot y (fun ey => ⟨fun z => absurd rfl z, fun _ => ?_⟩) (fun k hk hy ey => ⟨fun _ => ?_, fun z => absurd z (by decide)⟩)
    · simp only [op_tokenize, e, ey] at hp; exact hp M hR
    · subst hy
      simp only [op_tokenize, e, ey] at hp
      refine s_key hR hk (fun t ht hT => ⟨fun _ => ⟨vp_in_nI (n := 1806) (by omega) (by omega), fun M9 e9 => ?_⟩, fun z => absurd rfl z⟩) (fun ht => ⟨fun z => absurd z (by decide), fun _ => s_refusedNull hR (fun M' h' => ?_)⟩)
      · simp only [ht, op_mk] at hp
        have e9' : M9 = upR M 1 1806 0 := e9
        have g9 : mF M M9 1806 2107 := by rw [e9']; exact mF.up _ mF.rf (by omega) (by omega)
        have h9 : mT M9 1806 [] := ⟨⟨by simp, by simp⟩, by rw [e9', upR_at]; rfl, fun j hj => absurd hj (by simp)⟩
        refine s_addSign (a := 1806) (c := 32) h9 (by omega) (by decide) (by omega) (fun M10 h10 f10 => ?_)
        refine s_addSign (a := 1806) (c := 9) h10 (by omega) (by decide) (by omega) (fun M11 h11 f11 => ?_)
        refine s_addSign (a := 1806) (c := 10) h11 (by omega) (by decide) (by omega) (fun M12 h12 f12 => ?_)
        refine s_addSign (a := 1806) (c := 13) h12 (by omega) (by decide) (by omega) (fun M13 h13 f13 => ?_)
        refine s_addSign (a := 1806) (c := 12) h13 (by omega) (by decide) (by omega) (fun M14 h14 f14 => ?_)
        have gg : mF M M14 1806 2107 := (((((g9.tr f10).tr f11).tr f12).tr f13).tr f14)
        have hR14 : rRep s M14 := hR.still (mA.of gg (fun z a b => scrKV z (by omega) (by omega)))
        have hT14 : mT M14 (301 * k) t := hT.frame gg (by omega)
        refine s_layDelimiters (a := 1806) (d := blanks5) h14 (by omega) hi (by omega) (fun M15 h15 f15 => s_at ?_)
        refine s_make (r := false) (hT14.frame f15 (by omega)) h15 (by omega) hi (by omega) rfl (fun M' h' f' => hp M' (hR14.tok hi (fun k j q => ?_) h'))
        rw [f' k j q]; exact f15 k j (tkO_d q)
      · simp only [ht, nullS] at hp; exact hp M' h'
theorem r_told {post : Int32 → RM → Prop} {s : AS} {M : RM} (x y z : Int32) (r : Bool) {a4 : Int32} (h4 : a4 = if r then 1 else 0) (hR : rRep s M) (hp : ∀ M', rRep (op_told x y z r s).2 M' → post (op_told x y z r s).1 M') : w_tokenizeTold post x y z a4 M := by
  rw [w_tokenizeTold]
  refine s_isTokenizer x (fun e => ⟨fun _ => ?_, fun z => absurd rfl z⟩) (fun i hi hx e => ⟨fun z => absurd z (by decide), fun _ => ?_⟩)
  · simp only [op_told, e] at hp; exact hp M hR
  · subst hx
    refine s_isSlot y (fun ey => ⟨fun _ => ?_, fun q => absurd rfl q⟩) (fun j hj hy ey => ⟨fun q => absurd q (by decide), fun _ => ?_⟩)
    · simp only [op_told, e, ey] at hp; exact hp M hR
    · subst hy
      refine s_isSlot z (fun ez => ⟨fun q => absurd rfl q, fun _ => ?_⟩) (fun k hk hz ez => ⟨fun _ => ?_, fun q => absurd q (by decide)⟩)
      · simp only [op_told, e, ey, ez] at hp; exact hp M hR
      · subst hz
        simp only [op_told, e, ey, ez] at hp
        refine s_key hR hk (fun d hd hD => ⟨fun _ => ?_, fun z => absurd rfl z⟩) (fun hd => ⟨fun z => absurd z (by decide), fun _ => ?_⟩)
        · simp only [hd] at hp
          refine s_key hR hj (fun t ht hT => ⟨fun _ => s_at ?_, fun z => absurd rfl z⟩) (fun ht => ⟨fun z => absurd z (by decide), fun _ => s_refusedNull hR (fun M' h' => ?_)⟩)
          · simp only [ht, op_mk] at hp
            refine s_layDelimiters hD (by omega) hi (by omega) (fun M15 h15 f15 => s_at ?_)
            refine s_make (r := r) (hT.frame f15 (by omega)) h15 (by omega) hi (by omega) h4 (fun M' h' f' => hp M' (hR.tok hi (fun k j q => ?_) h'))
            rw [f' k j q]; exact f15 k j (tkO_d q)
          · simp only [ht, nullS] at hp; exact hp M' h'
        · simp only [hd] at hp; exact hp M hR
theorem r_tokenizeBy {post : Int32 → RM → Prop} {s : AS} {M : RM} (x y z : Int32) (hR : rRep s M) (hp : ∀ M', rRep (op_told x y z false s).2 M' → post (op_told x y z false s).1 M') : w_tokenizeBy post x y z M := by
  rw [w_tokenizeBy]; exact r_told x y z false rfl hR hp
theorem r_tokenizeAll {post : Int32 → RM → Prop} {s : AS} {M : RM} (x y z : Int32) (hR : rRep s M) (hp : ∀ M', rRep (op_told x y z true s).2 M' → post (op_told x y z true s).1 M') : w_tokenizeAll post x y z M := by
  rw [w_tokenizeAll]; exact r_told x y z true rfl hR hp
theorem r_tokenizeValue {post : Int32 → RM → Prop} {s : AS} {M : RM} (x y w z : Int32) (hR : rRep s M) (hp : ∀ M', rRep (op_tokenizeValue x y w z s).2 M' → post (op_tokenizeValue x y w z s).1 M') : w_tokenizeValue post x y w z M := by
  rw [w_tokenizeValue]
  refine s_isTokenizer x (fun e => ⟨fun _ => ?_, fun z => absurd rfl z⟩) (fun i hi hx e => ⟨fun z => absurd z (by decide), fun _ => ?_⟩)
  · simp only [op_tokenizeValue, e] at hp; exact hp M hR
  subst hx
  refine s_isLayer y (fun ey => ⟨fun _ => ?_, fun z => absurd rfl z⟩) (fun l hl hy ey => ⟨fun z => absurd z (by decide), fun _ => ?_⟩)
  · simp only [op_tokenizeValue, e, ey] at hp; exact hp M hR
  subst hy
  refine s_isSlot w (fun ew => ⟨fun _ => ?_, fun q => absurd rfl q⟩) (fun j hj hw ew => ⟨fun q => absurd q (by decide), fun _ => ?_⟩)
  · simp only [op_tokenizeValue, e, ey, ew] at hp; exact hp M hR
  subst hw
  refine s_isSlot z (fun ez => ⟨fun q => absurd rfl q, fun _ => ?_⟩) (fun k hk hz ez => ⟨fun _ => ?_, fun q => absurd q (by decide)⟩)
  · simp only [op_tokenizeValue, e, ey, ew, ez] at hp; exact hp M hR
  subst hz
  simp only [op_tokenizeValue, e, ey, ew, ez] at hp
  refine s_key hR hk (fun d hd hD => ⟨fun _ => ?_, fun z => absurd rfl z⟩) (fun hd => ⟨fun z => absurd z (by decide), fun _ => ?_⟩)
  · simp only [hd] at hp
    refine s_key hR hj (fun t ht hT => ⟨fun _ => s_at ?_, fun z => absurd rfl z⟩) (fun ht => ⟨fun z => absurd z (by decide), fun _ => s_refusedNull hR (fun M' h' => ?_)⟩)
    · simp only [ht] at hp
      rw [w_layerWith]
      refine ⟨l + 2, s_layerWith hT (by omega) l hl hR.2.2.1 ?_⟩
      cases hm : layerF (aLy s) t l with
      | none =>
        have e5 : lookF (aLy s) t l = none := by unfold lookF; rw [hm]
        simp only [e5] at hp
        exact ⟨fun q => absurd rfl q, fun _ => hp M hR⟩
      | some m =>
        obtain ⟨hml, hmf⟩ := layerF_le hm
        obtain ⟨p, hf⟩ : ∃ p, findF (aLy s m) t = some p := by
          cases h : findF (aLy s m) t with
          | none => exact absurd h hmf
          | some p => exact ⟨p, rfl⟩
        have hL := hR.2.2.1 m (by omega)
        have h40 := hL.1
        simp only [lookF_some hm hf, op_mk] at hp
        obtain ⟨q1, q2, q3⟩ := findF_lt hf
        have be := eA_b (l := m) (e := p) (by omega) (by omega)
        refine ⟨fun _ => s_at ?_, fun q => absurd ((fI_none (o := some m) (fun p' hp => by obtain rfl := Option.some.inj hp; omega)).mp q) (by simp)⟩
        refine s_layDelimiters hD (by omega) hi (by omega) (fun M15 h15 f15 => s_at ?_)
        have hL15 : mLay M15 m (aLy s m) := hL.congr (f15 2 m (by omega)) (fun z a b => f15 1 z (by omega))
        have hE := hL15.e q1
        refine s_find hL15 (by omega) (hT.frame f15 (by omega)) (by omega) ?_
        rw [hf]
        refine q_val (s_make (r := false) hE.2 h15 (by omega) hi (by omega) rfl (fun M' h' f' => hp M' (hR.tok hi (fun k j q => ?_) h')))
        rw [f' k j q]; exact f15 k j (tkO_d q)
    · simp only [ht, nullS] at hp; exact hp M' h'
  · simp only [hd] at hp; exact hp M hR
theorem mTok.made {M : RM} {i : Nat} {o : Option Tk} (h : mTok M i o) : (M 6 i = 0 ↔ o = none) := by
  match o, h with
  | none, h => exact ⟨fun _ => rfl, fun _ => h⟩
  | some (t, d, r, p), h =>
    have h1 : M 6 i = 1 := h.1
    rw [h1]
    exact ⟨fun z => absurd z (by decide), fun z => absurd z (by simp)⟩
theorem r_more {post : Int32 → RM → Prop} {s : AS} {M : RM} (x : Int32) (hR : rRep s M) (hp : ∀ M', rRep (op_more x s).2 M' → post (op_more x s).1 M') : w_more post x M := by
  rw [w_more]
  refine s_isTokenizer x (fun e => ⟨fun z => absurd rfl z, fun _ => ?_⟩) (fun i hi hx e => ⟨fun _ => ?_, fun z => absurd z (by decide)⟩)
  · simp only [op_more, e] at hp; exact hp M hR
  · subst hx
    simp only [op_more, e] at hp
    have hK := hR.2.2.2.2.1 i hi
    rw [nI_clamp (n := i) (by omega)]
    refine ⟨vp_in_nI hi (by omega), fun z => ?_, fun z => ?_⟩
    · cases hk : aTk s i with
      | none => rw [hk] at hK; exact absurd (hK.made.mpr rfl) z
      | some v =>
        obtain ⟨t, d, r, p⟩ := v
        rw [hk] at hK
        obtain ⟨a1, a2, a3, a4, a5, a6, a7⟩ := hK
        have hl := a2.1.1
        have b := begF_le (d := d) (r := r) a7
        simp only [hk] at hp
        rw [a6]
        refine ⟨vp_in_nI hi (by omega), s_beginOf a2 ⟨a3, a4⟩ hi a5 a7 (q_tt ⟨vp_in_nI (by omega) (by omega), ?_⟩)⟩
        rw [nI_clamp (n := 6930 + 301 * i) (by omega), a2.2.1]
        refine ⟨fun z => ?_, fun z => ?_⟩
        · rw [if_neg (by have := (nI_leI (by omega) (by omega)).mp z; omega)] at hp; exact hp M hR
        · rw [if_pos (by
            rcases Nat.lt_or_ge (begF t d r p) t.length with q | q
            · exact q
            · exact absurd (nI_le q (by omega)) z)] at hp
          exact hp M hR
    · have hn := hK.made.mp z
      simp only [hn] at hp; exact hp M hR
theorem r_count {post : Int32 → RM → Prop} {s : AS} {M : RM} (x : Int32) (hR : rRep s M) (hp : ∀ M', rRep (op_count x s).2 M' → post (op_count x s).1 M') : w_count post x M := by
  rw [w_count]
  refine s_isTokenizer x (fun e => ⟨fun z => absurd rfl z, fun _ => ?_⟩) (fun i hi hx e => ⟨fun _ => ?_, fun z => absurd z (by decide)⟩)
  · simp only [op_count, e] at hp; exact hp M hR
  · subst hx
    simp only [op_count, e] at hp
    have hK := hR.2.2.2.2.1 i hi
    rw [nI_clamp (n := i) (by omega)]
    refine ⟨vp_in_nI hi (by omega), fun z => ?_, fun z => ?_⟩
    · cases hk : aTk s i with
      | none => rw [hk] at hK; exact absurd (hK.made.mpr rfl) z
      | some v =>
        obtain ⟨t, d, r, p⟩ := v
        rw [hk] at hK
        obtain ⟨a1, a2, a3, a4, a5, a6, a7⟩ := hK
        simp only [hk] at hp
        exact s_counted a2 ⟨a3, a4⟩ hi a5 a6 a7 (hp M hR)
    · have hn := hK.made.mp z
      simp only [hn] at hp; exact hp M hR
theorem take_snoc {t : Tx} {b x : Nat} (hb : b ≤ x) (hx : x < t.length) : (t.drop b).take (x + 1 - b) = (t.drop b).take (x - b) ++ [t.getD x 0] := by
  rw [show x + 1 - b = (x - b) + 1 by omega, List.take_add_one, List.getElem?_drop, show b + (x - b) = x by omega, List.getElem?_eq_getElem hx, List.getD_eq_getElem?_getD, List.getElem?_eq_getElem hx]; rfl
theorem s_takeToken_66 {post : Int32 → RM → Prop} {M0 : RM} {i j b e : Nat} {t : Tx} (hi : i < 2) (hj : j < 6) (he : e ≤ t.length)
    (hp : ∀ M', mT M' (301 * j) ((t.drop b).take (e - b)) → mF M0 M' (301 * j) (301 * j + 301) → post (nI (e - b)) (upR M' 8 i (nI e))) : ∀ n x M, x + n = e → b ≤ x → mT M (301 * j) ((t.drop b).take (x - b)) → mT M (6930 + 301 * i) t → mF M0 M (301 * j) (301 * j + 301) → w_takeToken_66 post (n + 1) (nI i) (nI j) (nI b) (nI e) (nI x) M := by
  intro n
  induction n with
  | zero =>
    intro x M hx hb hS hT hF
    have hl := hT.1.1
    have : x = e := by omega
    subst this
    rw [w_takeToken_66, nI_clamp (n := i) (by omega)]
    refine ⟨fun _ => ⟨vp_in_nI hi (by omega), fun M18 e18 => ?_⟩, fun z => absurd (nI_le (Nat.le_refl _) (by omega)) z⟩
    rw [e18, pk_sub hb]
    exact hp M hS hF
  | succ n ih =>
    intro x M hx hb hS hT hF
    have hl := hT.1.1
    have hxl : x < t.length := by omega
    rw [w_takeToken_66]
    refine ⟨fun z => absurd z (nI_ge (by omega) (by omega)), fun _ => s_at (s_signOf hT hi hxl ?_)⟩
    have hlen : ((t.drop b).take (x - b)).length = x - b := by rw [List.length_take, List.length_drop]; omega
    refine s_addSign hS (by omega) (by omega) (getD_lt256 hT.1.2 hxl) (fun M22 h22 f22 v ev => ?_)
    rw [ev, nI_1]
    refine ih (x + 1) M22 (by omega) (by omega) (by rw [take_snoc hb hxl]; exact h22) (hT.frame f22 (by omega)) (hF.tr f22)
theorem rRep.ne {s : AS} {M : RM} (hR : rRep s M) : rRep (sNe s) (upR M 0 3 (M 0 3 + 1)) := by
  obtain ⟨h1, h2, h3, h4, h5, h6, h7, h8⟩ := hR
  have hk : ∀ k i, (k = 0 → i ≠ 3) → (upR M 0 3 (M 0 3 + 1)) k i = M k i := by
    intro k i q
    by_cases hk : k = 0
    · subst hk; rw [upR_0, if_neg (q rfl)]
    · rw [upR_k M _ _ hk]
  refine ⟨fun i hi => (h1 i hi).congr fun j q1 q2 => hk 1 j (by omega), h2.congr (hk 0 0 (by omega)) fun j => hk 4 j (by omega), fun j hj => (h3 j hj).congr (hk 2 j (by omega)) fun i q1 q2 => hk 1 i (by omega), fun i hi => (h4 i hi).congr (hk 3 i (by omega)) (fun l hl => hk 2 _ (by omega)) fun j q1 q2 => hk 1 j (by omega), fun i hi => (h5 i hi).congr (fun k q => hk k i (by omega)) (fun j q1 q2 => hk 1 j (by omega)) fun j q1 q2 => hk 1 j (by omega), fun i hi => (h6 i hi).congr (fun k q => hk k i (by omega)) fun j q1 q2 => hk 1 j (by omega), by rw [hk 0 2 (by omega)]; exact h7, by rw [upR_0, if_pos rfl, h8]⟩
theorem r_takeToken {post : Int32 → RM → Prop} {s : AS} {M : RM} {i j p : Nat} {t d : Tx} {r : Bool} (hR : rRep s M) (hi : i < 2) (hj : j < 6) (hk : aTk s i = some (t, d, r, p)) (hp : ∀ M', rRep (op_take i j t d r p s).2 M' → post (op_take i j t d r p s).1 M') : w_takeToken post (nI i) (nI j) M := by
  have hK := hR.2.2.2.2.1 i hi
  rw [hk] at hK
  obtain ⟨a1, a2, a3, a4, a5, a6, a7⟩ := hK
  have hl := a2.1.1
  have b := begF_le (d := d) (r := r) a7
  rw [w_takeToken, nI_clamp (n := i) (by omega), a6]
  unfold op_take at hp
  refine ⟨vp_in_nI hi (by omega), s_beginOf a2 ⟨a3, a4⟩ hi a5 a7 (q_tt ⟨vp_in_nI (by omega) (by omega), ?_⟩)⟩
  rw [nI_clamp (n := 6930 + 301 * i) (by omega), a2.2.1]
  refine ⟨fun z => ?_, fun z => ⟨vp_in_nI hi (by omega), fun M14 e14 M15 e15 => ?_⟩⟩
  · have hlt := (nI_ltI (by omega) (by omega)).mp z
    rw [if_pos hlt] at hp
    have be := endF_le (d := d) hlt
    refine s_endOf a2 ⟨a3, a4⟩ hi hlt (s_at ⟨vp_in_nI (by omega) (by omega), fun M11 e11 => ⟨endF t d (begF t d r p) - begF t d r p + 1, ?_⟩⟩)
    rw [nI_clamp (n := 301 * j) (by omega)] at e11
    have f11 : mF M M11 (301 * j) (301 * j + 301) := by rw [e11]; exact mF.up _ mF.rf (by omega) (by omega)
    refine s_takeToken_66 (t := t) (M0 := M) hi hj be.2 (fun M' h' f' => ?_) _ (begF t d r p) M11 (by omega) (Nat.le_refl _) ?_ (a2.frame f11 (by omega)) f11
    · have hR1 := hR.slot (v := some _) hj f' h'
      refine hp _ (hR1.tok hi (fun k j' q => upR_tk q (by omega)) ?_)
      have hK1 := hR1.2.2.2.2.1 i hi
      have hk1 : aTk (sSl s j (some ((t.drop (begF t d r p)).take (endF t d (begF t d r p) - begF t d r p)))) i = some (t, d, r, p) := hk
      rw [hk1] at hK1
      obtain ⟨c1, c2, c3, c4, c5, c6, c7⟩ := hK1
      have k1 : ∀ kk, kk ≠ 8 → (upR M' 8 i (nI (endF t d (begF t d r p)))) kk = M' kk := fun kk q => upR_k _ _ _ q
      exact ⟨by rw [k1 6 (by decide)]; exact c1, c2.congr (fun z _ _ => by rw [k1 1 (by decide)]), c3, fun c hc => by rw [k1 1 (by decide)]; exact c4 c hc, by rw [k1 7 (by decide)]; exact c5, by rw [upR_at], be.2⟩
    · rw [Nat.sub_self, List.take_zero]
      exact ⟨⟨by simp, by simp⟩, by rw [e11, upR_at]; rfl, fun j hj => absurd hj (by simp)⟩
  · have hnl : ¬ begF t d r p < t.length := fun q => z (nI_lt q (by omega))
    rw [if_neg hnl] at hp
    rw [nar0] at e14
    rw [e15]
    exact hp _ (rRep.ne (hR.tok hi (fun k j' q => by rw [e14]; exact upR_tk q (by omega)) (show M14 6 i = 0 by rw [e14, upR_at])))
theorem r_next {post : Int32 → RM → Prop} {s : AS} {M : RM} (x y : Int32) (hR : rRep s M) (hp : ∀ M', rRep (op_next x y s).2 M' → post (op_next x y s).1 M') : w_next post x y M := by
  rw [w_next]
  refine s_isTokenizer x (fun e => ⟨fun _ => ?_, fun z => absurd rfl z⟩) (fun i hi hx e => ⟨fun z => absurd z (by decide), fun _ => ?_⟩)
  · simp only [op_next, e] at hp; exact hp M hR
  subst hx
  refine s_isSlot y (fun ey => ⟨fun z => absurd rfl z, fun _ => ?_⟩) (fun k hk hy ey => ⟨fun _ => ?_, fun z => absurd z (by decide)⟩)
  · simp only [op_next, e, ey] at hp; exact hp M hR
  subst hy
  simp only [op_next, e, ey] at hp
  have hK := hR.2.2.2.2.1 i hi
  rw [nI_clamp (n := i) (by omega)]
  refine ⟨vp_in_nI hi (by omega), fun z => ?_, fun z => ?_⟩
  · cases hk : aTk s i with
    | none => rw [hk] at hK; exact absurd (hK.made.mpr rfl) z
    | some v =>
      obtain ⟨t, d, r, p⟩ := v
      simp only [hk] at hp
      exact r_takeToken hR hi (by assumption) hk hp
  · have hn := hK.made.mp z
    simp only [hn] at hp; exact hp M hR
theorem r_nextBy {post : Int32 → RM → Prop} {s : AS} {M : RM} (x y z : Int32) (hR : rRep s M) (hp : ∀ M', rRep (op_nextBy x y z s).2 M' → post (op_nextBy x y z s).1 M') : w_nextBy post x y z M := by
  rw [w_nextBy]
  refine s_isTokenizer x (fun e => ⟨fun _ => ?_, fun z => absurd rfl z⟩) (fun i hi hx e => ⟨fun z => absurd z (by decide), fun _ => ?_⟩)
  · simp only [op_nextBy, e] at hp; exact hp M hR
  subst hx
  refine s_isSlot y (fun ey => ⟨fun _ => ?_, fun q => absurd rfl q⟩) (fun k hk hy ey => ⟨fun q => absurd q (by decide), fun _ => ?_⟩)
  · simp only [op_nextBy, e, ey] at hp; exact hp M hR
  subst hy
  refine s_isSlot z (fun ez => ⟨fun q => absurd rfl q, fun _ => ?_⟩) (fun j hj hz ez => ⟨fun _ => ?_, fun q => absurd q (by decide)⟩)
  · simp only [op_nextBy, e, ey, ez] at hp; exact hp M hR
  subst hz
  simp only [op_nextBy, e, ey, ez] at hp
  have hK := hR.2.2.2.2.1 i hi
  rw [nI_clamp (n := i) (by omega)]
  refine ⟨vp_in_nI hi (by omega), fun z => ?_, fun z => ?_⟩
  · cases hk : aTk s i with
    | none => rw [hk] at hK; exact absurd (hK.made.mpr rfl) z
    | some v =>
      obtain ⟨t, d, r, p⟩ := v
      rw [hk] at hK
      obtain ⟨a1, a2, a3, a4, a5, a6, a7⟩ := hK
      simp only [hk] at hp
      refine s_key hR (by assumption) (fun d' hd hD => ⟨fun _ => s_at ?_, fun z => absurd rfl z⟩) (fun hd => ⟨fun z => absurd z (by decide), fun _ => ?_⟩)
      · simp only [hd] at hp
        refine s_layDelimiters hD (by omega) hi (by omega) (fun M13 h13 f13 => ?_)
        have hR13 : rRep (sTk s i (some (t, d', r, p))) M13 := hR.tok hi (fun k j q => f13 k j (tkO_d q)) ⟨by rw [f13 6 i (by omega)]; exact a1, a2.frame f13 (by omega), h13.1, h13.2, by rw [f13 7 i (by omega)]; exact a5, by rw [f13 8 i (by omega)]; exact a6, a7⟩
        refine r_takeToken hR13 hi hj (show va_up (aTk s) i _ i = _ by rw [va_up_self]) (fun M' h' => ?_)
        have e9 : ∀ v, sTk (sTk s i (some (t, d', r, p))) i v = sTk s i v := by
          intro v
          show (_, _, _, _, va_up (va_up (aTk s) i _) i v, _) = (_, _, _, _, va_up (aTk s) i v, _)
          congr 5
          funext q
          unfold va_up
          split <;> rfl
        unfold op_take at h' hp ⊢
        split at h'
        · rename_i hlt
          rw [if_pos hlt] at hp ⊢
          refine hp M' ?_
          have := e9
          exact (show rRep (sTk (sSl (sTk s i (some (t, d', r, p))) j _) i _) M' from h') |> (fun q => by
            have e10 : ∀ v w, sTk (sSl (sTk s i (some (t, d', r, p))) j w) i v = sTk (sSl s j w) i v := fun v w => congrArg (fun z : AS => sSl z j w) (e9 v)
            rw [e10] at q; exact q)
        · rename_i hlt
          rw [if_neg hlt] at hp ⊢
          refine hp M' ?_
          have q : rRep (sNe (sTk (sTk s i (some (t, d', r, p))) i none)) M' := h'
          rw [e9] at q; exact q
      · simp only [hd] at hp; exact hp M hR
  · have hn := hK.made.mp z
    simp only [hn] at hp; exact hp M hR
