/-! the calls on joiners -/
def joO (i k j : Nat) : Prop := ((k = 9 ∨ k = 10) ∧ j = i) ∨ (k = 1 ∧ 2408 + 1505 * i ≤ j ∧ j < 2408 + 1505 * i + 1505)
theorem joO_f {i k j a b : Nat} (h : ¬ joO i k j) (h1 : 2408 + 1505 * i ≤ a) (h2 : b ≤ 2408 + 1505 * i + 1505) : k ≠ 1 ∨ j < a ∨ b ≤ j := by
  by_cases q : k = 1
  · refine Or.inr ?_
    rcases Nat.lt_or_ge j a with c | c
    · exact Or.inl c
    · rcases Nat.lt_or_ge j b with e | e
      · exact absurd (Or.inr ⟨q, by omega, by omega⟩) h
      · exact Or.inr e
  · exact Or.inl q
theorem upR_jo {M : RM} {i k j kk : Nat} {x : Int32} (h : ¬ joO i k j) (hk : kk = 9 ∨ kk = 10) : upR M kk i x k j = M k j := by
  by_cases q : k = kk
  · subst q
    rw [upR_self]
    exact if_neg (fun z => h (Or.inl ⟨hk, z⟩))
  · rw [upR_k M i x q]
theorem rRep.joi {s : AS} {M M' : RM} {i : Nat} {v : Option Jn} (h : rRep s M) (hi : i < 3) (hF : ∀ k j, ¬ joO i k j → M' k j = M k j) (hv : mJoi M' i v) : rRep (sJn s i v) M' := by
  obtain ⟨h1, h2, h3, h4, h5, h6, h7, h8⟩ := h
  have n1 : ∀ j, (j < 2408 ∨ 6923 ≤ j) → M' 1 j = M 1 j := fun j q => hF 1 j (by unfold joO; omega)
  have n4 : ∀ x z : Nat, 8100 + 24080 * (4 * (x + 1)) ≤ z → M' 1 z = M 1 z := fun x z q => n1 z (Or.inr (Nat.le_trans (Nat.le_trans (by decide) (Nat.le_add_right 8100 _)) q))
  have nk : ∀ k j, k ≠ 1 → k ≠ 9 → k ≠ 10 → M' k j = M k j := fun k j q1 q2 q3 => hF k j (by unfold joO; omega)
  refine ⟨fun j hj => (h1 j hj).congr fun z q1 q2 => n1 z (by omega), h2.congr (nk 0 0 (by omega) (by omega) (by omega)) fun j => nk 4 j (by omega) (by omega) (by omega), fun j hj => (h3 j hj).congr (nk 2 j (by omega) (by omega) (by omega)) fun z q1 q2 => n1 z (by omega), fun j hj => (h4 j hj).congr (nk 3 j (by omega) (by omega) (by omega)) (fun l hl => nk 2 _ (by omega) (by omega) (by omega)) fun z q1 q2 => n4 j z q1, fun j hj => (h5 j hj).congr (fun k q => nk k j (by omega) (by omega) (by omega)) (fun z q1 q2 => n1 z (by omega)) fun z q1 q2 => n1 z (by omega), fun j hj => ?_, by rw [nk 0 2 (by omega) (by omega) (by omega)]; exact h7, by rw [nk 0 3 (by omega) (by omega) (by omega)]; exact h8⟩
  show mJoi M' j (va_up (aJn s) i v j)
  by_cases hji : j = i
  · subst hji; rw [va_up_self]; exact hv
  · rw [va_up_ne _ _ hji]
    exact (h6 j hj).congr (fun k q => hF k j (by unfold joO; omega)) fun z q1 q2 => hF 1 z (by unfold joO; omega)
theorem q_pt {post : Int32 → Prop} {i : Nat} {o : Int32} (c : Nat) (ho : o = nI c) (h : post (nI (2408 + 1505 * i + c))) : q_part post (nI i) o := by
  rw [q_part, ho, show (1505 : Int32) * nI i = nI (1505 * i) from pk_mul 1505 i, show (2408 : Int32) = nI 2408 from rfl, nI_add, nI_add]
  exact h
theorem s_isJoiner {post : Int32 → Prop} (x : Int32) (h0 : ixO x 3 = none → post 0) (h1 : ∀ i, i < 3 → x = nI i → ixO x 3 = some i → post 1) : q_isJoiner post x := by
  rw [q_isJoiner]
  rcases ixO_cases x (n := 3) (by omega) with ⟨e, h⟩ | ⟨i, hi, rfl, e⟩
  · rcases h with h | h
    · exact ⟨fun _ => h0 e, fun z => absurd h z⟩
    · exact ⟨fun _ => h0 e, fun _ => ⟨fun _ => h0 e, fun z => absurd h z⟩⟩
  · exact ⟨fun z => absurd z (nI_pos (by omega)), fun _ => ⟨fun z => absurd z (nI_ge (b := 3) hi (by decide)), fun _ => h1 i hi rfl e⟩⟩
def resF : Jn → Tx
  | (_, _, _, none, some t) => t
  | (_, pr, su, none, none) => pr ++ su
  | (_, pr, su, some e, _) => pr ++ e ++ su
theorem resF_len (v : Jn) : (resF v).length = jnLen v := by
  obtain ⟨d, pr, su, el, em⟩ := v
  cases el with
  | none => cases em <;> simp [resF, jnLen]
  | some e => simp [resF, jnLen]; omega
theorem mJoi.made {M : RM} {i : Nat} {o : Option Jn} (h : mJoi M i o) : (M 9 i = 0 ↔ o = none) := by
  match o, h with
  | none, h => exact ⟨fun _ => rfl, fun _ => h⟩
  | some (d, pr, su, el, em), h =>
    have h1 : M 9 i = 1 := h.1
    rw [h1]
    exact ⟨fun z => absurd z (by decide), fun z => absurd z (by simp)⟩
theorem s_resultSize {post : Int32 → RM → Prop} {M : RM} {i : Nat} {v : Jn} (hJ : mJoi M i (some v)) (hi : i < 3) (h : post (nI (jnLen v)) M) : w_resultSize post (nI i) M := by
  obtain ⟨d, pr, su, el, em⟩ := v
  obtain ⟨c1, c2, c3, c4, c5, c6, c7, c8⟩ := hJ
  have l3 := c3.1.1
  have l4 := c4.1.1
  have l7 := c7.1.1
  rw [w_resultSize]
  refine q_pt 301 rfl ⟨vp_in_nI (by omega) (by omega), q_pt 602 rfl ⟨vp_in_nI (by omega) (by omega), fun v5 e5 => q_pt 903 rfl ⟨vp_in_nI (by omega) (by omega), fun v8 e8 => ?_⟩⟩⟩
  rw [nI_clamp (n := 2408 + 1505 * i + 301) (by omega), nI_clamp (n := 2408 + 1505 * i + 602) (by omega), c3.2.1, c4.2.1, nI_add] at e5
  rw [nI_clamp (n := 2408 + 1505 * i + 903) (by omega)] at e8
  rw [nI_clamp (n := i) (by omega), c6]
  refine ⟨vp_in_nI hi (by omega), fun z => ?_, fun z => ?_⟩
  · cases el with
    | some e => exact absurd (show (1 : Int32) = 0 from z) (by decide)
    | none =>
      cases em with
      | none =>
        have q : M 1 (2408 + 1505 * i + 903) = -5 := c5
        rw [e8, q, e5]
        exact ⟨fun _ => h, fun z => absurd (by decide) z⟩
      | some t =>
        have q : mT M (2408 + 1505 * i + 903) t := c5
        have lq := q.1.1
        rw [e8, q.2.1]
        exact ⟨fun z => absurd z (nI_pos (by omega)), fun _ => h⟩
  · cases el with
    | none => exact absurd rfl z
    | some e =>
      refine q_pt 1204 rfl ⟨vp_in_nI (by omega) (by omega), ?_⟩
      rw [nI_clamp (n := 2408 + 1505 * i + 1204) (by omega), c7.2.1, e5, nI_add]
      have : jnLen (d, pr, su, some e, em) = pr.length + su.length + e.length := by show pr.length + e.length + su.length = _; omega
      rw [this] at h
      exact h
theorem getD_app {t u : Tx} {j : Nat} : (u ++ t).getD j 0 = if j < u.length then u.getD j 0 else t.getD (j - u.length) 0 := by
  simp only [List.getD_eq_getElem?_getD]
  by_cases h : j < u.length
  · rw [if_pos h, List.getElem?_append_left h]
  · rw [if_neg h, List.getElem?_append_right (by omega)]
theorem s_addText {post : RM → Prop} {M : RM} {a b : Nat} {t u : Tx} (hT : mT M a t) (hU : mT M b u) (hl : u.length + t.length ≤ 300) (ha : a + 301 ≤ 321140) (hb : b + 301 ≤ 321140) (hdis : a + 301 ≤ b ∨ b + 301 ≤ a)
    (hp : ∀ M', mT M' b (u ++ t) → mF M M' b (b + 301) → post M') : w_addText post (nI a) (nI b) M := by
  rw [w_addText, nI_clamp (n := b) (by omega), hU.2.1]
  refine ⟨vp_in_nI (by omega) (by omega), fun v2 e2 => ⟨t.length + 1, ?_⟩⟩
  rw [e2]
  have key : ∀ n j M1, j + n = t.length → mT M1 a t → M1 1 b = nI u.length → (∀ i, i < u.length → M1 1 (b + 1 + i) = nI (u.getD i 0)) → (∀ i, i < j → M1 1 (b + 1 + u.length + i) = nI (t.getD i 0)) → mF M M1 b (b + 301) → w_addText_10 post (n + 1) (nI a) (nI b) (nI u.length) (nI (j + 1)) M1 := by
    intro n
    induction n with
    | zero =>
      intro j M1 hj h1 h2 h3 h4 h5
      rw [w_addText_10, nI_clamp (n := a) (by omega), h1.2.1, nI_clamp (n := b) (by omega), nI_add]
      refine ⟨vp_in_nI (by omega) (by omega), fun _ => ⟨vp_in_nI (by omega) (by omega), vp_in_nI (by omega) (by omega), fun M8 e8 => ?_⟩, fun z => absurd (nI_lt (by omega) (by omega)) z⟩
      refine hp M8 ⟨⟨by simp; omega, fun c hc => ?_⟩, ?_, fun i hi => ?_⟩ (by rw [e8]; exact mF.up _ h5 (by omega) (by omega))
      · rcases List.mem_append.mp hc with q | q
        · exact hU.1.2 c q
        · exact hT.1.2 c q
      · rw [e8, upR_at]; simp
      · rw [e8, upR_1, if_neg (by omega), getD_app]
        have hi' : i < u.length + t.length := by simpa using hi
        by_cases q : i < u.length
        · rw [if_pos q]; exact h3 i q
        · rw [if_neg q, ← h4 (i - u.length) (by omega)]
          congr 1; omega
    | succ n ih =>
      intro j M1 hj h1 h2 h3 h4 h5
      have e1 : nI a + nI (j + 1) = nI (a + 1 + j) := by rw [nI_add]; congr 1; omega
      have e3 : nI b + nI u.length + nI (j + 1) = nI (b + 1 + u.length + j) := by rw [nI_add, nI_add]; congr 1; omega
      rw [w_addText_10, nI_clamp (n := a) (by omega), h1.2.1, e1, e3, nI_clamp (n := a + 1 + j) (by omega), nI_clamp (n := b + 1 + u.length + j) (by omega), h1.2.2 j (by omega)]
      refine ⟨vp_in_nI (by omega) (by omega), fun z => absurd z (nI_nlt (by omega) (by omega)), fun _ => ⟨vp_in_nI (by omega) (by omega), vp_in_nI (by omega) (by omega), fun M11 e11 v ev => ?_⟩⟩
      have f1 : mF M1 M11 b (b + 301) := by rw [e11]; exact mF.up _ mF.rf (by omega) (by omega)
      rw [ev, nI_1]
      refine ih (j + 1) M11 (by omega) (h1.frame f1 (by omega)) ?_ (fun i hi => ?_) (fun i hi => ?_) (h5.tr f1)
      · rw [e11, upR_1, if_neg (by omega)]; exact h2
      · rw [e11, upR_1, if_neg (by omega)]; exact h3 i hi
      · rw [e11, upR_1]
        by_cases q : i = j
        · subst q; rw [if_pos rfl]
        · rw [if_neg (by omega)]; exact h4 i (by omega)
  exact key t.length 0 M (by omega) hT hU.2.1 hU.2.2 (fun i hi => absurd hi (by omega)) mF.rf
theorem s_begin {post : RM → Prop} {M : RM} {i : Nat} (hi : i < 3)
    (hp : ∀ M', M' 9 i = 1 → M' 10 i = 0 → mT M' (2408 + 1505 * i + 1204) [] → mO M' (2408 + 1505 * i + 903) none → (∀ k j, ¬ joO i k j → M' k j = M k j) → post M') : w_begin post (nI i) M := by
  rw [w_begin, nI_clamp (n := i) (by omega), nar1, nar0]
  refine ⟨vp_in_nI hi (by omega), fun M2 e2 => ⟨vp_in_nI hi (by omega), fun M4 e4 => q_pt 1204 rfl ⟨vp_in_nI (by omega) (by omega), fun M7 e7 => q_pt 903 rfl ⟨vp_in_nI (by omega) (by omega), fun M10 e10 => ?_⟩⟩⟩⟩
  rw [nI_clamp (n := 2408 + 1505 * i + 1204) (by omega)] at e7
  rw [nI_clamp (n := 2408 + 1505 * i + 903) (by omega)] at e10
  refine hp M10 ?_ ?_ (mO.nil ?_) ?_ (fun k j q => ?_)
  · rw [e10, upR_k _ _ _ (by decide), e7, upR_k _ _ _ (by decide), e4, upR_k _ _ _ (by decide), e2, upR_at]
  · rw [e10, upR_k _ _ _ (by decide), e7, upR_k _ _ _ (by decide), e4, upR_at]
  · rw [e10, upR_1, if_neg (by omega), e7, upR_at]
  · show M10 1 _ = -5
    rw [e10, upR_at]
  · have g : mF M4 M10 (2408 + 1505 * i + 903) (2408 + 1505 * i + 1505) := by
      rw [e10]; exact mF.up _ (by rw [e7]; exact mF.up _ mF.rf (by omega) (by omega)) (by omega) (by omega)
    rw [g k j (joO_f q (by omega) (by omega)), e4, upR_jo q (by omega), e2, upR_jo q (by omega)]
def op_join (x y : Int32) (s : AS) : Int32 × AS := match ixO x 3, ixO y 6 with
  | some i, some j => match aSl s j with
    | none => nullS s
    | some t => (0, sJn s i (some (t, [], [], none, none)))
  | _, _ => (-1, s)
def op_joinWithin (x y z w : Int32) (s : AS) : Int32 × AS := match ixO x 3, ixO y 6, ixO z 6, ixO w 6 with
  | some i, some j, some k, some l => match aSl s j, aSl s k, aSl s l with
    | some d, some pr, some su => if pr.length + su.length ≤ 300 then (nI (pr.length + su.length), sJn s i (some (d, pr, su, none, none))) else (-3, s)
    | _, _, _ => nullS s
  | _, _, _, _ => (-1, s)
def elF (d : Tx) (t : Tx) : Option Tx → Tx
  | none => t
  | some e => e ++ d ++ t
def op_el (i : Nat) (t : Tx) (v : Jn) (s : AS) : Int32 × AS := match v with
  | (d, pr, su, el, em) => if pr.length + (elF d t el).length + su.length ≤ 300 then (nI (jnLen (d, pr, su, some (elF d t el), em)), sJn s i (some (d, pr, su, some (elF d t el), em))) else (-3, s)
def tNull : Tx := [110, 117, 108, 108]
def op_add (x y : Int32) (s : AS) : Int32 × AS := match ixO x 3, ixO y 6 with
  | some i, some j => match aJn s i with
    | none => (-4, s)
    | some v => op_el i ((aSl s j).getD tNull) v s
  | _, _ => (-1, s)
def op_ifEmpty (x y : Int32) (s : AS) : Int32 × AS := match ixO x 3, ixO y 6 with
  | some i, some j => match aJn s i with
    | none => (-4, s)
    | some (d, pr, su, el, em) => match aSl s j with
      | none => nullS s
      | some t => (nI (jnLen (d, pr, su, el, some t)), sJn s i (some (d, pr, su, el, some t)))
  | _, _ => (-1, s)
def op_merge (x y : Int32) (s : AS) : Int32 × AS := match ixO x 3, ixO y 3 with
  | some i, some j => if i = j then (-1, s) else match aJn s i with
    | none => (-4, s)
    | some v => match aJn s j with
      | none => (-4, s)
      | some (_, _, _, none, _) => (nI (jnLen v), s)
      | some (_, _, _, some e, _) => op_el i e v s
  | _, _ => (-1, s)
def op_joined (x y : Int32) (s : AS) : Int32 × AS := match ixO x 3, ixO y 6 with
  | some i, some j => match aJn s i with
    | none => (-4, s)
    | some v => (nI (jnLen v), sSl s j (some (resF v)))
  | _, _ => (-1, s)
def op_joinedLength (x : Int32) (s : AS) : Int32 × AS := match ixO x 3 with
  | none => (-1, s)
  | some i => match aJn s i with
    | none => (-4, s)
    | some v => (nI (jnLen v), s)
def op_setJoined (x y z : Int32) (s : AS) : Int32 × AS := match ixO x 4, ixO y 6, ixO z 3 with
  | some l, some k, some i => match aJn s i with
    | none => (-4, s)
    | some v => match aSl s k with
      | none => nullS s
      | some t => if findF (aLy s l) t = none ∧ 40 ≤ (aLy s l).length then (-3, s) else (nI (putF (aLy s l) t (resF v)).length, sLy s l (putF (aLy s l) t (resF v)))
  | _, _, _ => (-1, s)
theorem s_jkey {post : Int32 → RM → Prop} {M : RM} {k : Nat} {o : Option Tx} (ho : mO M (301 * k) o) (hk : k < 6) (h0 : ∀ t, o = some t → mT M (301 * k) t → post 0 M) (h1 : o = none → post 1 M) : w_hasNothing post (nI k) M :=
  s_hasNothing ho hk (fun t ht => h0 t ht (by rw [ht] at ho; exact ho)) h1
theorem r_join {post : Int32 → RM → Prop} {s : AS} {M : RM} (x y : Int32) (hR : rRep s M) (hp : ∀ M', rRep (op_join x y s).2 M' → post (op_join x y s).1 M') : w_join post x y M := by
  rw [w_join]
  refine s_isJoiner x (fun e => ⟨fun _ => ?_, fun z => absurd rfl z⟩) (fun i hi hx e => ⟨fun z => absurd z (by decide), fun _ => ?_⟩)
  · simp only [op_join, e] at hp; exact hp M hR
  subst hx
  refine s_isSlot y (fun ey => ⟨fun z => absurd rfl z, fun _ => ?_⟩) (fun k hk hy ey => ⟨fun _ => ?_, fun z => absurd z (by decide)⟩)
  · simp only [op_join, e, ey] at hp; exact hp M hR
  subst hy
  simp only [op_join, e, ey] at hp
  refine s_key hR hk (fun t ht hT => ⟨fun _ => s_begin hi (fun M8 b1 b2 b3 b4 b5 => s_at (q_pt 0 rfl ?_)), fun z => absurd rfl z⟩) (fun ht => ⟨fun z => absurd z (by decide), fun _ => s_refusedNull hR (fun M' h' => ?_)⟩)
  · simp only [ht] at hp
    have hT8 : mT M8 (301 * k) t := hT.congr fun j _ _ => b5 1 j (by unfold joO; omega)
    refine s_copyText (o := some t) hT8 (by omega) (by omega) (by omega) (fun M11 h11 f11 => q_pt 301 rfl ⟨vp_in_nI (by omega) (by omega), fun M14 e14 => q_pt 602 rfl ⟨vp_in_nI (by omega) (by omega), fun M17 e17 => ?_⟩⟩)
    have h11' : mT M11 (2408 + 1505 * i) t := h11
    rw [nI_clamp (n := 2408 + 1505 * i + 301) (by omega)] at e14
    rw [nI_clamp (n := 2408 + 1505 * i + 602) (by omega)] at e17
    have f14 : mF M11 M14 (2408 + 1505 * i + 301) (2408 + 1505 * i + 602) := by rw [e14]; exact mF.up _ mF.rf (by omega) (by omega)
    have f17 : mF M14 M17 (2408 + 1505 * i + 602) (2408 + 1505 * i + 903) := by rw [e17]; exact mF.up _ mF.rf (by omega) (by omega)
    have g : mF M8 M17 (2408 + 1505 * i) (2408 + 1505 * i + 903) := mF.tr (mF.tr (f11.wide (by omega) (by omega)) (f14.wide (by omega) (by omega))) (f17.wide (by omega) (by omega))
    have p14 : mT M14 (2408 + 1505 * i + 301) [] := mO.nil (by rw [e14, upR_at])
    refine hp M17 (hR.joi hi (fun k j q => by rw [g k j (joO_f q (by omega) (by omega))]; exact b5 k j q) ⟨?_, ?_, p14.frame f17 (by omega), mO.nil (by rw [e17, upR_at]), mO.frame b4 g (by omega), ?_, b3.frame g (by omega), by simp⟩)
    · rw [g.k (by decide)]; exact b1
    · exact (h11'.frame f14 (by omega)).frame f17 (by omega)
    · rw [g.k (by decide)]; exact b2
  · simp only [ht, nullS] at hp; exact hp M' h'
