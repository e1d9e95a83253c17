/-! reading: lines and entries -/
def scanF (P : Nat → Bool) (X : Nat → Nat) (m : Nat) : Nat → Nat → Nat
  | 0, i => i
  | n + 1, i => if m ≤ i then i else if P (X i) then scanF P X m n (i + 1) else i
def scan (P : Nat → Bool) (X : Nat → Nat) (m i : Nat) : Nat := scanF P X m (m - i) i
theorem scan_ge {P : Nat → Bool} {X : Nat → Nat} {m i : Nat} (h : m ≤ i) : scan P X m i = i := by
  unfold scan; rw [Nat.sub_eq_zero_of_le h]; rfl
theorem scan_st {P : Nat → Bool} {X : Nat → Nat} {m i : Nat} (h : i < m) : scan P X m i = if P (X i) then scan P X m (i + 1) else i := by
  unfold scan
  rw [show m - i = (m - (i + 1)) + 1 by omega]
  show (if m ≤ i then i else if P (X i) then scanF P X m (m - (i + 1)) (i + 1) else i) = _
  rw [if_neg (by omega)]
theorem scan_le {P : Nat → Bool} {X : Nat → Nat} {m : Nat} : ∀ (d i : Nat), i + d = m → i ≤ scan P X m i ∧ scan P X m i ≤ m
  | 0, i, h => by rw [scan_ge (by omega)]; omega
  | d + 1, i, h => by
    have := scan_le (P := P) (X := X) (m := m) d (i + 1) (by omega)
    rw [scan_st (by omega)]
    split <;> omega
theorem scan_b {P : Nat → Bool} {X : Nat → Nat} {m i : Nat} (h : i ≤ m) : i ≤ scan P X m i ∧ scan P X m i ≤ m := scan_le (m - i) i (by omega)
def ch (T : Tx) (i : Nat) : Nat := T.getD i 0
def notEnd (c : Nat) : Bool := !(c == 10 || c == 13)
def isBl (c : Nat) : Bool := c == 32 || c == 9
def endL (T : Tx) (p : Nat) : Nat := scan notEnd (ch T) T.length p
def firstL (T : Tx) (p e : Nat) : Nat := scan isBl (ch T) e p
def crlf (T : Tx) (e : Nat) : Prop := e + 1 < T.length ∧ ch T e = 13 ∧ ch T (e + 1) = 10
def nextL (T : Tx) (e : Nat) : Nat := if T.length ≤ e then T.length + 1 else if e + 1 < T.length ∧ ch T e = 13 ∧ ch T (e + 1) = 10 then e + 2 else e + 1
def nx (T : Tx) (p : Nat) : Int32 := if T.length < p then -5 else nI p
def slR (T : Tx) (f : Nat) : Nat → Nat
  | 0 => 0
  | e + 1 => if e + 1 ≤ f then 0 else if ch T e = 92 then slR T f e + 1 else 0
def rg (f : Nat) : Nat → List Nat
  | 0 => []
  | k + 1 => rg f k ++ [f + k]
def lastL (T : Tx) (f e : Nat) : Nat := if slR T f e % 2 = 1 then e - 1 else e
def lineP (T : Tx) (f e : Nat) : List Nat := rg f (lastL T f e - f)
def contF (T : Tx) : Nat → Bool → Nat → List Nat → List Nat × Nat
  | 0, _, p, pl => (pl, p)
  | n + 1, b, p, pl => if b = false ∨ T.length < p then (pl, p) else contF T n (slR T (firstL T p (endL T p)) (endL T p) % 2 == 1) (nextL T (endL T p)) (pl ++ lineP T (firstL T p (endL T p)) (endL T p))
def skipL (T : Tx) (f e : Nat) : Prop := f = e ∨ ch T f = 35 ∨ ch T f = 33
def entF (T : Tx) (p : Nat) : List Nat × Nat :=
  if firstL T p (endL T p) = endL T p ∨ ch T (firstL T p (endL T p)) = 35 ∨ ch T (firstL T p (endL T p)) = 33 then ([], nextL T (endL T p)) else contF T (T.length + 2) (slR T (firstL T p (endL T p)) (endL T p) % 2 == 1) (nextL T (endL T p)) (lineP T (firstL T p (endL T p)) (endL T p))
theorem rg_len (f : Nat) : ∀ k, (rg f k).length = k
  | 0 => rfl
  | k + 1 => by rw [rg, List.length_append, rg_len f k]; rfl
theorem rg_mem {f : Nat} : ∀ {k x : Nat}, x ∈ rg f k → f ≤ x ∧ x < f + k
  | 0, x, h => absurd h (by simp [rg])
  | k + 1, x, h => by
    rcases List.mem_append.mp h with q | q
    · have := rg_mem q; omega
    · have := List.mem_singleton.mp q; omega
theorem slR_le {T : Tx} {f : Nat} : ∀ e, slR T f e ≤ e - f
  | 0 => Nat.zero_le _
  | e + 1 => by
    have := slR_le (T := T) (f := f) e
    rw [slR]
    split
    · omega
    · split <;> omega
theorem nextL_b {T : Tx} {e : Nat} (h : e ≤ T.length) : e < nextL T e ∧ nextL T e ≤ T.length + 1 := by
  unfold nextL; split
  · omega
  · split <;> omega
theorem lastL_b {T : Tx} {f e : Nat} (h : f ≤ e) : f ≤ lastL T f e ∧ lastL T f e ≤ e := by
  have := slR_le (T := T) (f := f) e
  unfold lastL; split <;> omega
/-- what reading may change -/
def mZ (M M' : RM) : Prop := ∀ k i, (k = 0 → i < 4) → k ≠ 11 → k ≠ 12 → (k = 1 → i < 1806 ∨ 2408 ≤ i) → M' k i = M k i
theorem mZ.rf {M : RM} : mZ M M := fun _ _ _ _ _ _ => rfl
theorem mZ.tr {M M1 M2 : RM} (h : mZ M M1) (h2 : mZ M1 M2) : mZ M M2 := fun k i a b c d => (h2 k i a b c d).trans (h k i a b c d)
theorem mZ.toA {M M' : RM} (h : mZ M M') : mA M M' := by
  intro k i q
  unfold scr at q
  exact h k i (by omega) (by omega) (by omega) (by omega)
theorem mZ.up0 {M0 M : RM} {i : Nat} {x : Int32} (h : mZ M0 M) (hi : 4 ≤ i) : mZ M0 (upR M 0 i x) := by
  intro k j a b c d
  by_cases q : k = 0
  · subst q
    have := a rfl
    rw [upR_0, if_neg (by omega)]; exact h 0 j a b c d
  · rw [upR_k _ _ _ q]; exact h k j a b c d
theorem mZ.up11 {M0 M : RM} {i : Nat} {x : Int32} (h : mZ M0 M) : mZ M0 (upR M 11 i x) := by
  intro k j a b c d
  rw [upR_k _ _ _ b]; exact h k j a b c d
theorem mZ.up12 {M0 M : RM} {i : Nat} {x : Int32} (h : mZ M0 M) : mZ M0 (upR M 12 i x) := by
  intro k j a b c d
  rw [upR_k _ _ _ c]; exact h k j a b c d
theorem mZ.of {M M' : RM} {a b : Nat} (h : mF M M' a b) (h1 : 1806 ≤ a) (h2 : b ≤ 2408) : mZ M M' := by
  intro k i p q r d
  refine h k i ?_
  by_cases hk : k = 1
  · have := d hk; omega
  · exact Or.inl hk
/-- of one line only the three numbers -/
def mL (M M' : RM) : Prop := ∀ k i, ¬ (k = 0 ∧ (i = 4 ∨ i = 5 ∨ i = 6)) → M' k i = M k i
theorem mL.rf {M : RM} : mL M M := fun _ _ _ => rfl
theorem mL.tr {M M1 M2 : RM} (h : mL M M1) (h2 : mL M1 M2) : mL M M2 := fun k i q => (h2 k i q).trans (h k i q)
theorem mL.toZ {M M' : RM} (h : mL M M') : mZ M M' := fun k i a _ _ _ => h k i (fun q => by have := a q.1; omega)
theorem mL.up {M0 M : RM} {i : Nat} {x : Int32} (h : mL M0 M) (hi : i = 4 ∨ i = 5 ∨ i = 6) : mL M0 (upR M 0 i x) := by
  intro k j q
  by_cases hk : k = 0
  · subst hk
    rw [upR_0, if_neg (by rintro rfl; exact q ⟨rfl, hi⟩)]; exact h 0 j q
  · rw [upR_k _ _ _ hk]; exact h k j q
def mTp (M : RM) (T : Tx) : Prop := T.length ≤ 300 ∧ (∀ c ∈ T, c < 127) ∧ M 0 0 = nI T.length ∧ ∀ j, j < T.length → M 4 j = nI (ch T j)
theorem rRep.tp {s : AS} {M : RM} (h : rRep s M) : mTp M (aTp s) := h.2.1
theorem mTp.congr {M M' : RM} {T : Tx} (h : mTp M T) (h0 : M' 0 0 = M 0 0) (h4 : ∀ j, M' 4 j = M 4 j) : mTp M' T := ⟨h.1, h.2.1, by rw [h0]; exact h.2.2.1, fun j hj => by rw [h4]; exact h.2.2.2 j hj⟩
theorem mTp.z {M M' : RM} {T : Tx} (h : mTp M T) (hz : mZ M M') : mTp M' T := h.congr (hz 0 0 (by omega) (by omega) (by omega) (by omega)) fun j => hz 4 j (by omega) (by omega) (by omega) (by omega)
theorem ch_lt {T : Tx} (h : ∀ c ∈ T, c < 127) (i : Nat) : ch T i < 127 := by
  unfold ch
  rw [List.getD_eq_getElem?_getD]
  cases q : T[i]? with
  | none => decide
  | some c => exact h c (List.mem_of_getElem? q)
theorem s_isBlank {post : Int32 → Prop} {c : Nat} (hc : c < 256) (h0 : isBl c = false → post 0) (h1 : isBl c = true → post 1) : q_isBlank post (nI c) := by
  rw [q_isBlank]
  have e : isBl c = (c == 32 || c == 9) := rfl
  refine ⟨fun z => h1 ?_, fun z => ⟨fun z2 => h0 ?_, fun z2 => h1 ?_⟩⟩
  · have := (nI_eq (b := 32) (by omega) (by decide)).mp z
    subst this; rfl
  · have a : c ≠ 32 := fun q => z (by subst q; rfl)
    have b : c ≠ 9 := fun q => z2 (by subst q; rfl)
    rw [e]; simp [a, b]
  · have := (nI_eq (b := 9) (by omega) (by decide)).mp z2
    subst this; rfl
theorem s_layLine_145 {post : RM → Prop} {M0 : RM} {T : Tx} {e : Nat} (he : e ≤ T.length)
    (hp : ∀ q M', mL M0 M' → M' 0 4 = nI q → (∀ i, i ≠ 4 → M' 0 i = M0 0 i) → (∃ p0, M0 0 4 = nI p0 ∧ p0 ≤ e ∧ q = firstL T p0 e) → post M') {p : Nat} (h04 : M0 0 4 = nI p) (hpe : p ≤ e) (h05 : M0 0 5 = nI e) (hT : mTp M0 T) : ∀ n q M, e < q + n → q ≤ e → firstL T q e = firstL T p e → mL M0 M → M 0 4 = nI q → (∀ i, i ≠ 4 → M 0 i = M0 0 i) → w_layLine_145 post n M := by
  have h300 := hT.1
  intro n
  induction n with
  | zero => intro q M h1 h2; omega
  | succ n ih =>
    intro q M h1 h2 h3 hF h4 hx
    have hT1 : mTp M T := hT.z hF.toZ
    rw [w_layLine_145, hx 5 (by decide), h05, h4]
    refine ⟨fun z => ?_, fun z => ?_⟩
    · have hge := (nI_leI (by omega) (by omega)).mp z
      refine hp q M hF h4 hx ⟨p, h04, hpe, ?_⟩
      rw [← h3]; exact (scan_ge hge).symm
    · have hlt : q < e := by
        rcases Nat.lt_or_ge q e with c | c
        · exact c
        · exact absurd (nI_le c (by omega)) z
      rw [nI_clamp (n := q) (by omega), hT1.2.2.2 q (by omega)]
      refine ⟨vp_in_nI (by omega) (by omega), s_isBlank (by have := ch_lt hT1.2.1 q; omega) (fun hb => ⟨fun _ => ?_, fun z => absurd rfl z⟩) (fun hb => ⟨fun z => absurd z (by decide), fun _ M29 e29 => ?_⟩)⟩
      · refine hp q M hF h4 hx ⟨p, h04, hpe, ?_⟩
        rw [← h3]
        have : firstL T q e = q := by
          show scan isBl (ch T) e q = q
          rw [scan_st hlt, if_neg (by rw [hb]; decide)]
        exact this.symm
      · rw [nI_1] at e29
        refine ih (q + 1) M29 (by omega) (by omega) ?_ (by rw [e29]; exact hF.up (by omega)) (by rw [e29, upR_at]) (fun i hi => by rw [e29, upR_0, if_neg hi]; exact hx i hi)
        rw [← h3]
        show scan isBl (ch T) e (q + 1) = scan isBl (ch T) e q
        rw [scan_st hlt, if_pos hb]
theorem s_layLine_105 {post : RM → Prop} {M0 M : RM} {T : Tx} {p e : Nat} {s0 : Int32} (hT : mTp M T) (hF : mL M0 M) (he : e ≤ T.length) (hpe : p ≤ e) (h5 : M 0 5 = nI e) (h0 : e < T.length → ((s0 = 0 → ¬ (e + 1 < T.length ∧ ch T e = 13 ∧ ch T (e + 1) = 10)) ∧ (¬ s0 = 0 → (e + 1 < T.length ∧ ch T e = 13 ∧ ch T (e + 1) = 10))))
    (hp : ∀ M', mL M0 M' → M' 0 4 = nI (firstL T p e) → M' 0 5 = nI e → M' 0 6 = nx T (nextL T e) → post M') : w_layLine_105 post (nI p) s0 M := by
  have h300 := hT.1
  have fin : ∀ (v : Int32) (M1 M2 : RM), v = nx T (nextL T e) → M1 = upR M 0 6 v → M2 = upR M1 0 4 (nI p) → ∃ n, w_layLine_145 post n M2 := by
    intro v M1 M2 hv e1 e2
    have f2 : mL M M2 := by rw [e2]; exact mL.up (by rw [e1]; exact mL.rf.up (by omega)) (by omega)
    have g4 : M2 0 4 = nI p := by rw [e2, upR_at]
    have g5 : M2 0 5 = nI e := by rw [e2, upR_0, if_neg (by decide), e1, upR_0, if_neg (by decide)]; exact h5
    have g6 : M2 0 6 = v := by rw [e2, upR_0, if_neg (by decide), e1, upR_at]
    refine ⟨e + 1, s_layLine_145 (M0 := M2) (T := T) he (fun q M' hf hq hx hq2 => ?_) g4 hpe g5 (hT.z f2.toZ) (e + 1) p M2 (by omega) hpe rfl mL.rf g4 (fun _ _ => rfl)⟩
    obtain ⟨p0, a, b, c⟩ := hq2
    have : p0 = p := by
      rw [g4] at a
      exact ((nI_eq (by omega) (by omega)).mp a).symm
    subst this
    exact hp M' (hF.tr (f2.tr hf)) (by rw [hq, c]) (by rw [hx 5 (by decide)]; exact g5) (by rw [hx 6 (by decide), g6]; exact hv)
  rw [w_layLine_105, h5, hT.2.2.1]
  refine ⟨fun z => ⟨fun z2 M16 e16 M17 e17 => fin _ M16 M17 ?_ e16 e17, fun z2 M19 e19 M20 e20 => fin _ M19 M20 ?_ e19 e20⟩, fun z M22 e22 M23 e23 => fin _ M22 M23 ?_ e22 e23⟩
  · have hlt : e < T.length := by
      rcases Nat.lt_or_ge e T.length with q | q
      · exact q
      · exact absurd (by rw [show e = T.length by omega]) z
    have hn : nextL T e = e + 1 := by unfold nextL; rw [if_neg (by omega), if_neg ((h0 hlt).1 z2)]
    rw [hn]; unfold nx
    rw [if_neg (by omega), nI_1]
  · have hlt : e < T.length := by
      rcases Nat.lt_or_ge e T.length with q | q
      · exact q
      · exact absurd (by rw [show e = T.length by omega]) z
    have hc := (h0 hlt).2 z2
    have hn : nextL T e = e + 2 := by unfold nextL; rw [if_neg (by omega), if_pos hc]
    rw [hn]; unfold nx
    rw [if_neg (by omega)]
    exact nI_add e 2
  · have := (nI_eq (by omega) (by omega)).mp z
    have hn : nextL T e = T.length + 1 := by unfold nextL; rw [if_pos (by omega)]
    rw [hn]; unfold nx
    rw [if_pos (by omega)]
theorem s_layLine {post : RM → Prop} {M : RM} {T : Tx} {p : Nat} (hT : mTp M T) (hpl : p ≤ T.length)
    (hp : ∀ M', mL M M' → M' 0 4 = nI (firstL T p (endL T p)) → M' 0 5 = nI (endL T p) → M' 0 6 = nx T (nextL T (endL T p)) → post M') : w_layLine post (nI p) M := by
  have h300 := hT.1
  have hb := scan_b (P := notEnd) (X := ch T) hpl
  have hb' : p ≤ endL T p ∧ endL T p ≤ T.length := hb
  have k105 : ∀ (s0 : Int32) (M1 : RM), mL M M1 → M1 0 5 = nI (endL T p) → (endL T p < T.length → ((s0 = 0 → ¬ (endL T p + 1 < T.length ∧ ch T (endL T p) = 13 ∧ ch T (endL T p + 1) = 10)) ∧ (¬ s0 = 0 → (endL T p + 1 < T.length ∧ ch T (endL T p) = 13 ∧ ch T (endL T p + 1) = 10)))) → w_layLine_105 post (nI p) s0 M1 :=
    fun s0 M1 hF h5 h0 => s_layLine_105 (hT.z hF.toZ) hF hb'.2 hb'.1 h5 h0 hp
  have k57 : ∀ M1, mL M M1 → M1 0 5 = nI (endL T p) → w_layLine_57 post (nI p) M1 := by
    intro M1 hF h5
    have hT1 := hT.z hF.toZ
    rw [w_layLine_57, h5, hT1.2.2.1, nI_1]
    have k104 : ¬ (endL T p + 1 < T.length ∧ ch T (endL T p) = 13 ∧ ch T (endL T p + 1) = 10) → w_layLine_104 post (nI p) M1 := fun h => by
      rw [w_layLine_104]
      exact k105 0 M1 hF h5 (fun _ => ⟨fun _ => h, fun z => absurd rfl z⟩)
    refine ⟨fun z => k104 (fun q => ?_), fun z => ?_⟩
    · have := (nI_leI (by omega) (by omega)).mp z
      omega
    · have hlt : endL T p + 1 < T.length := by
        rcases Nat.lt_or_ge (endL T p + 1) T.length with q | q
        · exact q
        · exact absurd (nI_le q (by omega)) z
      have c1 := ch_lt hT1.2.1 (endL T p)
      have c2 := ch_lt hT1.2.1 (endL T p + 1)
      rw [nI_clamp (n := endL T p) (by omega), nI_clamp (n := endL T p + 1) (by omega), hT1.2.2.2 _ (by omega), hT1.2.2.2 _ hlt]
      refine ⟨vp_in_nI (by omega) (by omega), fun z1 => k104 (fun q => z1 (by rw [q.2.1]; rfl)), fun z1 => ⟨vp_in_nI (by omega) (by omega), fun z2 => k104 (fun q => z2 (by rw [q.2.2]; rfl)), fun z2 => ?_⟩⟩
      have d1 := (nI_eq (b := 13) (by omega) (by decide)).mp z1
      have d2 := (nI_eq (b := 10) (by omega) (by decide)).mp z2
      exact k105 1 M1 hF h5 (fun _ => ⟨fun z => absurd z (by decide), fun _ => ⟨hlt, d1, d2⟩⟩)
  rw [w_layLine]
  intro M1 e1
  refine ⟨T.length + 1, ?_⟩
  have key : ∀ n q M1, T.length < q + n → q ≤ T.length → endL T q = endL T p → mL M M1 → M1 0 5 = nI q → w_layLine_5 post n (nI p) M1 := by
    intro n
    induction n with
    | zero => intro q M1 h1 h2; omega
    | succ n ih =>
      intro q M1 h1 h2 h3 hF h5
      have hT1 := hT.z hF.toZ
      rw [w_layLine_5, h5, hT1.2.2.1]
      refine ⟨fun z => ?_, fun z => ?_⟩
      · have hge := (nI_leI (by omega) (by omega)).mp z
        refine k57 M1 hF ?_
        have : endL T q = q := scan_ge hge
        rw [h5, ← h3, this]
      · have hlt : q < T.length := by
          rcases Nat.lt_or_ge q T.length with c | c
          · exact c
          · exact absurd (nI_le c (by omega)) z
        have hc := ch_lt hT1.2.1 q
        have hst : endL T q = if notEnd (ch T q) then endL T (q + 1) else q := scan_st hlt
        rw [nI_clamp (n := q) (by omega), hT1.2.2.2 q hlt]
        refine ⟨vp_in_nI (by omega) (by omega), fun z1 => ?_, fun z1 => ⟨vp_in_nI (by omega) (by omega), fun z2 => ?_, fun z2 M8 e8 => ?_⟩⟩
        · have := (nI_eq (b := 10) (by omega) (by decide)).mp z1
          refine k57 M1 hF ?_
          rw [h5, ← h3, hst, this]; rfl
        · have := (nI_eq (b := 13) (by omega) (by decide)).mp z2
          refine k57 M1 hF ?_
          rw [h5, ← h3, hst, this]; rfl
        · rw [nI_1] at e8
          have a : ch T q ≠ 10 := fun w => z1 (by rw [w]; rfl)
          have b : ch T q ≠ 13 := fun w => z2 (by rw [w]; rfl)
          refine ih (q + 1) M8 (by omega) (by omega) ?_ (by rw [e8]; exact hF.up (by omega)) (by rw [e8, upR_at])
          rw [← h3, hst, if_pos (by unfold notEnd; simp [a, b])]
  exact key _ p M1 (by omega) hpl rfl (by rw [e1]; exact mL.rf.up (by omega)) (by rw [e1, upR_at])
