/-! THE REFERENCE HOLDS an abstract state -/
def mTape (M : RM) (t : Tx) : Prop := t.length ≤ 300 ∧ (∀ c ∈ t, c < 127) ∧ M 0 0 = nI t.length ∧ ∀ j, j < t.length → M 4 j = nI (t.getD j 0)
def mLay (M : RM) (l : Nat) (L : Ly) : Prop := L.length ≤ 40 ∧ M 2 l = nI L.length ∧ ∀ e, e < L.length → mT M (8100 + 24080 * l + 602 * e) (L.getD e ([], [])).1 ∧ mT M (8100 + 24080 * l + 602 * e + 301) (L.getD e ([], [])).2
def mImg (M : RM) (i : Nat) (o : Option (Nat → Ly)) : Prop := match o with
  | none => M 3 i = 0
  | some f => M 3 i = 1 ∧ ∀ l, l < 4 → mLay M (4 * (i + 1) + l) (f l)
def mTok (M : RM) (i : Nat) (o : Option Tk) : Prop := match o with
  | none => M 6 i = 0
  | some (t, d, r, p) => M 6 i = 1 ∧ mT M (6930 + 301 * i) t ∧ (∀ c ∈ d, c < 256) ∧ (∀ c, c < 256 → M 1 (7540 + 256 * i + c) = if c ∈ d then 1 else 0) ∧ M 7 i = (if r then 1 else 0) ∧ M 8 i = nI p ∧ p ≤ t.length
def jnLen (j : Jn) : Nat := match j with
  | (_, pr, su, some e, _) => pr.length + e.length + su.length
  | (_, pr, su, none, none) => pr.length + su.length
  | (_, _, _, none, some t) => t.length
def mJoi (M : RM) (i : Nat) (o : Option Jn) : Prop := match o with
  | none => M 9 i = 0
  | some (d, pr, su, el, em) => M 9 i = 1 ∧ mT M (2408 + 1505 * i) d ∧ mT M (2408 + 1505 * i + 301) pr ∧ mT M (2408 + 1505 * i + 602) su ∧ mO M (2408 + 1505 * i + 903) em ∧ M 10 i = (if el.isSome then 1 else 0) ∧ mT M (2408 + 1505 * i + 1204) (el.getD []) ∧ pr.length + (el.getD []).length + su.length ≤ 300
def rRep (s : AS) (M : RM) : Prop := (∀ i, i < 6 → mO M (301 * i) (aSl s i)) ∧ mTape M (aTp s) ∧ (∀ j, j < 4 → mLay M j (aLy s j)) ∧ (∀ i, i < 2 → mImg M i (aIm s i)) ∧ (∀ i, i < 2 → mTok M i (aTk s i)) ∧ (∀ i, i < 3 → mJoi M i (aJn s i)) ∧ M 0 2 = aNp s ∧ M 0 3 = aNe s
/-- places that the reference uses for its own work alone -/
def scr (k i : Nat) : Prop := (k = 0 ∧ (i = 1 ∨ 4 ≤ i)) ∨ k = 5 ∨ 11 ≤ k ∨ (k = 1 ∧ ((1806 ≤ i ∧ i < 2408) ∨ 297060 ≤ i)) ∨ (k = 2 ∧ 12 ≤ i)
def mA (M M' : RM) : Prop := ∀ k i, ¬ scr k i → M' k i = M k i
theorem mA.rf {M : RM} : mA M M := fun _ _ _ => rfl
theorem mA.tr {M M1 M2 : RM} (h : mA M M1) (h2 : mA M1 M2) : mA M M2 := fun k i q => (h2 k i q).trans (h k i q)
theorem mA.up {M0 M : RM} {k i : Nat} {x : Int32} (h : mA M0 M) (hs : scr k i) : mA M0 (upR M k i x) := by
  intro k' i' q
  by_cases hk : k' = k
  · subst hk
    have hi : i' ≠ i := fun z => q (z ▸ hs)
    rw [upR_self]
    exact (if_neg hi).trans (h _ _ q)
  · rw [upR_k M i x hk]
    exact h k' i' q
theorem mA.of {M M' : RM} {a b : Nat} (h : mF M M' a b) (hs : ∀ i, a ≤ i → i < b → scr 1 i) : mA M M' := by
  intro k i q
  refine h k i ?_
  by_cases hk : k = 1
  · subst hk
    rcases Nat.lt_or_ge i a with h1 | h1
    · exact Or.inr (Or.inl h1)
    · rcases Nat.lt_or_ge i b with h2 | h2
      · exact absurd (hs i h1 h2) q
      · exact Or.inr (Or.inr h2)
  · exact Or.inl hk
theorem nscr1 {i : Nat} (h : i < 1806 ∨ (2408 ≤ i ∧ i < 297060)) : ¬ scr 1 i := by
  unfold scr; omega
theorem mT.congr {M M' : RM} {a : Nat} {t : Tx} (h : mT M a t) (he : ∀ i, a ≤ i → i < a + 301 → M' 1 i = M 1 i) : mT M' a t := by
  obtain ⟨h1, h2, h3⟩ := h
  have h0 := h1.1
  exact ⟨h1, by rw [he a (by omega) (by omega)]; exact h2, fun j hj => by rw [he (a + 1 + j) (by omega) (by omega)]; exact h3 j hj⟩
theorem mO.congr {M M' : RM} {a : Nat} {o : Option Tx} (h : mO M a o) (he : ∀ i, a ≤ i → i < a + 301 → M' 1 i = M 1 i) : mO M' a o := by
  cases o with
  | none => show M' 1 a = -5; rw [he a (by omega) (by omega)]; exact h
  | some t => exact mT.congr h he
theorem mTape.congr {M M' : RM} {t : Tx} (h : mTape M t) (h0 : M' 0 0 = M 0 0) (h4 : ∀ j, M' 4 j = M 4 j) : mTape M' t :=
  ⟨h.1, h.2.1, by rw [h0]; exact h.2.2.1, fun j hj => by rw [h4]; exact h.2.2.2 j hj⟩
theorem mLay.congr {M M' : RM} {l : Nat} {L : Ly} (h : mLay M l L) (h2 : M' 2 l = M 2 l) (h1 : ∀ i, 8100 + 24080 * l ≤ i → i < 8100 + 24080 * l + 24080 → M' 1 i = M 1 i) : mLay M' l L := by
  obtain ⟨a, b, c⟩ := h
  refine ⟨a, by rw [h2]; exact b, fun e he => ?_⟩
  obtain ⟨c1, c2⟩ := c e he
  exact ⟨c1.congr fun i q1 q2 => h1 i (by omega) (by omega), c2.congr fun i q1 q2 => h1 i (by omega) (by omega)⟩
set_option maxRecDepth 8000 in
theorem mImg.congr {M M' : RM} {i : Nat} {o : Option (Nat → Ly)} (h : mImg M i o) (h3 : M' 3 i = M 3 i) (h2 : ∀ l, l < 4 → M' 2 (4 * (i + 1) + l) = M 2 (4 * (i + 1) + l)) (h1 : ∀ j, 8100 + 24080 * (4 * (i + 1)) ≤ j → j < 8100 + 24080 * (4 * (i + 1)) + 96320 → M' 1 j = M 1 j) : mImg M' i o := by
  cases o with
  | none => show M' 3 i = 0; rw [h3]; exact h
  | some f =>
    obtain ⟨a, b⟩ := h
    exact ⟨by rw [h3]; exact a, fun l hl => (b l hl).congr (h2 l hl) (fun j q1 q2 => h1 j (Nat.le_trans (by omega) q1) (Nat.lt_of_lt_of_le q2 (by omega)))⟩
theorem mTok.congr {M M' : RM} {i : Nat} {o : Option Tk} (h : mTok M i o) (hk : ∀ k, k = 6 ∨ k = 7 ∨ k = 8 → M' k i = M k i) (ht : ∀ j, 6930 + 301 * i ≤ j → j < 6930 + 301 * i + 301 → M' 1 j = M 1 j) (hd : ∀ j, 7540 + 256 * i ≤ j → j < 7540 + 256 * i + 256 → M' 1 j = M 1 j) : mTok M' i o := by
  match o, h with
  | none, h => show M' 6 i = 0; rw [hk 6 (by omega)]; exact h
  | some (t, d, r, p), h =>
    obtain ⟨a, b, c, e, f, g, q⟩ := h
    exact ⟨by rw [hk 6 (by omega)]; exact a, b.congr ht, c, fun x hx => by rw [hd _ (by omega) (by omega)]; exact e x hx, by rw [hk 7 (by omega)]; exact f, by rw [hk 8 (by omega)]; exact g, q⟩
theorem mJoi.congr {M M' : RM} {i : Nat} {o : Option Jn} (h : mJoi M i o) (hk : ∀ k, k = 9 ∨ k = 10 → M' k i = M k i) (h1 : ∀ j, 2408 + 1505 * i ≤ j → j < 2408 + 1505 * i + 1505 → M' 1 j = M 1 j) : mJoi M' i o := by
  match o, h with
  | none, h => show M' 9 i = 0; rw [hk 9 (by omega)]; exact h
  | some (d, pr, su, el, em), h =>
    obtain ⟨a, b1, b2, b3, b4, c, b5, z⟩ := h
    exact ⟨by rw [hk 9 (by omega)]; exact a, b1.congr fun j q1 q2 => h1 j (by omega) (by omega), b2.congr fun j q1 q2 => h1 j (by omega) (by omega), b3.congr fun j q1 q2 => h1 j (by omega) (by omega), b4.congr fun j q1 q2 => h1 j (by omega) (by omega), by rw [hk 10 (by omega)]; exact c, b5.congr fun j q1 q2 => h1 j (by omega) (by omega), z⟩
theorem rRep.still {s : AS} {M M' : RM} (h : rRep s M) (ha : mA M M') : rRep s M' := by
  obtain ⟨h1, h2, h3, h4, h5, h6, h7, h8⟩ := h
  have n1 : ∀ i, (i < 1806 ∨ (2408 ≤ i ∧ i < 297060)) → M' 1 i = M 1 i := fun i q => ha 1 i (nscr1 q)
  have nk : ∀ k i, (k = 2 ∧ i < 12) ∨ k = 3 ∨ k = 4 ∨ (6 ≤ k ∧ k ≤ 10) ∨ (k = 0 ∧ (i = 0 ∨ i = 2 ∨ i = 3)) → M' k i = M k i := fun k i q => ha k i (by unfold scr; omega)
  refine ⟨fun i hi => (h1 i hi).congr fun j q1 q2 => n1 j (by omega), h2.congr (nk 0 0 (by omega)) fun j => nk 4 j (by omega), fun j hj => (h3 j hj).congr (nk 2 j (by omega)) fun i q1 q2 => n1 i (by omega), fun i hi => (h4 i hi).congr (nk 3 i (by omega)) (fun l hl => nk 2 _ (by omega)) fun j q1 q2 => n1 j (by omega), fun i hi => (h5 i hi).congr (fun k q => nk k i (by omega)) (fun j q1 q2 => n1 j (by omega)) fun j q1 q2 => n1 j (by omega), fun i hi => (h6 i hi).congr (fun k q => nk k i (by omega)) fun j q1 q2 => n1 j (by omega), by rw [nk 0 2 (by omega)]; exact h7, by rw [nk 0 3 (by omega)]; exact h8⟩
/-- a slot gets a text, or nothing -/
theorem rRep.slot {s : AS} {M M' : RM} {i : Nat} {v : Option Tx} (h : rRep s M) (hi : i < 6) (hF : mF M M' (301 * i) (301 * i + 301)) (hv : mO M' (301 * i) v) : rRep (sSl s i v) M' := by
  obtain ⟨h1, h2, h3, h4, h5, h6, h7, h8⟩ := h
  have n1 : ∀ j, (j < 301 * i ∨ 301 * i + 301 ≤ j) → M' 1 j = M 1 j := fun j q => hF 1 j (by omega)
  have nk : ∀ k j, k ≠ 1 → M' k j = M k j := fun k j q => hF k j (Or.inl q)
  refine ⟨fun j hj => ?_, h2.congr (nk 0 0 (by omega)) fun j => nk 4 j (by omega), fun j hj => (h3 j hj).congr (nk 2 j (by omega)) fun z q1 q2 => n1 z (by omega), fun j hj => (h4 j hj).congr (nk 3 j (by omega)) (fun l hl => nk 2 _ (by omega)) fun z q1 q2 => n1 z (by omega), fun j hj => (h5 j hj).congr (fun k q => nk k j (by omega)) (fun z q1 q2 => n1 z (by omega)) fun z q1 q2 => n1 z (by omega), fun j hj => (h6 j hj).congr (fun k q => nk k j (by omega)) fun z q1 q2 => n1 z (by omega), by rw [nk 0 2 (by omega)]; exact h7, by rw [nk 0 3 (by omega)]; exact h8⟩
  show mO M' (301 * j) (va_up (aSl s) i v j)
  by_cases hji : j = i
  · subst hji; rw [va_up_self]; exact hv
  · rw [va_up_ne _ _ hji]
    exact (h1 j hj).congr fun z q1 q2 => n1 z (by omega)
/-! its small functions -/
theorem s_at {post : Int32 → Prop} {i : Nat} (h : post (nI (301 * i))) : q_at post (nI i) := by
  rw [q_at, show (301 : Int32) * nI i = nI (301 * i) from pk_mul 301 i]
  exact h
theorem s_isSlot {post : Int32 → Prop} (x : Int32) (h0 : ixO x 6 = none → post 0) (h1 : ∀ i, i < 6 → x = nI i → ixO x 6 = some i → post 1) : q_isSlot post x := by
  rw [q_isSlot]
  rcases ixO_cases x (n := 6) (by omega) with ⟨e, h⟩ | ⟨i, hi, rfl, e⟩
  · rcases h with h | h
    · exact ⟨fun _ => h0 e, fun z => absurd h z⟩
    · exact ⟨fun _ => h0 e, fun _ => ⟨fun _ => h0 e, fun z => absurd h z⟩⟩
  · exact ⟨fun z => absurd z (nI_pos (by omega)), fun _ => ⟨fun z => absurd z (nI_ge (b := 6) hi (by decide)), fun _ => h1 i hi rfl e⟩⟩
theorem mO.neg {M : RM} {a : Nat} {o : Option Tx} (h : mO M a o) : (0 ≤ M 1 a ↔ o ≠ none) := by
  cases o with
  | none =>
    have h' : M 1 a = -5 := h
    rw [h']
    exact ⟨fun z => absurd z (by decide), fun z => absurd rfl z⟩
  | some t =>
    have h0 := h.1.1
    rw [h.2.1]
    exact ⟨fun _ => (by simp), fun _ => nI_pos' (by omega)⟩
theorem s_hasNothing {post : Int32 → RM → Prop} {M : RM} {i : Nat} {o : Option Tx} (ho : mO M (301 * i) o) (hi : i < 6) (h0 : ∀ t, o = some t → post 0 M) (h1 : o = none → post 1 M) : w_hasNothing post (nI i) M := by
  rw [w_hasNothing]
  refine s_at ⟨vp_in_nI (by omega) (by omega), ?_, ?_⟩
  · intro z
    rw [nI_clamp (by omega)] at z
    have := ho.neg.mp z
    cases o with
    | none => exact absurd rfl this
    | some t => exact h0 t rfl
  · intro z
    rw [nI_clamp (by omega)] at z
    cases o with
    | none => exact h1 rfl
    | some t => exact absurd (ho.neg.mpr (by simp)) z
