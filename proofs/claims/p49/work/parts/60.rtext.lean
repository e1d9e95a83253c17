/-! PURE: texts in the reference's row of numbers -/
def tLat (t : List Nat) : Prop := t.length ≤ 300 ∧ ∀ c ∈ t, c < 256
def mT (M : RM) (a : Nat) (t : List Nat) : Prop := tLat t ∧ M 1 a = nI t.length ∧ ∀ j, j < t.length → M 1 (a + 1 + j) = nI (t.getD j 0)
def mO (M : RM) (a : Nat) (o : Option (List Nat)) : Prop := match o with
  | none => M 1 a = -5
  | some t => mT M a t
/-- only the numbers of the big row from a on, below b, differ -/
def mF (M M' : RM) (a b : Nat) : Prop := ∀ k i, (k ≠ 1 ∨ i < a ∨ b ≤ i) → M' k i = M k i
theorem mF.rf {M : RM} {a b : Nat} : mF M M a b := fun _ _ _ => rfl
theorem mF.tr {M M1 M2 : RM} {a b : Nat} (h : mF M M1 a b) (h2 : mF M1 M2 a b) : mF M M2 a b := fun k i q => (h2 k i q).trans (h k i q)
theorem mF.wide {M M1 : RM} {a b a' b' : Nat} (h : mF M M1 a b) (h1 : a' ≤ a) (h2 : b ≤ b') : mF M M1 a' b' := fun k i q => h k i (by omega)
theorem mF.tr2 {M M1 M2 : RM} {a b a' b' x y : Nat} (h : mF M M1 a b) (h2 : mF M1 M2 a' b') (h3 : x ≤ a ∧ b ≤ y) (h4 : x ≤ a' ∧ b' ≤ y) : mF M M2 x y := (h.wide h3.1 h3.2).tr (h2.wide h4.1 h4.2)
theorem mF.k {M M1 : RM} {a b : Nat} (h : mF M M1 a b) {k : Nat} (hk : k ≠ 1) : M1 k = M k := funext fun i => h k i (Or.inl hk)
theorem upR_1 (M : RM) (i j : Nat) (x : Int32) : upR M 1 i x 1 j = if j = i then x else M 1 j := rfl
theorem upR_k (M : RM) {k k' : Nat} (i : Nat) (x : Int32) (h : k' ≠ k) : upR M k i x k' = M k' := if_neg h
theorem mF.up {M0 M : RM} {a b i : Nat} (x : Int32) (h : mF M0 M a b) (h1 : a ≤ i) (h2 : i < b) : mF M0 (upR M 1 i x) a b := by
  intro k j q
  by_cases hk : k = 1
  · subst hk
    rw [upR_1, if_neg (by omega)]
    exact h 1 j q
  · rw [upR_k M i x hk]
    exact h k j q
theorem mT.frame {M M' : RM} {a x y : Nat} {t : List Nat} (h : mT M a t) (hf : mF M M' x y) (hd : a + 301 ≤ x ∨ y ≤ a) : mT M' a t := by
  obtain ⟨h1, h2, h3⟩ := h
  have h0 := h1.1
  refine ⟨h1, ?_, fun j hj => ?_⟩
  · rw [hf 1 a (by omega)]; exact h2
  · rw [hf 1 (a + 1 + j) (by omega)]; exact h3 j hj
theorem mO.frame {M M' : RM} {a x y : Nat} {o : Option (List Nat)} (h : mO M a o) (hf : mF M M' x y) (hd : a + 301 ≤ x ∨ y ≤ a) : mO M' a o := by
  cases o with
  | none => show M' 1 a = -5; rw [hf 1 a (by omega)]; exact h
  | some t => exact mT.frame h hf hd
theorem getD_lt256 {t : List Nat} (h : ∀ c ∈ t, c < 256) {j : Nat} (hj : j < t.length) : t.getD j 0 < 256 := by
  rw [List.getD_eq_getElem?_getD, List.getElem?_eq_getElem hj]
  exact h _ (List.getElem_mem hj)
/-! copyText -/
theorem s_copyText_14 {post : RM → Prop} {src dst : Nat} {t : List Nat} {M0 : RM} (ht : tLat t) (hs : src + 301 ≤ 321140) (hd : dst + 301 ≤ 321140) (hdis : src + 301 ≤ dst ∨ dst + 301 ≤ src)
    (hp : ∀ M', mT M' dst t → mF M0 M' dst (dst + 301) → post M') :
    ∀ (d j : Nat) (M : RM), j + d = t.length → mT M src t → M 1 dst = nI t.length → (∀ i, i < j → M 1 (dst + 1 + i) = nI (t.getD i 0)) → mF M0 M dst (dst + 301) → w_copyText_14 post (d + 1) (nI src) (nI dst) (nI (j + 1)) M := by
  have hl := ht.1
  have es : (nI src).toNatClampNeg = src := nI_clamp (by omega)
  intro d
  induction d with
  | zero =>
    intro j M hj hT hn hc hF
    rw [w_copyText_14]
    refine ⟨vp_in_nI (by omega) (by omega), ?_, ?_⟩
    · intro _
      exact hp M ⟨ht, hn, fun i hi => hc i (by omega)⟩ hF
    · intro h
      rw [es, hT.2.1] at h
      exact absurd (nI_lt (by omega) (by omega)) h
  | succ d ih =>
    intro j M hj hT hn hc hF
    have e1 : nI src + nI (j + 1) = nI (src + 1 + j) := by rw [nI_add]; congr 1; omega
    have e2 : nI dst + nI (j + 1) = nI (dst + 1 + j) := by rw [nI_add]; congr 1; omega
    have e3 : (nI (src + 1 + j)).toNatClampNeg = src + 1 + j := nI_clamp (by omega)
    have e4 : (nI (dst + 1 + j)).toNatClampNeg = dst + 1 + j := nI_clamp (by omega)
    rw [w_copyText_14]
    refine ⟨vp_in_nI (by omega) (by omega), ?_, ?_⟩
    · intro h
      rw [es, hT.2.1] at h
      exact absurd h (nI_nlt (by omega) (by omega))
    · intro _
      rw [e1, e2, e3, e4]
      refine ⟨vp_in_nI (by omega) (by omega), vp_in_nI (by omega) (by omega), ?_⟩
      intro M9 e9 v10 e10
      subst e9
      rw [e10, nI_1]
      have hv : M 1 (src + 1 + j) = nI (t.getD j 0) := hT.2.2 j (by omega)
      rw [hv]
      refine ih (j + 1) _ (by omega) (hT.frame (mF.up (a := dst) (b := dst + 301) _ mF.rf (by omega) (by omega)) (by omega)) ?_ ?_ (mF.up _ hF (by omega) (by omega))
      · rw [upR_1, if_neg (by omega)]; exact hn
      · intro i hi
        rw [upR_1]
        by_cases hij : i = j
        · subst hij; rw [if_pos rfl]
        · rw [if_neg (by omega)]; exact hc i (by omega)
theorem upR_same (M : RM) (i : Nat) : upR M 1 i (M 1 i) = M := by
  funext k j
  by_cases hk : k = 1
  · subst hk
    rw [upR_1]
    split
    · rename_i h; rw [h]
    · rfl
  · rw [upR_k M i _ hk]
theorem s_copySelf_14 {post : RM → Prop} {a : Nat} {t : List Nat} {M : RM} (hs : a + 301 ≤ 321140) (hT : mT M a t) (hp : post M) :
    ∀ (d j : Nat), j + d = t.length → w_copyText_14 post (d + 1) (nI a) (nI a) (nI (j + 1)) M := by
  have hl := hT.1.1
  have es : (nI a).toNatClampNeg = a := nI_clamp (by omega)
  intro d
  induction d with
  | zero =>
    intro j hj
    rw [w_copyText_14]
    refine ⟨vp_in_nI (by omega) (by omega), fun _ => hp, ?_⟩
    intro h
    rw [es, hT.2.1] at h
    exact absurd (nI_lt (by omega) (by omega)) h
  | succ d ih =>
    intro j hj
    have e1 : nI a + nI (j + 1) = nI (a + 1 + j) := by rw [nI_add]; congr 1; omega
    have e3 : (nI (a + 1 + j)).toNatClampNeg = a + 1 + j := nI_clamp (by omega)
    rw [w_copyText_14]
    refine ⟨vp_in_nI (by omega) (by omega), ?_, ?_⟩
    · intro h
      rw [es, hT.2.1] at h
      exact absurd h (nI_nlt (by omega) (by omega))
    · intro _
      rw [e1, e3]
      refine ⟨vp_in_nI (by omega) (by omega), vp_in_nI (by omega) (by omega), ?_⟩
      intro M9 e9 v10 e10
      subst e9
      rw [upR_same, e10, nI_1]
      exact ih (j + 1) (by omega)
/-- a text, or nothing, is copied from one place to another one, or to itself -/
theorem s_copyText {post : RM → Prop} {src dst : Nat} {o : Option (List Nat)} {M : RM} (ho : mO M src o) (hs : src + 301 ≤ 321140) (hd : dst + 301 ≤ 321140) (hdis : src + 301 ≤ dst ∨ dst + 301 ≤ src ∨ src = dst)
    (hp : ∀ M', mO M' dst o → mF M M' dst (dst + 301) → post M') : w_copyText post (nI src) (nI dst) M := by
  have es : (nI src).toNatClampNeg = src := nI_clamp (by omega)
  have ed : (nI dst).toNatClampNeg = dst := nI_clamp (by omega)
  rw [w_copyText, es, ed]
  refine ⟨vp_in_nI (by omega) (by omega), vp_in_nI (by omega) (by omega), ?_⟩
  intro M3 e3
  cases o with
  | none =>
    have ho' : M 1 src = -5 := ho
    have h3 : M3 1 src = -5 := by
      rw [e3, upR_1, ho']; split <;> rfl
    refine ⟨1, ?_⟩
    rw [w_copyText_14, es, h3]
    refine ⟨vp_in_nI (by omega) (by omega), fun _ => ?_, fun h => absurd (by decide) h⟩
    refine hp M3 ?_ ?_
    · show M3 1 dst = -5
      rw [e3, upR_1, if_pos rfl]; exact ho'
    · rw [e3]; exact mF.up _ mF.rf (by omega) (by omega)
  | some t =>
    have hT : mT M src t := ho
    have hl := hT.1.1
    refine ⟨t.length + 1, ?_⟩
    rcases hdis with h | h | h
    · subst e3
      refine s_copyText_14 hT.1 hs hd (Or.inl h) hp t.length 0 _ (by omega) (hT.frame (mF.up (a := dst) (b := dst + 301) _ mF.rf (by omega) (by omega)) (by omega)) ?_ (fun i hi => by omega) (mF.up _ mF.rf (by omega) (by omega))
      rw [upR_1, if_pos rfl]; exact hT.2.1
    · subst e3
      refine s_copyText_14 hT.1 hs hd (Or.inr h) hp t.length 0 _ (by omega) (hT.frame (mF.up (a := dst) (b := dst + 301) _ mF.rf (by omega) (by omega)) (by omega)) ?_ (fun i hi => by omega) (mF.up _ mF.rf (by omega) (by omega))
      rw [upR_1, if_pos rfl]; exact hT.2.1
    · subst h
      rw [upR_same] at e3
      subst e3
      exact s_copySelf_14 hs hT (hp M3 hT mF.rf) t.length 0 (by omega)
/-! addSign -/
theorem getD_app1 (t : List Nat) (c j : Nat) : (t ++ [c]).getD j 0 = if j < t.length then t.getD j 0 else if j = t.length then c else 0 := by
  simp only [List.getD_eq_getElem?_getD]
  by_cases h : j < t.length
  · rw [if_pos h, List.getElem?_append_left h]
  · rw [if_neg h, List.getElem?_append_right (by omega)]
    by_cases h2 : j = t.length
    · rw [if_pos h2, h2]; simp
    · rw [if_neg h2, List.getElem?_eq_none (by simp; omega)]; rfl
theorem tLat.snoc {t : List Nat} {c : Nat} (h : tLat t) (hl : t.length < 300) (hc : c < 256) : tLat (t ++ [c]) := by
  refine ⟨by simp; omega, fun x hx => ?_⟩
  rcases List.mem_append.mp hx with h1 | h1
  · exact h.2 x h1
  · rw [List.mem_singleton.mp h1]; exact hc
theorem s_addSign {post : RM → Prop} {a c : Nat} {t : List Nat} {M : RM} (hT : mT M a t) (ha : a + 301 ≤ 321140) (hl : t.length < 300) (hc : c < 256)
    (hp : ∀ M', mT M' a (t ++ [c]) → mF M M' a (a + 301) → post M') : w_addSign post (nI a) (nI c) M := by
  have ea : (nI a).toNatClampNeg = a := nI_clamp (by omega)
  rw [w_addSign, ea]
  refine ⟨vp_in_nI (by omega) (by omega), vp_in_nI (by omega) (by omega), ?_⟩
  intro M3 e3
  have h3 : M3 1 a = nI (t.length + 1) := by rw [e3, upR_1, if_pos rfl, hT.2.1, nI_1]
  have e4 : nI a + nI (t.length + 1) = nI (a + 1 + t.length) := by rw [nI_add]; congr 1; omega
  rw [h3, e4, nI_clamp (n := a + 1 + t.length) (by omega)]
  refine ⟨vp_in_nI (by omega) (by omega), vp_in_nI (by omega) (by omega), ?_⟩
  intro M6 e6
  subst e6 e3
  refine hp _ ⟨hT.1.snoc hl hc, ?_, fun j hj => ?_⟩ (mF.up _ (mF.up _ mF.rf (by omega) (by omega)) (by omega) (by omega))
  · rw [upR_1, if_neg (by omega), h3]; simp
  · have hj' : j < t.length + 1 := by simpa using hj
    rw [upR_1, getD_app1]
    by_cases h : j = t.length
    · subst h; rw [if_pos rfl, if_neg (by omega), if_pos rfl]
    · rw [if_neg (by omega), upR_1, if_neg (by omega), if_pos (by omega)]
      exact hT.2.2 j (by omega)
