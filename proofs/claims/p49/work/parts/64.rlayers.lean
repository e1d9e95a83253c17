/-! layers: where a key stands, and what becomes of a layer -/
def placeF : Ly → Tx → Nat
  | [], _ => 0
  | p :: L, k => if cmpT p.1 k < 0 then placeF L k + 1 else 0
def findF (L : Ly) (k : Tx) : Option Nat := if placeF L k < L.length ∧ (L.getD (placeF L k) ([], [])).1 = k then some (placeF L k) else none
def valF (L : Ly) (k : Tx) : Option Tx := match findF L k with
  | none => none
  | some p => some (L.getD p ([], [])).2
def putF (L : Ly) (k v : Tx) : Ly := match findF L k with
  | some p => L.set p (k, v)
  | none => L.take (placeF L k) ++ (k, v) :: L.drop (placeF L k)
def fullF (L : Ly) (k : Tx) : Prop := findF L k = none ∧ 40 ≤ L.length
theorem placeF_le : ∀ (L : Ly) (k : Tx), placeF L k ≤ L.length
  | [], _ => Nat.le_refl _
  | p :: L, k => by
    rw [placeF]
    split
    · have := placeF_le L k; simp; exact this
    · exact Nat.zero_le _
theorem findF_lt {L : Ly} {k : Tx} {p : Nat} (h : findF L k = some p) : p < L.length ∧ p = placeF L k ∧ (L.getD p ([], [])).1 = k := by
  unfold findF at h
  split at h
  · rename_i q
    obtain rfl := Option.some.inj h
    exact ⟨q.1, rfl, q.2⟩
  · cases h
theorem dropL {L : Ly} {e : Nat} (h : e < L.length) : L.drop e = L.getD e ([], []) :: L.drop (e + 1) := by
  rw [List.drop_eq_getElem_cons h, List.getD_eq_getElem?_getD, List.getElem?_eq_getElem h]; rfl
theorem putF_length (L : Ly) (k v : Tx) : (putF L k v).length = if findF L k = none then L.length + 1 else L.length := by
  unfold putF
  cases h : findF L k with
  | none =>
    have := placeF_le L k
    simp
    omega
  | some p => simp
abbrev eA (l e : Nat) : Nat := 8100 + 24080 * l + 602 * e
theorem q_ent {post : Int32 → Prop} {l e : Nat} (h : post (nI (eA l e))) : q_entryOf post (nI l) (nI e) := by
  rw [q_entryOf, show (24080 : Int32) * nI l = nI (24080 * l) from pk_mul 24080 l, show (602 : Int32) * nI e = nI (602 * e) from pk_mul 602 e, show (8100 : Int32) + nI (24080 * l) = nI (8100 + 24080 * l) from nI_add 8100 _, nI_add]
  exact h
theorem q_val {post : Int32 → Prop} {l e : Nat} (h : post (nI (eA l e + 301))) : q_valueOf post (nI l) (nI e) := by
  rw [q_valueOf]
  refine q_ent ?_
  rw [show nI (eA l e) + (301 : Int32) = nI (eA l e + 301) from nI_add _ 301]
  exact h
def mE (M : RM) (l e : Nat) (p : Tx × Tx) : Prop := mT M (eA l e) p.1 ∧ mT M (eA l e + 301) p.2
theorem mLay.e {M : RM} {l e : Nat} {L : Ly} (h : mLay M l L) (he : e < L.length) : mE M l e (L.getD e ([], [])) := h.2.2 e he
theorem neg_iff {r : Int32} {z : Int} (h : r.toInt = z) : (0 ≤ r ↔ ¬ z < 0) := by
  have e0 : (0 : Int32).toInt = 0 := by decide
  rw [Int32.le_iff_toInt_le, h, e0]
  omega
theorem s_placeOf {post : Int32 → RM → Prop} {M : RM} {l ka : Nat} {L : Ly} {k : Tx} (hL : mLay M l L) (hl : l < 13) (hk : mT M ka k) (hka : ka + 301 ≤ 321140) (hp : post (nI (placeF L k)) M) : w_placeOf post (nI l) (nI ka) M := by
  have h40 := hL.1
  have key : ∀ (d e : Nat), e + d = L.length → placeF (L.drop e) k + e = placeF L k → w_placeOf_2 post (d + 1) (nI l) (nI ka) (nI e) M := by
    intro d
    induction d with
    | zero =>
      intro e he hc
      rw [w_placeOf_2, nI_clamp (n := l) (by omega), hL.2.1]
      refine ⟨vp_in_nI hl (by omega), fun _ => ?_, fun z => absurd (nI_le (by omega) (by omega)) z⟩
      rw [List.drop_eq_nil_of_le (by omega), placeF, Nat.zero_add] at hc
      rw [hc]; exact hp
    | succ d ih =>
      intro e he hc
      have he' : e < L.length := by omega
      rw [w_placeOf_2, nI_clamp (n := l) (by omega), hL.2.1]
      refine ⟨vp_in_nI hl (by omega), fun z => absurd z (nI_ge he' (by omega)), fun _ => q_ent (s_compare (hL.e he').1 hk (by show 8100 + 24080 * l + 602 * e + 301 ≤ _; omega) hka (fun r hr => ⟨fun z => ?_, fun z => ?_⟩))⟩
      · have hz := (neg_iff hr).mp z
        rw [dropL he', placeF, if_neg hz, Nat.zero_add] at hc
        rw [hc]; exact hp
      · have hz : cmpT (L.getD e ([], [])).1 k < 0 := by
          by_cases q : cmpT (L.getD e ([], [])).1 k < 0
          · exact q
          · exact absurd ((neg_iff hr).mpr q) z
        intro v8 e8
        rw [e8, nI_1]
        refine ih (e + 1) (by omega) ?_
        rw [dropL he', placeF, if_pos hz] at hc
        omega
  rw [w_placeOf]
  exact ⟨L.length + 1, key L.length 0 (by omega) rfl⟩
def fI (o : Option Nat) : Int32 := match o with
  | none => -5
  | some p => nI p
theorem s_find {post : Int32 → RM → Prop} {M : RM} {l ka : Nat} {L : Ly} {k : Tx} (hL : mLay M l L) (hl : l < 13) (hk : mT M ka k) (hka : ka + 301 ≤ 321140) (hp : post (fI (findF L k)) M) : w_find post (nI l) (nI ka) M := by
  have h40 := hL.1
  have hle := placeF_le L k
  rw [w_find]
  refine s_placeOf hL hl hk hka ⟨vp_in_nI hl (by omega), ?_, ?_⟩
  · rw [nI_clamp (n := l) (by omega), hL.2.1]
    intro z
    have hz := (nI_leI (by omega) (by omega)).mp z
    unfold findF at hp
    rw [if_neg (by omega)] at hp
    exact hp
  · rw [nI_clamp (n := l) (by omega), hL.2.1]
    intro z
    have hz : placeF L k < L.length := by
      rcases Nat.lt_or_ge (placeF L k) L.length with q | q
      · exact q
      · exact absurd (nI_le q (by omega)) z
    refine q_ent (s_compare (hL.e hz).1 hk (by show 8100 + 24080 * l + 602 * _ + 301 ≤ _; omega) hka (fun r hr => ⟨fun z => ?_, fun z => ?_⟩))
    · have hne : ¬ (L.getD (placeF L k) ([], [])).1 = k := fun q => z (toInt0.mpr (by rw [hr]; exact cmpT_eq.mpr q))
      unfold findF at hp
      rw [if_neg (fun q => hne q.2)] at hp
      exact hp
    · have heq : (L.getD (placeF L k) ([], [])).1 = k := cmpT_eq.mp (by rw [← hr]; exact toInt0.mp z)
      unfold findF at hp
      rw [if_pos ⟨hz, heq⟩] at hp
      exact hp
theorem fI_none {o : Option Nat} (h : ∀ p, o = some p → p < 2 ^ 30) : fI o = -5 ↔ o = none := by
  cases o with
  | none => exact ⟨fun _ => rfl, fun _ => rfl⟩
  | some p =>
    refine ⟨fun z => ?_, fun z => by cases z⟩
    have h1 : (nI p).toInt = p := nI_toInt (by have := h p rfl; omega)
    have h2 : (nI p).toInt = (-5 : Int32).toInt := by rw [show nI p = -5 from z]
    have h3 : (-5 : Int32).toInt = -5 := by decide
    omega
theorem mE.frame {M M' : RM} {l e x y : Nat} {p : Tx × Tx} (h : mE M l e p) (hf : mF M M' x y) (hd : eA l e + 602 ≤ x ∨ y ≤ eA l e) : mE M' l e p := ⟨h.1.frame hf (by omega), h.2.frame hf (by omega)⟩
theorem s_copyEntry {post : RM → Prop} {M : RM} {l i j : Nat} {p : Tx × Tx} (h : mE M l i p) (hl : l < 13) (hi : i < 40) (hj : j < 40) (hij : i ≠ j) (hp : ∀ M', mE M' l j p → mF M M' (eA l j) (eA l j + 602) → post M') : w_copyEntry post (nI l) (nI i) (nI j) M := by
  have d1 : eA l i + 602 ≤ eA l j ∨ eA l j + 602 ≤ eA l i := by show 8100 + 24080 * l + 602 * i + 602 ≤ 8100 + 24080 * l + 602 * j ∨ 8100 + 24080 * l + 602 * j + 602 ≤ 8100 + 24080 * l + 602 * i; omega
  have b1 : eA l i + 602 ≤ 321140 := by show 8100 + 24080 * l + 602 * i + 602 ≤ _; omega
  have b2 : eA l j + 602 ≤ 321140 := by show 8100 + 24080 * l + 602 * j + 602 ≤ _; omega
  rw [w_copyEntry]
  refine q_ent (q_ent (s_copyText (o := some p.1) h.1 (by omega) (by omega) (by omega) (fun M3 h3 f3 => q_val (q_val ?_))))
  have hv : mT M3 (eA l i + 301) p.2 := h.2.frame f3 (by omega)
  refine s_copyText (o := some p.2) hv (by omega) (by omega) (by omega) (fun M6 h6 f6 => hp M6 ⟨mT.frame h3 f6 (by omega), h6⟩ (mF.tr2 f3 f6 (by omega) (by omega)))
/-- only the layer l differs -/
def mC (M M' : RM) (l : Nat) : Prop := ∀ k i, (k = 2 → i ≠ l) → (k = 1 → i < 8100 + 24080 * l ∨ 8100 + 24080 * l + 24080 ≤ i) → M' k i = M k i
theorem mC.rf {M : RM} {l : Nat} : mC M M l := fun _ _ _ _ => rfl
theorem mC.tr {M M1 M2 : RM} {l : Nat} (h : mC M M1 l) (h2 : mC M1 M2 l) : mC M M2 l := fun k i a b => (h2 k i a b).trans (h k i a b)
theorem mC.of {M M' : RM} {l a b : Nat} (h : mF M M' a b) (h1 : 8100 + 24080 * l ≤ a) (h2 : b ≤ 8100 + 24080 * l + 24080) : mC M M' l := by
  intro k i q1 q2
  refine h k i ?_
  by_cases hk : k = 1
  · have := q2 hk; omega
  · exact Or.inl hk
theorem upR_2 (M : RM) (i j : Nat) (x : Int32) : upR M 2 i x 2 j = if j = i then x else M 2 j := rfl
theorem mC.up (M : RM) (l : Nat) (x : Int32) : mC M (upR M 2 l x) l := by
  intro k i q1 q2
  by_cases hk : k = 2
  · subst hk; rw [upR_2, if_neg (q1 rfl)]
  · rw [upR_k M _ _ hk]
theorem mT.other {M M' : RM} {l a : Nat} {t : Tx} (h : mT M a t) (hc : mC M M' l) (hd : a + 301 ≤ 8100 + 24080 * l ∨ 8100 + 24080 * l + 24080 ≤ a) : mT M' a t :=
  h.congr fun i q1 q2 => hc 1 i (by omega) (fun _ => by omega)
theorem mLay.other {M M' : RM} {l l' : Nat} {L : Ly} (h : mLay M l' L) (hc : mC M M' l) (hne : l' ≠ l) : mLay M' l' L := by
  refine h.congr (hc 2 l' (fun _ => hne) (by omega)) (fun i q1 q2 => hc 1 i (by omega) (fun _ => ?_))
  rcases Nat.lt_or_ge l' l with q | q
  · have : 24080 * (l' + 1) ≤ 24080 * l := Nat.mul_le_mul_left _ q
    omega
  · have : 24080 * (l + 1) ≤ 24080 * l' := Nat.mul_le_mul_left _ (by omega)
    omega
theorem mE.up2 {M : RM} {l e j : Nat} {x : Int32} {p : Tx × Tx} (h : mE M l e p) : mE (upR M 2 j x) l e p :=
  ⟨h.1.congr fun i _ _ => by rw [upR_k M _ _ (by omega)], h.2.congr fun i _ _ => by rw [upR_k M _ _ (by omega)]⟩
theorem getD_ins (L : Ly) (x : Tx × Tx) (p e : Nat) (hp : p ≤ L.length) : (L.take p ++ x :: L.drop p).getD e ([], []) = if e < p then L.getD e ([], []) else if e = p then x else L.getD (e - 1) ([], []) := by
  have hl : (L.take p).length = p := by simp; omega
  simp only [List.getD_eq_getElem?_getD]
  by_cases h : e < p
  · rw [if_pos h, List.getElem?_append_left (by omega), List.getElem?_take, if_pos h]
  · rw [if_neg h, List.getElem?_append_right (by omega), hl]
    by_cases h2 : e = p
    · rw [if_pos h2, h2, Nat.sub_self]; rfl
    · rw [if_neg h2, show e - p = (e - p - 1) + 1 by omega, List.getElem?_cons_succ, List.getElem?_drop, show p + (e - p - 1) = e - 1 by omega]
theorem getD_set (L : Ly) (x : Tx × Tx) (p e : Nat) (hp : p < L.length) : (L.set p x).getD e ([], []) = if e = p then x else L.getD e ([], []) := by
  simp only [List.getD_eq_getElem?_getD]
  by_cases h : e = p
  · rw [if_pos h, h, List.getElem?_set_self hp]; rfl
  · rw [if_neg h, List.getElem?_set_ne (Ne.symm h)]
theorem s_put_102 {post : Int32 → RM → Prop} {M : RM} {l va e : Nat} {v : Tx} (hv : mT M va v) (hva : va + 301 ≤ 8100 + 24080 * l ∨ 8100 + 24080 * l + 24080 ≤ va) (hvb : va + 301 ≤ 321140) (hl : l < 13) (he : e < 40) (hp : ∀ M', mT M' (eA l e + 301) v → mF M M' (eA l e + 301) (eA l e + 602) → post 1 M') : w_put_102 post (nI l) (nI va) (nI e) M := by
  have b2 : eA l e + 602 ≤ 321140 ∧ 8100 + 24080 * l ≤ eA l e ∧ eA l e + 602 ≤ 8100 + 24080 * l + 24080 := by show 8100 + 24080 * l + 602 * e + 602 ≤ _ ∧ 8100 + 24080 * l ≤ 8100 + 24080 * l + 602 * e ∧ 8100 + 24080 * l + 602 * e + 602 ≤ _; omega
  rw [w_put_102]
  exact q_val (s_copyText (o := some v) hv hvb (by omega) (by omega) (fun M' h' f' => hp M' h' f'))
theorem s_put {post : Int32 → RM → Prop} {M : RM} {l ka va : Nat} {L : Ly} {k v : Tx} (hL : mLay M l L) (hl : l < 13) (hk : mT M ka k) (hv : mT M va v)
    (hka : ka + 301 ≤ 8100 + 24080 * l ∨ 8100 + 24080 * l + 24080 ≤ ka) (hkb : ka + 301 ≤ 321140) (hva : va + 301 ≤ 8100 + 24080 * l ∨ 8100 + 24080 * l + 24080 ≤ va) (hvb : va + 301 ≤ 321140)
    (h0 : fullF L k → post 0 M) (h1 : ¬ fullF L k → ∀ M', mLay M' l (putF L k v) → mC M M' l → post 1 M') : w_put post (nI l) (nI ka) (nI va) M := by
  have h40 := hL.1
  have hle := placeF_le L k
  have eb : ∀ e, e < 40 → eA l e + 602 ≤ 321140 ∧ 8100 + 24080 * l ≤ eA l e ∧ eA l e + 602 ≤ 8100 + 24080 * l + 24080 := by
    intro e he
    show 8100 + 24080 * l + 602 * e + 602 ≤ _ ∧ 8100 + 24080 * l ≤ 8100 + 24080 * l + 602 * e ∧ 8100 + 24080 * l + 602 * e + 602 ≤ _
    omega
  rw [w_put]
  refine s_placeOf hL hl hk hkb (s_find hL hl hk hkb ?_)
  cases hf : findF L k with
  | some p =>
    obtain ⟨hp1, hp2, hp3⟩ := findF_lt hf
    have hne : ¬ fI (some p) = -5 := fun z => by
      have := (fI_none (o := some p) (fun q hq => by obtain rfl := Option.some.inj hq; omega)).mp z
      cases this
    refine ⟨fun z => absurd z hne, fun _ => ?_⟩
    rw [w_put_24]
    refine ⟨fun _ => ?_, fun z => absurd z (by decide)⟩
    rw [w_put_44]
    refine ⟨fun _ => ?_, fun z => absurd z (by decide)⟩
    rw [← hp2]
    refine s_put_102 hv hva hvb hl (by omega) (fun M' h' f' => h1 (fun q => by rw [q.1] at hf; cases hf) M' ?_ (mC.of f' (by have := eb p (by omega); omega) (by have := eb p (by omega); omega)))
    have hpf : putF L k v = L.set p (k, v) := by unfold putF; rw [hf]
    rw [hpf]
    refine ⟨by simp; exact h40, ?_, fun e he => ?_⟩
    · rw [f' 2 l (by omega), hL.2.1]; simp
    · have he' : e < L.length := by simpa using he
      rw [getD_set L _ p e hp1]
      by_cases hep : e = p
      · subst hep
        rw [if_pos rfl]
        refine ⟨?_, h'⟩
        have := (hL.e he').1
        rw [hp3] at this
        exact this.frame f' (by omega)
      · rw [if_neg hep]
        have hE := hL.e he'
        have d : eA l e + 602 ≤ eA l p ∨ eA l p + 602 ≤ eA l e := by show 8100 + 24080 * l + 602 * e + 602 ≤ 8100 + 24080 * l + 602 * p ∨ 8100 + 24080 * l + 602 * p + 602 ≤ 8100 + 24080 * l + 602 * e; omega
        exact ⟨hE.1.frame f' (by omega), hE.2.frame f' (by omega)⟩
  | none =>
    refine ⟨fun _ => ?_, fun z => absurd rfl z⟩
    rw [w_put_24, nI_clamp (n := l) (by omega), hL.2.1]
    refine ⟨fun z => absurd rfl z, fun _ => ⟨vp_in_nI hl (by omega), fun z => ?_, fun z => ?_⟩⟩
    · have hn : L.length < 40 := by
        rcases Nat.lt_or_ge L.length 40 with q | q
        · exact q
        · exact absurd ((nI_eq (b := 40) (by omega) (by omega)).mpr (by omega)) z
      have h1' := h1 (fun q => by have := q.2; omega)
      rw [w_put_44, nI_clamp (n := l) (by omega), hL.2.1]
      refine ⟨fun z => absurd rfl z, fun _ => ⟨vp_in_nI hl (by omega), fun v11 e11 => ⟨L.length - placeF L k + 1, ?_⟩⟩⟩
      rw [e11]
      have key : ∀ (d j : Nat) (M1 : RM), placeF L k + d = j → j ≤ L.length → (∀ i, i < j → mE M1 l i (L.getD i ([], []))) → (∀ i, j ≤ i → i < L.length → mE M1 l (i + 1) (L.getD i ([], []))) → mF M M1 (8100 + 24080 * l) (8100 + 24080 * l + 24080) →
          w_put_57 post (d + 1) (nI l) (nI ka) (nI va) (nI (placeF L k)) (nI j) M1 := by
        intro d
        induction d with
        | zero =>
          intro j M1 hj hjn ha hb hF
          have hjp : j = placeF L k := by omega
          subst hjp
          rw [w_put_57]
          refine ⟨fun _ => q_ent ?_, fun q => absurd (nI_le (Nat.le_refl _) (by omega)) q⟩
          have bp := eb (placeF L k) (by omega)
          refine s_copyText (o := some k) (hk.frame hF (by omega)) hkb (by omega) (by omega) (fun M15 h15 f15 => ⟨vp_in_nI hl (by omega), vp_in_nI hl (by omega), fun M18 e18 => ?_⟩)
          rw [nI_clamp (n := l) (by omega)] at e18
          have h2 : M15 2 l = nI L.length := by rw [f15 2 l (by omega), hF 2 l (by omega)]; exact hL.2.1
          rw [h2, nI_1] at e18
          have hv18 : mT M18 va v := by
            rw [e18]
            exact ((hv.frame hF (by omega)).frame f15 (by omega)).congr fun i _ _ => by rw [upR_k M15 _ _ (by omega)]
          refine s_put_102 hv18 hva hvb hl (by omega) (fun M' h' f' => h1' M' ?_ ?_)
          · have hpf : putF L k v = L.take (placeF L k) ++ (k, v) :: L.drop (placeF L k) := by unfold putF; rw [hf]
            have hlen : (L.take (placeF L k) ++ (k, v) :: L.drop (placeF L k)).length = L.length + 1 := by simp; omega
            rw [hpf]
            refine ⟨by rw [hlen]; omega, ?_, fun e he => ?_⟩
            · rw [f' 2 l (by omega), e18, upR_2, if_pos rfl, hlen]
            · rw [hlen] at he
              rw [getD_ins L _ _ e hle]
              have be := eb e (by omega)
              by_cases c1 : e < placeF L k
              · rw [if_pos c1]
                have d1 : eA l e + 602 ≤ eA l (placeF L k) := by show 8100 + 24080 * l + 602 * e + 602 ≤ 8100 + 24080 * l + 602 * _; omega
                have hE : mE M18 l e (L.getD e ([], [])) := by
                  rw [e18]; exact ((ha e c1).frame f15 (by omega)).up2
                exact hE.frame f' (by omega)
              · rw [if_neg c1]
                by_cases c2 : e = placeF L k
                · rw [if_pos c2, c2]
                  refine ⟨?_, h'⟩
                  have hT : mT M18 (eA l (placeF L k)) k := by
                    rw [e18]; exact mT.congr h15 fun i _ _ => by rw [upR_k M15 _ _ (by omega)]
                  exact hT.frame f' (by omega)
                · rw [if_neg c2]
                  have d1 : eA l (placeF L k) + 602 ≤ eA l e := by show 8100 + 24080 * l + 602 * _ + 602 ≤ 8100 + 24080 * l + 602 * e; omega
                  have hE0 := hb (e - 1) (by omega) (by omega)
                  rw [show e - 1 + 1 = e by omega] at hE0
                  have hE : mE M18 l e (L.getD (e - 1) ([], [])) := by
                    rw [e18]; exact (hE0.frame f15 (by omega)).up2
                  exact hE.frame f' (by omega)
          · refine mC.tr (mC.of hF (by omega) (by omega)) (mC.tr (mC.of f15 (by omega) (by omega)) (mC.tr (M1 := M18) (by rw [e18]; exact mC.up _ _ _) (mC.of f' (by omega) (by omega))))
        | succ d ih =>
          intro j M1 hj hjn ha hb hF
          obtain ⟨i, rfl⟩ : ∃ i, j = i + 1 := ⟨j - 1, by omega⟩
          rw [w_put_57]
          refine ⟨fun q => absurd ((nI_leI (by omega) (by omega)).mp q) (by omega), fun _ => ?_⟩
          rw [show nI (i + 1) - 1 = nI i from nI_pred i]
          have bi := eb (i + 1) (by omega)
          refine s_copyEntry (ha i (by omega)) hl (by omega) (by omega) (by omega) (fun M19 h19 f19 v20 e20 => ?_)
          rw [e20, show nI (i + 1) + (-1) = nI i from pk_m1 i]
          refine ih i M19 (by omega) (by omega) (fun x hx => (ha x (by omega)).frame f19 ?_) (fun x hx1 hx2 => ?_) (hF.tr (f19.wide (by omega) (by omega)))
          · left; show 8100 + 24080 * l + 602 * x + 602 ≤ 8100 + 24080 * l + 602 * (i + 1); omega
          · by_cases hxi : x = i
            · subst hxi; exact h19
            · refine (hb x (by omega) hx2).frame f19 ?_
              right; show 8100 + 24080 * l + 602 * (i + 1) + 602 ≤ 8100 + 24080 * l + 602 * (x + 1); omega
      refine key _ _ M (by omega) (Nat.le_refl _) (fun i hi => hL.e hi) (fun i h1 h2 => by omega) mF.rf
    · have hn : L.length = 40 := (nI_eq (b := 40) (by omega) (by omega)).mp z
      exact h0 ⟨hf, by omega⟩
theorem eA_b {l e : Nat} (hl : l < 13) (he : e < 40) : eA l e + 602 ≤ 321140 ∧ 8100 + 24080 * l ≤ eA l e ∧ eA l e + 602 ≤ 8100 + 24080 * l + 24080 := by
  show 8100 + 24080 * l + 602 * e + 602 ≤ _ ∧ 8100 + 24080 * l ≤ 8100 + 24080 * l + 602 * e ∧ 8100 + 24080 * l + 602 * e + 602 ≤ _
  omega
theorem eA_lt {l e e' : Nat} (h : e < e') : eA l e + 602 ≤ eA l e' := by show 8100 + 24080 * l + 602 * e + 602 ≤ 8100 + 24080 * l + 602 * e'; omega
theorem getD_erase (L : Ly) (p e : Nat) : (L.eraseIdx p).getD e ([], []) = if e < p then L.getD e ([], []) else L.getD (e + 1) ([], []) := by
  simp only [List.getD_eq_getElem?_getD, List.getElem?_eraseIdx]
  split <;> rfl
theorem s_take {post : RM → Prop} {M : RM} {l p : Nat} {L : Ly} (hL : mLay M l L) (hl : l < 13) (hpL : p < L.length) (hp : ∀ M', mLay M' l (L.eraseIdx p) → mC M M' l → post M') : w_take post (nI l) (nI p) M := by
  have h40 := hL.1
  have hlen : (L.eraseIdx p).length = L.length - 1 := by rw [List.length_eraseIdx, if_pos hpL]
  have e1 : nI L.length - 1 = nI (L.length - 1) := by
    have : nI ((L.length - 1) + 1) - 1 = nI (L.length - 1) := nI_pred _
    rwa [show L.length - 1 + 1 = L.length by omega] at this
  have key : ∀ (d j : Nat) (M1 : RM), j + d = L.length - 1 → p ≤ j → (∀ i, i < p → mE M1 l i (L.getD i ([], []))) → (∀ i, p ≤ i → i < j → mE M1 l i (L.getD (i + 1) ([], []))) → (∀ i, j < i → i < L.length → mE M1 l i (L.getD i ([], []))) → mF M M1 (8100 + 24080 * l) (8100 + 24080 * l + 24080) → w_take_2 post (d + 1) (nI l) (nI j) M1 := by
    intro d
    induction d with
    | zero =>
      intro j M1 hj hpj ha hb hc hF
      have h2 : M1 2 l = nI L.length := by rw [hF 2 l (by omega)]; exact hL.2.1
      rw [w_take_2, nI_clamp (n := l) (by omega), h2, e1]
      refine ⟨vp_in_nI hl (by omega), fun _ => ⟨vp_in_nI hl (by omega), vp_in_nI hl (by omega), fun M6 e6 => ?_⟩, fun z => absurd (nI_le (by omega) (by omega)) z⟩
      refine hp M6 ⟨by omega, ?_, fun e he => ?_⟩ ((mC.of hF (Nat.le_refl _) (Nat.le_refl _)).tr (by rw [e6]; exact mC.up _ _ _))
      · rw [e6, upR_2, if_pos rfl, hlen]
      · rw [hlen] at he
        rw [getD_erase, e6]
        by_cases c : e < p
        · rw [if_pos c]; exact (ha e c).up2
        · rw [if_neg c]; exact (hb e (by omega) (by omega)).up2
    | succ d ih =>
      intro j M1 hj hpj ha hb hc hF
      have h2 : M1 2 l = nI L.length := by rw [hF 2 l (by omega)]; exact hL.2.1
      rw [w_take_2, nI_clamp (n := l) (by omega), h2, e1]
      refine ⟨vp_in_nI hl (by omega), fun z => absurd z (nI_ge (by omega) (by omega)), fun _ => ?_⟩
      rw [nI_1]
      have bj := eA_b (l := l) (e := j) hl (by omega)
      refine s_copyEntry (hc (j + 1) (by omega) (by omega)) hl (by omega) (by omega) (by omega) (fun M7 h7 f7 v8 e8 => ?_)
      rw [e8]
      refine ih (j + 1) M7 (by omega) (by omega) (fun i hi => (ha i hi).frame f7 (Or.inl (eA_lt (by omega)))) (fun i q1 q2 => ?_) (fun i q1 q2 => (hc i (by omega) q2).frame f7 (Or.inr (eA_lt (by omega)))) (hF.tr (f7.wide (by omega) (by omega)))
      by_cases hij : i = j
      · subst hij; exact h7
      · exact (hb i q1 (by omega)).frame f7 (Or.inl (eA_lt (by omega)))
  rw [w_take]
  exact ⟨L.length - 1 - p + 1, key _ p M (by omega) (Nat.le_refl _) (fun i hi => hL.e (by omega)) (fun i q1 q2 => by omega) (fun i q1 q2 => hL.e q2) mF.rf⟩
theorem s_copyLayer {post : RM → Prop} {M : RM} {l l' : Nat} {L : Ly} (hL : mLay M l L) (hl : l < 13) (hl' : l' < 13) (hne : l ≠ l') (hp : ∀ M', mLay M' l' L → mC M M' l' → post M') : w_copyLayer post (nI l) (nI l') M := by
  have h40 := hL.1
  have dl : 8100 + 24080 * l + 24080 ≤ 8100 + 24080 * l' ∨ 8100 + 24080 * l' + 24080 ≤ 8100 + 24080 * l := by
    rcases Nat.lt_or_ge l l' with q | q
    · have : 24080 * (l + 1) ≤ 24080 * l' := Nat.mul_le_mul_left _ q
      omega
    · have : 24080 * (l' + 1) ≤ 24080 * l := Nat.mul_le_mul_left _ (by omega)
      omega
  have key : ∀ (d j : Nat) (M1 : RM), j + d = L.length → mLay M1 l L → M1 2 l' = nI L.length → (∀ i, i < j → mE M1 l' i (L.getD i ([], []))) → mC M M1 l' → w_copyLayer_14 post (d + 1) (nI l) (nI l') (nI j) M1 := by
    intro d
    induction d with
    | zero =>
      intro j M1 hj hL1 h2 ha hC
      rw [w_copyLayer_14, nI_clamp (n := l) (by omega), hL1.2.1]
      exact ⟨vp_in_nI hl (by omega), fun _ => hp M1 ⟨h40, h2, fun e he => ha e (by omega)⟩ hC, fun z => absurd (nI_le (by omega) (by omega)) z⟩
    | succ d ih =>
      intro j M1 hj hL1 h2 ha hC
      have b1 := eA_b (l := l) (e := j) hl (by omega)
      have b2 := eA_b (l := l') (e := j) hl' (by omega)
      have hE := hL1.e (e := j) (by omega)
      rw [w_copyLayer_14, nI_clamp (n := l) (by omega), hL1.2.1]
      refine ⟨vp_in_nI hl (by omega), fun z => absurd z (nI_ge (by omega) (by omega)), fun _ => q_ent (q_ent (s_copyText (o := some _) hE.1 (by omega) (by omega) (by omega) (fun M9 h9 f9 => q_val (q_val ?_))))⟩
      refine s_copyText (o := some (L.getD j ([], [])).2) (hE.2.frame f9 (by omega)) (by omega) (by omega) (by omega) (fun M12 h12 f12 v13 e13 => ?_)
      rw [e13, nI_1]
      have fF : mF M1 M12 (eA l' j) (eA l' j + 602) := mF.tr2 f9 f12 (by omega) (by omega)
      have fC : mC M1 M12 l' := mC.of fF (by omega) (by omega)
      refine ih (j + 1) M12 (by omega) (hL1.other fC hne) (by rw [fF 2 l' (by omega)]; exact h2) (fun i hi => ?_) (hC.tr fC)
      by_cases hij : i = j
      · subst hij; exact ⟨mT.frame h9 f12 (by omega), h12⟩
      · exact (ha i (by omega)).frame fF (Or.inl (eA_lt (by omega)))
  rw [w_copyLayer]
  refine ⟨vp_in_nI hl (by omega), vp_in_nI hl' (by omega), fun M3 e3 => ⟨L.length + 1, ?_⟩⟩
  rw [nI_clamp (n := l) (by omega), nI_clamp (n := l') (by omega), hL.2.1] at e3
  have fC : mC M M3 l' := by rw [e3]; exact mC.up _ _ _
  exact key L.length 0 M3 (by omega) (hL.other fC hne) (by rw [e3, upR_2, if_pos rfl]) (fun i hi => by omega) fC
theorem s_isLayer {post : Int32 → Prop} (x : Int32) (h0 : ixO x 4 = none → post 0) (h1 : ∀ i, i < 4 → x = nI i → ixO x 4 = some i → post 1) : q_isLayer post x := by
  rw [q_isLayer]
  rcases ixO_cases x (n := 4) (by omega) with ⟨e, h⟩ | ⟨i, hi, rfl, e⟩
  · rcases h with h | h
    · exact ⟨fun _ => h0 e, fun z => absurd h z⟩
    · exact ⟨fun _ => h0 e, fun _ => ⟨fun _ => h0 e, fun z => absurd h z⟩⟩
  · exact ⟨fun z => absurd z (nI_pos (by omega)), fun _ => ⟨fun z => absurd z (nI_ge (b := 4) hi (by decide)), fun _ => h1 i hi rfl e⟩⟩
/-- the highest layer, from one downwards, that has a key -/
def layerF (ly : Nat → Ly) (k : Tx) : Nat → Option Nat
  | 0 => if findF (ly 0) k = none then none else some 0
  | l + 1 => if findF (ly (l + 1)) k = none then layerF ly k l else some (l + 1)
theorem layerF_le {ly : Nat → Ly} {k : Tx} : ∀ {l m : Nat}, layerF ly k l = some m → m ≤ l ∧ findF (ly m) k ≠ none
  | 0, m, h => by
    rw [layerF] at h
    split at h
    · cases h
    · rename_i q; obtain rfl := Option.some.inj h; exact ⟨Nat.le_refl _, q⟩
  | l + 1, m, h => by
    rw [layerF] at h
    split at h
    · have := layerF_le h; exact ⟨by omega, this.2⟩
    · rename_i q; obtain rfl := Option.some.inj h; exact ⟨Nat.le_refl _, q⟩
theorem s_layerWith {post : Int32 → RM → Prop} {M : RM} {ly : Nat → Ly} {ka : Nat} {k : Tx} (hk : mT M ka k) (hka : ka + 301 ≤ 321140) : ∀ (l : Nat), l < 4 → (∀ j, j < 4 → mLay M j (ly j)) → post (fI (layerF ly k l)) M → w_layerWith_2 post (l + 2) (nI ka) (nI l) M := by
  intro l
  induction l with
  | zero =>
    intro hl hL hp
    have h40 := (hL 0 hl).1
    rw [w_layerWith_2]
    refine ⟨fun z => absurd z (nI_pos (by omega)), fun _ => s_find (hL 0 hl) (by omega) hk hka ⟨fun z => ⟨fun _ => ?_, fun q => absurd (nI_pos' (by omega)) q⟩, fun z v8 e8 => ?_⟩⟩
    · have hn : ¬ findF (ly 0) k = none := fun q => z (by rw [q]; rfl)
      rw [layerF, if_neg hn] at hp; exact hp
    · have hn : findF (ly 0) k = none := (fI_none (fun p hp => by have := (findF_lt hp).1; omega)).mp z
      rw [layerF, if_pos hn] at hp
      rw [e8, w_layerWith_2]
      exact ⟨fun _ => ⟨fun q => absurd q (by decide), fun _ => hp⟩, fun q => absurd (by decide) q⟩
  | succ l ih =>
    intro hl hL hp
    have h40 := (hL (l + 1) hl).1
    rw [w_layerWith_2]
    refine ⟨fun z => absurd z (nI_pos (by omega)), fun _ => s_find (hL (l + 1) hl) (by omega) hk hka ⟨fun z => ⟨fun _ => ?_, fun q => absurd (nI_pos' (by omega)) q⟩, fun z v8 e8 => ?_⟩⟩
    · have hn : ¬ findF (ly (l + 1)) k = none := fun q => z (by rw [q]; rfl)
      rw [layerF, if_neg hn] at hp; exact hp
    · have hn : findF (ly (l + 1)) k = none := (fI_none (fun p hp => by have := (findF_lt hp).1; omega)).mp z
      rw [layerF, if_pos hn] at hp
      rw [e8, show nI (l + 1) + (-1) = nI l from pk_m1 l]
      exact ih (by omega) hL hp
