/-! load, brokenAt -/
def kvK (T : Tx) (pl : List Nat) : Nat := keyA (eX T pl) pl.length 0
def kvV (T : Tx) (pl : List Nat) : Nat := valA (eX T pl) pl.length (kvK T pl)
def kvB (T : Tx) (pl : List Nat) : Option Nat := match (decA (eX T pl) 0 (kvK T pl)).1 with
  | some b => some (pl.getD b 0)
  | none => (decA (eX T pl) (kvV T pl) pl.length).1.map (fun b => pl.getD b 0)
def kvP (T : Tx) (pl : List Nat) : Tx × Tx := ((decA (eX T pl) 0 (kvK T pl)).2, (decA (eX T pl) (kvV T pl) pl.length).2)
def entsF (T : Tx) : Nat → Nat → List (List Nat)
  | 0, _ => []
  | n + 1, p => if T.length < p then [] else if (entF T p).1 = [] then entsF T n (entF T p).2 else (entF T p).1 :: entsF T n (entF T p).2
def entsA (T : Tx) : List (List Nat) := entsF T (T.length + 1) 0
def brkF (T : Tx) : List (List Nat) → Option Nat
  | [] => none
  | pl :: ps => match kvB T pl with
    | some b => some b
    | none => brkF T ps
def putsF (T : Tx) : List (List Nat) → Ly → Option Ly
  | [], L => some L
  | pl :: ps, L => if findF L (kvP T pl).1 = none ∧ 40 ≤ L.length then none else putsF T ps (putF L (kvP T pl).1 (kvP T pl).2)
def op_brokenAt (s : AS) : Int32 × AS := match brkF (aTp s) (entsA (aTp s)) with
  | none => (-5, s)
  | some b => (nI b, s)
def op_load (x : Int32) (s : AS) : Int32 × AS := match ixO x 4 with
  | none => (-1, s)
  | some l => match brkF (aTp s) (entsA (aTp s)) with
    | some _ => (-6, s)
    | none => match putsF (aTp s) (entsA (aTp s)) (aLy s l) with
      | none => (-3, s)
      | some L => (nI (entsA (aTp s)).length, sLy s l L)
theorem cont_b {T : Tx} : ∀ (n : Nat) (b : Bool) (p : Nat) (pl : List Nat), p ≤ T.length + 1 → (∀ x ∈ pl, x < T.length) → pl.length ≤ p → pl.length ≤ T.length → p ≤ (contF T n b p pl).2 ∧ (contF T n b p pl).2 ≤ T.length + 1 ∧ (∀ x ∈ (contF T n b p pl).1, x < T.length) ∧ (contF T n b p pl).1.length ≤ T.length
  | 0, _, p, pl, h, h2, h3, h4 => ⟨Nat.le_refl _, h, h2, h4⟩
  | n + 1, b, p, pl, h, h2, h3, h4 => by
    unfold contF
    by_cases q : b = false ∨ T.length < p
    · rw [if_pos q]; exact ⟨Nat.le_refl _, h, h2, h4⟩
    · rw [if_neg q]
      have hle : p ≤ T.length := by
        rcases Nat.lt_or_ge T.length p with c | c
        · exact absurd (Or.inr c) q
        · exact c
      have b1 : p ≤ endL T p ∧ endL T p ≤ T.length := scan_b hle
      have b2 : p ≤ firstL T p (endL T p) ∧ firstL T p (endL T p) ≤ endL T p := scan_b b1.1
      have b3 := nextL_b b1.2
      have b4 := lastL_b (T := T) b2.2
      have hlen : (pl ++ lineP T (firstL T p (endL T p)) (endL T p)).length = pl.length + (lastL T (firstL T p (endL T p)) (endL T p) - firstL T p (endL T p)) := by
        rw [List.length_append]; unfold lineP; rw [rg_len]
      have := cont_b n (slR T (firstL T p (endL T p)) (endL T p) % 2 == 1) (nextL T (endL T p)) (pl ++ lineP T (firstL T p (endL T p)) (endL T p)) b3.2 (fun x hx => by
        rcases List.mem_append.mp hx with c | c
        · exact h2 x c
        · have := rg_mem (show x ∈ rg _ _ from c)
          omega) (by rw [hlen]; omega) (by rw [hlen]; omega)
      exact ⟨by omega, this.2⟩
theorem ent_b {T : Tx} {p : Nat} (h : p ≤ T.length) : p < (entF T p).2 ∧ (entF T p).2 ≤ T.length + 1 ∧ (∀ x ∈ (entF T p).1, x < T.length) ∧ (entF T p).1.length ≤ T.length := by
  have b1 : p ≤ endL T p ∧ endL T p ≤ T.length := scan_b h
  have b2 : p ≤ firstL T p (endL T p) ∧ firstL T p (endL T p) ≤ endL T p := scan_b b1.1
  have b3 := nextL_b b1.2
  have b4 := lastL_b (T := T) b2.2
  unfold entF
  split
  · exact ⟨by show p < nextL T (endL T p); omega, b3.2, fun x hx => absurd hx (by simp), Nat.zero_le _⟩
  · have hlen : (lineP T (firstL T p (endL T p)) (endL T p)).length = lastL T (firstL T p (endL T p)) (endL T p) - firstL T p (endL T p) := by
      unfold lineP; rw [rg_len]
    have := cont_b (T := T) (T.length + 2) (slR T (firstL T p (endL T p)) (endL T p) % 2 == 1) (nextL T (endL T p)) (lineP T (firstL T p (endL T p)) (endL T p)) b3.2 (fun x hx => by
      have := rg_mem (show x ∈ rg _ _ from hx)
      omega) (by rw [hlen]; omega) (by rw [hlen]; omega)
    exact ⟨by omega, this.2⟩
theorem decG_some {X : Nat → Nat} {to : Nat} : ∀ (n i : Nat) (t : Tx) {b : Nat}, (decG X to n i t).1 = some b → b < to
  | 0, _, _, _, h => absurd h (by simp [decG])
  | n + 1, i, t, b, h => by
    rw [decG] at h
    split at h
    · exact absurd h (by simp)
    · split at h
      · split at h
        · cases hn : numF X (i + 2) to with
          | none =>
            rw [hn] at h
            have := Option.some.inj h
            omega
          | some v => rw [hn] at h; exact decG_some n _ _ h
        · exact decG_some n _ _ h
      · exact decG_some n _ _ h
theorem s_layKeyAndValue {post : Int32 → RM → Prop} {M : RM} {T : Tx} {pl : List Nat} (hT : mTp M T) (hE : mEn M T pl) (hpl : pl.length ≤ 300) (hD : prL (pl.map (ch T)) = true)
    (hp : ∀ M', mZ M M' → mEn M' T pl → (kvB T pl = none → mT M' 1806 (kvP T pl).1 ∧ mT M' 2107 (kvP T pl).2) → post (fI (kvB T pl)) M') : w_layKeyAndValue post M := by
  have hc := hT.2.1
  have hD0 : prD T pl 0 := hD
  obtain ⟨k1, k2⟩ := keyA_b (T := T) (pl := pl) (pl.length + 1) 0 (by omega) (by omega) hD0
  have v1 := valA_b (T := T) (pl := pl) k1 k2
  rw [w_layKeyAndValue, w_keyEnd]
  refine ⟨pl.length + 1, s_keyEnd_2 hE hc hpl _ 0 (by omega) (by omega) hD0 ?_⟩
  show w_decode _ (nI 0) (nI (kvK T pl)) (nI 1806) M
  refine s_decode (Q := fun i => prD T pl i ∧ keyA (eX T pl) pl.length i = kvK T pl) hc hpl k1 (by omega) (by omega) hE (Nat.zero_le _) ⟨hD0, rfl⟩ (fun i h1 h2 h3 => ?_) (fun i h1 h2 h3 => ?_) (fun M3 f3 h3 => ?_)
  · have hlt : i < pl.length := Nat.lt_of_lt_of_le h2 k1
    refine ⟨prD_1 h1.1 hlt h3, ?_⟩
    have hn : ¬ (eX T pl i = 61 ∨ eX T pl i = 58 ∨ isBl (eX T pl i) = true) := fun q => by
      have := h1.2; rw [keyA_end hlt q] at this; omega
    have := h1.2
    rw [keyA_st hlt hn, if_neg h3] at this
    exact this
  · have hlt : i < pl.length := Nat.lt_of_lt_of_le h2 k1
    have hn : ¬ (eX T pl i = 61 ∨ eX T pl i = 58 ∨ isBl (eX T pl i) = true) := fun q => by
      have := h1.2; rw [keyA_end hlt q] at this; omega
    have h4 := h1.2
    rw [keyA_st hlt hn, if_pos h3] at h4
    have h5 : i + 2 ≤ keyA (eX T pl) pl.length (i + 2) := keyF_ge _ _
    exact ⟨by omega, (prD_2 h1.1 hlt h3).2, h4⟩
  · have hE3 := hE.z f3
    have z3 : mZ M M3 := mZ.of f3 (by omega) (by omega)
    cases hb : (decA (eX T pl) 0 (kvK T pl)).1 with
    | some b =>
      have hlt : b < kvK T pl := decG_some _ _ _ hb
      have hb2 : kvB T pl = some (pl.getD b 0) := by unfold kvB; rw [hb]
      have hlt2 : pl.getD b 0 < 300 := by
        have h9 : b < pl.length := Nat.lt_of_lt_of_le hlt k1
        have : pl.getD b 0 ∈ pl := by
          rw [List.getD_eq_getElem?_getD, List.getElem?_eq_getElem h9]
          exact List.getElem_mem h9
        have := hE.2.1 _ this
        have := hT.1
        omega
      refine ⟨fun z => absurd z (nI_pos (by omega)), fun _ => ?_⟩
      have := hp M3 z3 hE3 (fun q => absurd (hb2.symm.trans q) (by simp))
      rw [hb2] at this; exact this
    | none =>
      refine ⟨fun _ => s_valueBegin hE3 hc hpl k1 k2 ?_, fun z => absurd (show (-5 : Int32) < 0 by decide) z⟩
      rw [hE3.1]
      show w_decode _ (nI (kvV T pl)) (nI pl.length) (nI 2107) M3
      refine s_decode (Q := fun i => prD T pl i) hc hpl (Nat.le_refl _) (by omega) (by omega) hE3 v1.1 v1.2 (fun i h1 h2 h3 => prD_1 h1 h2 h3) (fun i h1 h2 h3 => prD_2 h1 h2 h3) (fun M8 f8 h8 => ?_)
      have hE8 := hE3.z f8
      have z8 : mZ M M8 := z3.tr (mZ.of f8 (by omega) (by omega))
      have hkv : kvB T pl = (decA (eX T pl) (kvV T pl) pl.length).1.map (fun b => pl.getD b 0) := by unfold kvB; rw [hb]
      have := hp M8 z8 hE8 (fun _ => ⟨h3.frame f8 (by omega), h8⟩)
      have e9 : fI (kvB T pl) = brI pl (decA (eX T pl) (kvV T pl) pl.length).1 := by
        rw [hkv]
        cases (decA (eX T pl) (kvV T pl) pl.length).1 <;> rfl
      rw [e9] at this; exact this
theorem nx_end {T : Tx} {p : Nat} (h3 : T.length ≤ 300) (hp : p ≤ T.length + 1) : (nx T p = -5 ↔ T.length < p) := by
  unfold nx
  by_cases q : T.length < p
  · rw [if_pos q]; exact ⟨fun _ => q, fun _ => rfl⟩
  · rw [if_neg q]
    refine ⟨fun z => absurd (show nI p < 0 by rw [z]; decide) (nI_pos (by omega)), fun z => absurd z q⟩
theorem kvB_lt {T : Tx} {p b : Nat} (h300 : T.length ≤ 300) (hle : p ≤ T.length) (hb : kvB T (entF T p).1 = some b) : b < 300 := by
  have eb := ent_b hle
  unfold kvB at hb
  have k1 := (keyA_b (T := T) (pl := (entF T p).1) ((entF T p).1.length + 1) 0 (by omega) (by omega) (prL_ent hle)).1
  have mem : ∀ j, j < (entF T p).1.length → (entF T p).1.getD j 0 < 300 := fun j hj => by
    have : (entF T p).1.getD j 0 ∈ (entF T p).1 := by
      rw [List.getD_eq_getElem?_getD, List.getElem?_eq_getElem hj]
      exact List.getElem_mem hj
    have := eb.2.2.1 _ this
    omega
  cases hd : (decA (eX T (entF T p).1) 0 (kvK T (entF T p).1)).1 with
  | some j =>
    rw [hd] at hb
    obtain rfl := Option.some.inj hb
    exact mem j (Nat.lt_of_lt_of_le (decG_some _ _ _ hd) k1)
  | none =>
    rw [hd] at hb
    cases hd2 : (decA (eX T (entF T p).1) (kvV T (entF T p).1) (entF T p).1.length).1 with
    | none => rw [hd2] at hb; exact absurd hb (by simp)
    | some j =>
      rw [hd2] at hb
      obtain rfl := Option.some.inj hb
      exact mem j (decG_some _ _ _ hd2)
theorem brk_lt {T : Tx} {b : Nat} (h300 : T.length ≤ 300) : ∀ (n p : Nat), p ≤ T.length + 1 → brkF T (entsF T n p) = some b → b < 300
  | 0, _, _, h => absurd h (by simp [entsF, brkF])
  | n + 1, p, hp, h => by
    rw [entsF] at h
    split at h
    · exact absurd h (by simp [brkF])
    · have hle : p ≤ T.length := by omega
      have eb := ent_b hle
      split at h
      · exact brk_lt h300 n _ eb.2.1 h
      · rw [brkF] at h
        cases hk : kvB T (entF T p).1 with
        | some c =>
          rw [hk] at h
          obtain rfl := Option.some.inj h
          exact kvB_lt h300 hle hk
        | none => rw [hk] at h; exact brk_lt h300 n _ eb.2.1 h
theorem s_firstBroken_5 {post : Int32 → RM → Prop} {M0 : RM} {T : Tx} (hT0 : mTp M0 T) : ∀ n p M, T.length + 1 ≤ p + n → p ≤ T.length + 1 → mZ M0 M → (∀ M', mZ M0 M' → post (fI (brkF T (entsF T n p))) M') → w_firstBroken_5 post (n + 1) (nx T p) (-5) M := by
  have h300 := hT0.1
  intro n
  induction n with
  | zero =>
    intro p M h1 h2 hF hp
    rw [w_firstBroken_5]
    exact ⟨fun _ => hp M hF, fun z => absurd ((nx_end h300 h2).mpr (by omega)) z⟩
  | succ n ih =>
    intro p M h1 h2 hF hp
    have hT := hT0.z hF
    rw [w_firstBroken_5]
    refine ⟨fun z => ?_, fun z => ⟨fun z2 => absurd z2 (by decide), fun _ => ?_⟩⟩
    · have := (nx_end h300 h2).mp z
      rw [entsF, if_pos this] at hp
      exact hp M hF
    · have hle : p ≤ T.length := by
        rcases Nat.lt_or_ge T.length p with q | q
        · exact absurd ((nx_end h300 h2).mpr q) z
        · exact q
      have eb := ent_b hle
      have hnx : nx T p = nI p := by unfold nx; rw [if_neg (by omega)]
      rw [hnx]
      rw [entsF, if_neg (by omega)] at hp
      refine s_layEntry hT hle (fun M4 f4 h4 => ?_)
      have hT4 := hT.z f4
      rw [h4.1]
      refine ⟨fun z3 => ?_, fun z3 => ?_⟩
      · have h0 : (entF T p).1.length ≤ 0 := (nI_leI (b := 0) (by omega) (by decide)).mp z3
        have hnil : (entF T p).1 = [] := List.length_eq_zero_iff.mp (by omega)
        rw [if_pos hnil] at hp
        exact ih _ M4 (by omega) eb.2.1 (hF.tr f4) hp
      · have hnn : (entF T p).1 ≠ [] := fun q => z3 (by rw [q]; decide)
        rw [if_neg hnn] at hp
        refine s_layKeyAndValue hT4 h4 (by omega) (prL_ent hle) (fun M7 z7 h7 _ => ?_)
        cases hb : kvB T (entF T p).1 with
        | none =>
          have hp' : ∀ M', mZ M0 M' → post (fI (brkF T (entsF T n (entF T p).2))) M' := by
            intro M' hM
            have := hp M' hM
            rw [brkF, hb] at this; exact this
          exact ih _ M7 (by omega) eb.2.1 ((hF.tr f4).tr z7) hp'
        | some b =>
          have hq := hp M7 ((hF.tr f4).tr z7)
          rw [brkF, hb] at hq
          rw [w_firstBroken_5]
          refine ⟨fun _ => hq, fun _ => ⟨fun _ => hq, fun z9 => absurd (nI_pos' ?_) z9⟩⟩
          have hlt : b < 300 := kvB_lt h300 hle hb
          omega
theorem s_firstBroken {post : Int32 → RM → Prop} {M : RM} {T : Tx} (hT : mTp M T) (hp : ∀ M', mZ M M' → post (fI (brkF T (entsA T))) M') : w_firstBroken post M := by
  rw [w_firstBroken]
  refine ⟨T.length + 2, ?_⟩
  have e0 : nx T 0 = 0 := by unfold nx; rw [if_neg (by omega)]; rfl
  have := s_firstBroken_5 (post := post) hT (T.length + 1) 0 M (by omega) (by omega) mZ.rf hp
  rw [e0] at this; exact this
theorem r_brokenAt {post : Int32 → RM → Prop} {s : AS} {M : RM} (hR : rRep s M) (hp : ∀ M', rRep (op_brokenAt s).2 M' → post (op_brokenAt s).1 M') : w_brokenAt post M := by
  rw [w_brokenAt]
  refine s_firstBroken hR.tp (fun M' hz => ?_)
  have h := hR.still hz.toA
  unfold op_brokenAt at hp
  cases hb : brkF (aTp s) (entsA (aTp s)) with
  | none => rw [hb] at hp; exact hp M' h
  | some b => rw [hb] at hp; exact hp M' h
theorem mLay.z {M M' : RM} {l : Nat} {L : Ly} (h : mLay M l L) (hz : mZ M M') (hl : l < 13) : mLay M' l L :=
  h.congr (hz 2 l (by omega) (by omega) (by omega) (by omega)) (fun i q1 _ => hz 1 i (by omega) (by omega) (by omega) (by omega))
theorem sLy_back {s : AS} {l : Nat} {L : Ly} : sLy (sLy s l L) l (aLy s l) = s := by
  have : va_up (va_up (aLy s) l L) l (aLy s l) = aLy s := by
    funext q
    by_cases h : q = l
    · subst h; rw [va_up_self]
    · rw [va_up_ne _ _ h, va_up_ne _ _ h]
  show (s.1, s.2.1, va_up (va_up (aLy s) l L) l (aLy s l), s.2.2.2) = s
  rw [this]
theorem sLy_sLy {s : AS} {l : Nat} {L L' : Ly} : sLy (sLy s l L) l L' = sLy s l L' := by
  have : va_up (va_up (aLy s) l L) l L' = va_up (aLy s) l L' := by
    funext q
    by_cases h : q = l
    · subst h; rw [va_up_self, va_up_self]
    · rw [va_up_ne _ _ h, va_up_ne _ _ h, va_up_ne _ _ h]
  show (s.1, s.2.1, va_up (va_up (aLy s) l L) l L', s.2.2.2) = (s.1, s.2.1, va_up (aLy s) l L', s.2.2.2)
  rw [this]
theorem s_load_30 {post : Int32 → RM → Prop} {s : AS} {l : Nat} (hl : l < 4) (h300 : (aTp s).length ≤ 300) : ∀ n p c L M, (aTp s).length + 1 ≤ p + n → p ≤ (aTp s).length + 1 → rRep (sLy s l L) M → mLay M 12 (aLy s l) → (∀ pl ∈ entsF (aTp s) n p, kvB (aTp s) pl = none) → (putsF (aTp s) (entsF (aTp s) n p) L = none → ∀ M', rRep s M' → post (-3) M') → (∀ L', putsF (aTp s) (entsF (aTp s) n p) L = some L' → ∀ M', rRep (sLy s l L') M' → post (nI (c + (entsF (aTp s) n p).length)) M') → w_load_30 post (n + 1) (nI l) (nI c) (nx (aTp s) p) M := by
  intro n
  induction n with
  | zero =>
    intro p c L M h1 h2 hR h12 hk hn hs
    rw [w_load_30]
    exact ⟨fun _ => hs L rfl M hR, fun z => absurd ((nx_end h300 h2).mpr (by omega)) z⟩
  | succ n ih =>
    intro p c L M h1 h2 hR h12 hk hn hs
    have hT : mTp M (aTp s) := hR.tp
    rw [w_load_30]
    refine ⟨fun z => ?_, fun z => ?_⟩
    · have := (nx_end h300 h2).mp z
      rw [entsF, if_pos this] at hs
      exact hs L rfl M hR
    · have hle : p ≤ (aTp s).length := by
        rcases Nat.lt_or_ge (aTp s).length p with q | q
        · exact absurd ((nx_end h300 h2).mpr q) z
        · exact q
      have eb := ent_b hle
      have hnx : nx (aTp s) p = nI p := by unfold nx; rw [if_neg (by omega)]
      rw [hnx]
      rw [entsF, if_neg (by omega)] at hk hn hs
      refine s_layEntry hT hle (fun M9 f9 h9 => ?_)
      have hT9 := hT.z f9
      have hR9 : rRep (sLy s l L) M9 := hR.still f9.toA
      have h129 := h12.z f9 (by omega)
      rw [h9.1]
      refine ⟨fun z3 => ?_, fun z3 => ?_⟩
      · have h0 : (entF (aTp s) p).1.length ≤ 0 := (nI_leI (b := 0) (by omega) (by decide)).mp z3
        have hnil : (entF (aTp s) p).1 = [] := List.length_eq_zero_iff.mp (by omega)
        rw [if_pos hnil] at hk hn hs
        exact ih _ c L M9 (by omega) eb.2.1 hR9 h129 hk hn hs
      · have hnn : (entF (aTp s) p).1 ≠ [] := fun q => z3 (by rw [q]; decide)
        rw [if_neg hnn] at hk hn hs
        have hkb : kvB (aTp s) (entF (aTp s) p).1 = none := hk _ (by simp)
        refine s_layKeyAndValue hT9 h9 (by omega) (prL_ent hle) (fun M12 z12 h12' hkv => ?_)
        obtain ⟨t1, t2⟩ := hkv hkb
        have hR12 : rRep (sLy s l L) M12 := hR9.still z12.toA
        have h1212 := h129.z z12 (by omega)
        have hL : mLay M12 l L := by
          have := hR12.2.2.1 l hl
          have e : aLy (sLy s l L) l = L := va_up_self _ _ _
          rw [e] at this; exact this
        refine s_put (ka := 1806) (va := 2107) hL (by omega) t1 t2 (by omega) (by omega) (by omega) (by omega) (fun q => ⟨fun z => absurd rfl z, fun _ => ?_⟩) (fun q M14 h14 c14 => ⟨fun _ v ev => ?_, fun z => absurd z (by decide)⟩)
        · refine s_copyLayer (l := 12) (l' := l) h1212 (by omega) (by omega) (by omega) (fun M18 h18 c18 => ?_)
          refine hn ?_ M18 ?_
          · have q' : findF L (kvP (aTp s) (entF (aTp s) p).1).1 = none ∧ 40 ≤ L.length := q
            rw [putsF, if_pos q']
          · have := hR12.layer hl c18 h18
            rw [sLy_back] at this; exact this
        · have q' : ¬ (findF L (kvP (aTp s) (entF (aTp s) p).1).1 = none ∧ 40 ≤ L.length) := q
          rw [putsF, if_neg q'] at hn hs
          rw [ev, nI_1]
          have hR14 := hR12.layer hl c14 h14
          rw [sLy_sLy] at hR14
          refine ih _ (c + 1) _ M14 (by omega) eb.2.1 hR14 (h1212.other c14 (by omega)) (fun pl hpl => hk pl (by simp [hpl])) hn (fun L' hL' M' hM' => ?_)
          have := hs L' hL' M' hM'
          rw [List.length_cons] at this
          rw [show c + 1 + (entsF (aTp s) n (entF (aTp s) p).2).length = c + ((entsF (aTp s) n (entF (aTp s) p).2).length + 1) by omega]
          exact this
theorem brkF_none {T : Tx} : ∀ ps : List (List Nat), brkF T ps = none → ∀ pl ∈ ps, kvB T pl = none
  | [], _, pl, h => absurd h (by simp)
  | q :: ps, h, pl, hm => by
    rw [brkF] at h
    cases hk : kvB T q with
    | some c => rw [hk] at h; exact absurd h (by simp)
    | none =>
      rw [hk] at h
      rcases List.mem_cons.mp hm with e | e
      · rw [e]; exact hk
      · exact brkF_none ps h pl e
theorem r_load {post : Int32 → RM → Prop} {s : AS} {M : RM} (x : Int32) (hR : rRep s M) (hp : ∀ M', rRep (op_load x s).2 M' → post (op_load x s).1 M') : w_load post x M := by
  rw [w_load]
  refine s_isLayer x (fun e => ⟨fun q => absurd rfl q, fun _ => ?_⟩) (fun l hl hx e => ⟨fun _ => ?_, fun q => absurd q (by decide)⟩)
  · simp only [op_load, e] at hp; exact hp M hR
  subst hx
  simp only [op_load, e] at hp
  have h300 := hR.tp.1
  refine s_firstBroken hR.tp (fun M3 z3 => ?_)
  have hR3 := hR.still z3.toA
  cases hb : brkF (aTp s) (entsA (aTp s)) with
  | some b =>
    simp only [hb] at hp
    refine ⟨fun z => ?_, fun _ => hp M3 hR3⟩
    have hbl : b < 300 := brk_lt h300 _ _ (by omega) hb
    exact absurd z (nI_pos (by omega))
  | none =>
    simp only [hb] at hp
    refine ⟨fun _ => ?_, fun z => absurd (by decide) z⟩
    refine s_copyLayer (l := l) (l' := 12) (hR3.2.2.1 l hl) (by omega) (by omega) (by omega) (fun M6 h6 c6 => ⟨(aTp s).length + 2, ?_⟩)
    have hR6 : rRep s M6 := hR3.still (fun k i q => c6 k i (fun h2 => by unfold scr at q; omega) (fun h1 => by unfold scr at q; omega))
    have e0 : nx (aTp s) 0 = 0 := by unfold nx; rw [if_neg (by omega)]; rfl
    have := s_load_30 (post := post) (s := s) hl h300 ((aTp s).length + 1) 0 0 (aLy s l) M6 (by omega) (by omega) (by
      have e : sLy s l (aLy s l) = s := by
        have h := sLy_back (s := s) (l := l) (L := aLy s l)
        rw [sLy_sLy] at h; exact h
      rw [e]; exact hR6) h6 (brkF_none _ hb) (fun q M' h' => ?_) (fun L' q M' h' => ?_)
    · rw [e0] at this; exact this
    · have q' : putsF (aTp s) (entsA (aTp s)) (aLy s l) = none := q
      simp only [q'] at hp; exact hp M' h'
    · have q' : putsF (aTp s) (entsA (aTp s)) (aLy s l) = some L' := q
      simp only [q'] at hp
      rw [Nat.zero_add]; exact hp M' h'
