/-! the calls on layers -/
theorem rRep.layer {s : AS} {M M' : RM} {l : Nat} {L : Ly} (h : rRep s M) (hl : l < 4) (hC : mC M M' l) (hL : mLay M' l L) : rRep (sLy s l L) M' := by
  obtain ⟨h1, h2, h3, h4, h5, h6, h7, h8⟩ := h
  have n1 : ∀ j, j < 8100 → M' 1 j = M 1 j := fun j q => hC 1 j (by omega) (fun _ => by omega)
  have n2 : ∀ k j, k ≠ 1 → k ≠ 2 → M' k j = M k j := fun k j q1 q2 => hC k j (fun z => absurd z q2) (fun z => absurd z q1)
  have dl : ∀ x, x ≠ l → 8100 + 24080 * x + 24080 ≤ 8100 + 24080 * l ∨ 8100 + 24080 * l + 24080 ≤ 8100 + 24080 * x := by
    intro x hx
    rcases Nat.lt_or_ge x l with q | q
    · have : 24080 * (x + 1) ≤ 24080 * l := Nat.mul_le_mul_left _ q
      omega
    · have : 24080 * (l + 1) ≤ 24080 * x := Nat.mul_le_mul_left _ (by omega)
      omega
  refine ⟨fun i hi => (h1 i hi).congr fun j q1 q2 => n1 j (by omega), h2.congr (n2 0 0 (by omega) (by omega)) fun j => n2 4 j (by omega) (by omega), fun j hj => ?_, fun i hi => ?_, fun i hi => (h5 i hi).congr (fun k q => n2 k i (by omega) (by omega)) (fun j q1 q2 => n1 j (by omega)) fun j q1 q2 => n1 j (by omega), fun i hi => (h6 i hi).congr (fun k q => n2 k i (by omega) (by omega)) fun j q1 q2 => n1 j (by omega), by rw [n2 0 2 (by omega) (by omega)]; exact h7, by rw [n2 0 3 (by omega) (by omega)]; exact h8⟩
  · show mLay M' j (va_up (aLy s) l L j)
    by_cases hjl : j = l
    · subst hjl; rw [va_up_self]; exact hL
    · rw [va_up_ne _ _ hjl]; exact (h3 j hj).other hC hjl
  · refine mImg.congr (h4 i hi) (n2 3 i (by omega) (by omega)) ?_ ?_
    · intro x hx
      exact hC 2 _ (fun _ => by omega) (by omega)
    intro j q1 q2
    have : 24080 * (l + 1) ≤ 24080 * (4 * (i + 1)) := Nat.mul_le_mul_left _ (by omega)
    refine hC 1 j (fun z => absurd z (by decide)) (fun _ => Or.inr (Nat.le_trans ?_ q1))
    clear q1 q2
    generalize 24080 * (4 * (i + 1)) = z at *
    omega
def nullS (s : AS) : Int32 × AS := (-7, sNp s)
def op_size (x : Int32) (s : AS) : Int32 × AS := match ixO x 4 with
  | none => (-1, s)
  | some l => (nI (aLy s l).length, s)
def op_empty (x : Int32) (s : AS) : Int32 × AS := match ixO x 4 with
  | none => (-1, s)
  | some l => (nI (aLy s l).length, sLy s l [])
def op_has (x y : Int32) (s : AS) : Int32 × AS := match ixO x 4, ixO y 6 with
  | some l, some k => match aSl s k with
    | none => nullS s
    | some t => (if findF (aLy s l) t = none then 0 else 1, s)
  | _, _ => (-1, s)
def op_layerOf (x y : Int32) (s : AS) : Int32 × AS := match ixO x 4, ixO y 6 with
  | some l, some k => match aSl s k with
    | none => nullS s
    | some t => (fI (layerF (aLy s) t l), s)
  | _, _ => (-1, s)
/-- what a lookup finds -/
def lookF (ly : Nat → Ly) (k : Tx) (l : Nat) : Option Tx := match layerF ly k l with
  | none => none
  | some m => valF (ly m) k
def op_get (x y z : Int32) (s : AS) : Int32 × AS := match ixO x 4, ixO y 6, ixO z 6 with
  | some l, some k, some i => match aSl s k with
    | none => nullS s
    | some t => match lookF (aLy s) t l with
      | none => (-5, s)
      | some v => (nI v.length, sSl s i (some v))
  | _, _, _ => (-1, s)
def op_getOr (x y w z : Int32) (s : AS) : Int32 × AS := match ixO x 4, ixO y 6, ixO w 6, ixO z 6 with
  | some l, some k, some o, some i => match aSl s k with
    | none => nullS s
    | some t => match lookF (aLy s) t l with
      | some v => (nI v.length, sSl s i (some v))
      | none => match aSl s o with
        | none => (-2, s)
        | some v => (nI v.length, sSl s i (some v))
  | _, _, _, _ => (-1, s)
def op_set (x y v z : Int32) (s : AS) : Int32 × AS := match ixO x 4, ixO y 6, ixO v 6, ixO z 6 with
  | some l, some k, some w, some i => match aSl s w with
    | none => (-2, s)
    | some b => match aSl s k with
      | none => nullS s
      | some t => match findF (aLy s l) t with
        | none => if 40 ≤ (aLy s l).length then (-3, s) else (nI (putF (aLy s l) t b).length, sLy (sSl s i none) l (putF (aLy s l) t b))
        | some p => (nI (putF (aLy s l) t b).length, sLy (sSl s i (some ((aLy s l).getD p ([], [])).2)) l (putF (aLy s l) t b))
  | _, _, _, _ => (-1, s)
def op_drop (x y z : Int32) (s : AS) : Int32 × AS := match ixO x 4, ixO y 6, ixO z 6 with
  | some l, some k, some i => match aSl s k with
    | none => nullS s
    | some t => match findF (aLy s l) t with
      | none => (-5, s)
      | some p => (nI ((aLy s l).length - 1), sLy (sSl s i (some ((aLy s l).getD p ([], [])).2)) l ((aLy s l).eraseIdx p))
  | _, _, _ => (-1, s)
def op_keyFrom (x y z : Int32) (s : AS) : Int32 × AS := match ixO x 4, ixO y 6, ixO z 6 with
  | some l, some k, some i => match aSl s k with
    | none => (-2, s)
    | some t => if placeF (aLy s l) t = (aLy s l).length then (-5, s) else (nI ((aLy s l).getD (placeF (aLy s l) t) ([], [])).1.length, sSl s i (some ((aLy s l).getD (placeF (aLy s l) t) ([], [])).1))
  | _, _, _ => (-1, s)
theorem r_size {post : Int32 → RM → Prop} {s : AS} {M : RM} (x : Int32) (hR : rRep s M) (hp : ∀ M', rRep (op_size x s).2 M' → post (op_size x s).1 M') : w_size post x M := by
  rw [w_size]
  refine s_isLayer x (fun e => ⟨fun _ => ?_, fun z => absurd rfl z⟩) (fun l hl hx e => ⟨fun z => absurd z (by decide), fun _ => ⟨?_, ?_⟩⟩)
  · simp only [op_size, e] at hp; exact hp M hR
  · subst hx; exact vp_in_nI (by omega) (by omega)
  · subst hx
    simp only [op_size, e] at hp
    rw [nI_clamp (by omega), (hR.2.2.1 l hl).2.1]; exact hp M hR
theorem mLay.nil {M : RM} {l : Nat} (h : M 2 l = 0) : mLay M l [] := ⟨by simp, h, fun e he => absurd he (by simp)⟩
theorem r_empty {post : Int32 → RM → Prop} {s : AS} {M : RM} (x : Int32) (hR : rRep s M) (hp : ∀ M', rRep (op_empty x s).2 M' → post (op_empty x s).1 M') : w_empty post x M := by
  rw [w_empty]
  refine s_isLayer x (fun e => ⟨fun z => absurd rfl z, fun _ => ?_⟩) (fun l hl hx e => ⟨fun _ => ?_, fun z => absurd z (by decide)⟩)
  · simp only [op_empty, e] at hp; exact hp M hR
  · subst hx
    simp only [op_empty, e] at hp
    refine ⟨vp_in_nI (by omega) (by omega), fun v4 e4 => ⟨vp_in_nI (by omega) (by omega), fun M6 e6 => ?_⟩⟩
    rw [nI_clamp (by omega)] at e4 e6
    rw [e4, (hR.2.2.1 l hl).2.1]
    exact hp M6 (hR.layer hl (by rw [e6]; exact mC.up _ _ _) (mLay.nil (by rw [e6, upR_2, if_pos rfl])))
/-- a slot that is asked for a key: nothing, or a text -/
theorem s_key {post : Int32 → RM → Prop} {s : AS} {M : RM} {k : Nat} (hR : rRep s M) (hk : k < 6) (h0 : ∀ t, aSl s k = some t → mT M (301 * k) t → post 0 M) (h1 : aSl s k = none → post 1 M) : w_hasNothing post (nI k) M :=
  s_hasNothing (hR.1 k hk) hk (fun t ht => h0 t ht (by have := hR.1 k hk; rw [ht] at this; exact this)) h1
theorem r_has {post : Int32 → RM → Prop} {s : AS} {M : RM} (x y : Int32) (hR : rRep s M) (hp : ∀ M', rRep (op_has x y s).2 M' → post (op_has x y s).1 M') : w_has post x y M := by
  rw [w_has]
  refine s_isLayer x (fun e => ⟨fun _ => ?_, fun z => absurd rfl z⟩) (fun l hl hx e => ⟨fun z => absurd z (by decide), fun _ => ?_⟩)
  · simp only [op_has, e] at hp; exact hp M hR
  · subst hx
    refine s_isSlot y (fun ey => ⟨fun z => absurd rfl z, fun _ => ?_⟩) (fun k hk hy ey => ⟨fun _ => ?_, fun z => absurd z (by decide)⟩)
    · simp only [op_has, e, ey] at hp; exact hp M hR
    · subst hy
      simp only [op_has, e, ey] at hp
      have hL := hR.2.2.1 l hl
      refine s_key hR hk (fun t ht hT => ⟨fun _ => s_at (s_find hL (by omega) hT (by omega) ⟨fun z => ?_, fun z => ?_⟩), fun z => absurd rfl z⟩) (fun ht => ⟨fun z => absurd z (by decide), fun _ => s_refusedNull hR (fun M' h' => ?_)⟩)
      · simp only [ht] at hp
        rw [if_neg (fun q => z (by rw [q]; rfl))] at hp; exact hp M hR
      · simp only [ht] at hp
        rw [if_pos ((fI_none (fun p q => by have := (findF_lt q).1; have := hL.1; omega)).mp z)] at hp; exact hp M hR
      · simp only [ht, nullS] at hp; exact hp M' h'
theorem r_layerOf {post : Int32 → RM → Prop} {s : AS} {M : RM} (x y : Int32) (hR : rRep s M) (hp : ∀ M', rRep (op_layerOf x y s).2 M' → post (op_layerOf x y s).1 M') : w_layerOf post x y M := by
  rw [w_layerOf]
  refine s_isLayer x (fun e => ⟨fun _ => ?_, fun z => absurd rfl z⟩) (fun l hl hx e => ⟨fun z => absurd z (by decide), fun _ => ?_⟩)
  · simp only [op_layerOf, e] at hp; exact hp M hR
  · subst hx
    refine s_isSlot y (fun ey => ⟨fun z => absurd rfl z, fun _ => ?_⟩) (fun k hk hy ey => ⟨fun _ => ?_, fun z => absurd z (by decide)⟩)
    · simp only [op_layerOf, e, ey] at hp; exact hp M hR
    · subst hy
      simp only [op_layerOf, e, ey] at hp
      refine s_key hR hk (fun t ht hT => ⟨fun _ => s_at ?_, fun z => absurd rfl z⟩) (fun ht => ⟨fun z => absurd z (by decide), fun _ => s_refusedNull hR (fun M' h' => ?_)⟩)
      · simp only [ht] at hp
        rw [w_layerWith]
        exact ⟨l + 2, s_layerWith hT (by omega) l hl hR.2.2.1 (hp M hR)⟩
      · simp only [ht, nullS] at hp; exact hp M' h'
theorem scrKV : ∀ i, 1806 ≤ i → i < 2408 → scr 1 i := fun i h1 h2 => by unfold scr; omega
theorem s_layValue {post : Int32 → RM → Prop} {s : AS} {M : RM} {l k i p : Nat} {t : Tx} (hR : rRep s M) (hl : l < 4) (hk : k < 6) (hi : i < 6) (hT : mT M (301 * k) t) (hf : findF (aLy s l) t = some p)
    (hp : ∀ M', rRep (sSl s i (some ((aLy s l).getD p ([], [])).2)) M' → post (nI ((aLy s l).getD p ([], [])).2.length) M') : w_layValue post (nI l) (nI (301 * k)) (nI i) M := by
  have hL := hR.2.2.1 l hl
  have h40 := hL.1
  obtain ⟨q1, q2, q3⟩ := findF_lt hf
  have hE := hL.e q1
  have be := eA_b (l := l) (e := p) (by omega) (by omega)
  rw [w_layValue]
  refine s_find hL (by omega) hT (by omega) ?_
  rw [hf]
  refine q_val ?_
  refine s_copyText (o := some _) (src := eA l p + 301) (dst := 2107) hE.2 (by omega) (by omega) (by omega) (fun M4 h4 f4 => s_at ?_)
  have hR4 : rRep s M4 := hR.still (mA.of f4 (fun z a b => scrKV z (by omega) (by omega)))
  refine s_copyText (o := some _) (src := 2107) (dst := 301 * i) h4 (by omega) (by omega) (by omega) (fun M6 h6 f6 => ⟨vp_in_nI (n := 2107) (by omega) (by omega), ?_⟩)
  have h7 : mT M6 2107 ((aLy s l).getD p ([], [])).2 := mT.frame h4 f6 (by omega)
  have e7 : M6 1 (2107 : Int32).toNatClampNeg = nI ((aLy s l).getD p ([], [])).2.length := h7.2.1
  rw [e7]
  exact hp M6 (hR4.slot hi f6 h6)
theorem lookF_some {ly : Nat → Ly} {k : Tx} {l m p : Nat} (h : layerF ly k l = some m) (hf : findF (ly m) k = some p) : lookF ly k l = some ((ly m).getD p ([], [])).2 := by
  unfold lookF; rw [h]; show valF (ly m) k = _; unfold valF; rw [hf]
theorem r_getKey {post : Int32 → RM → Prop} {s : AS} {M : RM} (x y z : Int32) (hR : rRep s M) (hp : ∀ M', rRep (op_get x y z s).2 M' → post (op_get x y z s).1 M') : w_get post x y z M := by
  rw [w_get]
  refine s_isLayer x (fun e => ⟨fun _ => ?_, fun q => absurd rfl q⟩) (fun l hl hx e => ⟨fun q => absurd q (by decide), fun _ => ?_⟩)
  · simp only [op_get, e] at hp; exact hp M hR
  · subst hx
    refine s_isSlot y (fun ey => ⟨fun _ => ?_, fun q => absurd rfl q⟩) (fun k hk hy ey => ⟨fun q => absurd q (by decide), fun _ => ?_⟩)
    · simp only [op_get, e, ey] at hp; exact hp M hR
    · subst hy
      refine s_isSlot z (fun ez => ⟨fun q => absurd rfl q, fun _ => ?_⟩) (fun i hi hz ez => ⟨fun _ => ?_, fun q => absurd q (by decide)⟩)
      · simp only [op_get, e, ey, ez] at hp; exact hp M hR
      · subst hz
        simp only [op_get, e, ey, ez] at hp
        refine s_key hR hk (fun t ht hT => ⟨fun _ => s_at ?_, fun q => absurd rfl q⟩) (fun ht => ⟨fun q => absurd q (by decide), fun _ => s_refusedNull hR (fun M' h' => ?_)⟩)
        · simp only [ht] at hp
          rw [w_layerWith]
          refine ⟨l + 2, s_layerWith hT (by omega) l hl hR.2.2.1 ?_⟩
          cases hm : layerF (aLy s) t l with
          | none =>
            refine ⟨fun q => absurd rfl q, fun _ => ?_⟩
            have : lookF (aLy s) t l = none := by unfold lookF; rw [hm]
            simp only [this] at hp; exact hp M hR
          | some m =>
            obtain ⟨hml, hne⟩ := layerF_le hm
            obtain ⟨p, hf⟩ := Option.ne_none_iff_exists'.mp hne
            have hlk := lookF_some hm hf
            simp only [hlk] at hp
            refine ⟨fun _ => s_at ?_, fun q => absurd ((fI_none (o := some m) (fun p hp => by obtain rfl := Option.some.inj hp; omega)).mp q) (by simp)⟩
            exact s_layValue hR (by omega) hk hi hT hf hp
        · simp only [ht, nullS] at hp; exact hp M' h'
theorem r_getOr {post : Int32 → RM → Prop} {s : AS} {M : RM} (x y w z : Int32) (hR : rRep s M) (hp : ∀ M', rRep (op_getOr x y w z s).2 M' → post (op_getOr x y w z s).1 M') : w_getOr post x y w z M := by
  rw [w_getOr]
  refine s_isLayer x (fun e => ⟨fun _ => ?_, fun q => absurd rfl q⟩) (fun l hl hx e => ⟨fun q => absurd q (by decide), fun _ => ?_⟩)
  · simp only [op_getOr, e] at hp; exact hp M hR
  · subst hx
    refine s_isSlot y (fun ey => ⟨fun _ => ?_, fun q => absurd rfl q⟩) (fun k hk hy ey => ⟨fun q => absurd q (by decide), fun _ => ?_⟩)
    · simp only [op_getOr, e, ey] at hp; exact hp M hR
    · subst hy
      refine s_isSlot w (fun ew => ⟨fun _ => ?_, fun q => absurd rfl q⟩) (fun o ho hw ew => ⟨fun q => absurd q (by decide), fun _ => ?_⟩)
      · simp only [op_getOr, e, ey, ew] at hp; exact hp M hR
      · subst hw
        refine s_isSlot z (fun ez => ⟨fun q => absurd rfl q, fun _ => ?_⟩) (fun i hi hz ez => ⟨fun _ => ?_, fun q => absurd q (by decide)⟩)
        · simp only [op_getOr, e, ey, ew, ez] at hp; exact hp M hR
        · subst hz
          simp only [op_getOr, e, ey, ew, ez] at hp
          refine s_key hR hk (fun t ht hT => ⟨fun _ => s_at ?_, fun q => absurd rfl q⟩) (fun ht => ⟨fun q => absurd q (by decide), fun _ => s_refusedNull hR (fun M' h' => ?_)⟩)
          · simp only [ht] at hp
            rw [w_layerWith]
            refine ⟨l + 2, s_layerWith hT (by omega) l hl hR.2.2.1 ?_⟩
            cases hm : layerF (aLy s) t l with
            | none =>
              have : lookF (aLy s) t l = none := by unfold lookF; rw [hm]
              simp only [this] at hp
              refine ⟨fun _ => ?_, fun q => absurd rfl q⟩
              refine s_key hR ho (fun v hv hV => ⟨fun _ => s_at (s_at ?_), fun q => absurd rfl q⟩) (fun hv => ⟨fun q => absurd q (by decide), fun _ => ?_⟩)
              · simp only [hv] at hp
                refine s_copyText (o := some v) hV (by omega) (by omega) (by omega) (fun M' h' f' => s_at ⟨vp_in_nI (by omega) (by omega), ?_⟩)
                rw [nI_clamp (by omega), h'.len]
                exact hp M' (hR.slot hi f' h')
              · simp only [hv] at hp; exact hp M hR
            | some m =>
              obtain ⟨hml, hne⟩ := layerF_le hm
              obtain ⟨p, hf⟩ := Option.ne_none_iff_exists'.mp hne
              have hlk := lookF_some hm hf
              simp only [hlk] at hp
              refine ⟨fun q => absurd ((fI_none (o := some m) (fun p hp => by obtain rfl := Option.some.inj hp; omega)).mp q) (by simp), fun _ => s_at ?_⟩
              exact s_layValue hR (by omega) hk hi hT hf hp
          · simp only [ht, nullS] at hp; exact hp M' h'
theorem r_drop {post : Int32 → RM → Prop} {s : AS} {M : RM} (x y z : Int32) (hR : rRep s M) (hp : ∀ M', rRep (op_drop x y z s).2 M' → post (op_drop x y z s).1 M') : w_drop post x y z M := by
  rw [w_drop]
  refine s_isLayer x (fun e => ⟨fun _ => ?_, fun q => absurd rfl q⟩) (fun l hl hx e => ⟨fun q => absurd q (by decide), fun _ => ?_⟩)
  · simp only [op_drop, e] at hp; exact hp M hR
  · subst hx
    refine s_isSlot y (fun ey => ⟨fun _ => ?_, fun q => absurd rfl q⟩) (fun k hk hy ey => ⟨fun q => absurd q (by decide), fun _ => ?_⟩)
    · simp only [op_drop, e, ey] at hp; exact hp M hR
    · subst hy
      refine s_isSlot z (fun ez => ⟨fun q => absurd rfl q, fun _ => ?_⟩) (fun i hi hz ez => ⟨fun _ => ?_, fun q => absurd q (by decide)⟩)
      · simp only [op_drop, e, ey, ez] at hp; exact hp M hR
      · subst hz
        simp only [op_drop, e, ey, ez] at hp
        have hL := hR.2.2.1 l hl
        have h40 := hL.1
        refine s_key hR hk (fun t ht hT => ⟨fun _ => s_at (s_find hL (by omega) hT (by omega) ?_), fun q => absurd rfl q⟩) (fun ht => ⟨fun q => absurd q (by decide), fun _ => s_refusedNull hR (fun M' h' => ?_)⟩)
        · simp only [ht] at hp
          cases hf : findF (aLy s l) t with
          | none =>
            simp only [hf] at hp
            exact ⟨fun q => absurd rfl q, fun _ => hp M hR⟩
          | some p =>
            simp only [hf] at hp
            obtain ⟨q1, q2, q3⟩ := findF_lt hf
            have hE := hL.e q1
            have be := eA_b (l := l) (e := p) (by omega) (by omega)
            refine ⟨fun _ => q_val (s_at ?_), fun q => absurd ((fI_none (o := some p) (fun p' hp => by obtain rfl := Option.some.inj hp; omega)).mp q) (by simp)⟩
            refine s_copyText (o := some _) (src := eA l p + 301) (dst := 301 * i) hE.2 (by omega) (by omega) (by omega) (fun M16 h16 f16 => ?_)
            have hR16 := hR.slot hi f16 h16
            have hL16 : mLay M16 l (aLy s l) := hR16.2.2.1 l hl
            refine s_take hL16 (by omega) q1 (fun M17 h17 c17 => ⟨vp_in_nI (by omega) (by omega), ?_⟩)
            have h9 := hp M17 (hR16.layer hl c17 h17)
            rw [nI_clamp (by omega), h17.2.1, List.length_eraseIdx, if_pos q1]
            exact h9
        · simp only [ht, nullS] at hp; exact hp M' h'
theorem r_keyFrom {post : Int32 → RM → Prop} {s : AS} {M : RM} (x y z : Int32) (hR : rRep s M) (hp : ∀ M', rRep (op_keyFrom x y z s).2 M' → post (op_keyFrom x y z s).1 M') : w_keyFrom post x y z M := by
  rw [w_keyFrom]
  refine s_isLayer x (fun e => ⟨fun _ => ?_, fun q => absurd rfl q⟩) (fun l hl hx e => ⟨fun q => absurd q (by decide), fun _ => ?_⟩)
  · simp only [op_keyFrom, e] at hp; exact hp M hR
  · subst hx
    refine s_isSlot y (fun ey => ⟨fun _ => ?_, fun q => absurd rfl q⟩) (fun k hk hy ey => ⟨fun q => absurd q (by decide), fun _ => ?_⟩)
    · simp only [op_keyFrom, e, ey] at hp; exact hp M hR
    · subst hy
      refine s_isSlot z (fun ez => ⟨fun q => absurd rfl q, fun _ => ?_⟩) (fun i hi hz ez => ⟨fun _ => ?_, fun q => absurd q (by decide)⟩)
      · simp only [op_keyFrom, e, ey, ez] at hp; exact hp M hR
      · subst hz
        simp only [op_keyFrom, e, ey, ez] at hp
        have hL := hR.2.2.1 l hl
        have h40 := hL.1
        refine s_key hR hk (fun t ht hT => ⟨fun _ => s_at (s_placeOf hL (by omega) hT (by omega) ⟨vp_in_nI (by omega) (by omega), ?_⟩), fun q => absurd rfl q⟩) (fun ht => ⟨fun q => absurd q (by decide), fun _ => ?_⟩)
        · simp only [ht] at hp
          have hle := placeF_le (aLy s l) t
          rw [nI_clamp (n := l) (by omega), hL.2.1]
          by_cases c : placeF (aLy s l) t = (aLy s l).length
          · rw [if_pos c] at hp
            exact ⟨fun q => absurd (by rw [c]) q, fun _ => hp M hR⟩
          · rw [if_neg c] at hp
            have hE := hL.e (e := placeF (aLy s l) t) (by omega)
            have be := eA_b (l := l) (e := placeF (aLy s l) t) (by omega) (by omega)
            refine ⟨fun _ => q_ent (s_at ?_), fun q => absurd ((nI_eq (by omega) (by omega)).mp q) c⟩
            refine s_copyText (o := some _) (dst := 301 * i) hE.1 (by omega) (by omega) (by omega) (fun M17 h17 f17 => s_at ⟨vp_in_nI (by omega) (by omega), ?_⟩)
            rw [nI_clamp (by omega), h17.len]
            exact hp M17 (hR.slot hi f17 h17)
        · simp only [ht] at hp; exact hp M hR
theorem r_set {post : Int32 → RM → Prop} {s : AS} {M : RM} (x y v z : Int32) (hR : rRep s M) (hp : ∀ M', rRep (op_set x y v z s).2 M' → post (op_set x y v z s).1 M') : w_set post x y v z M := by
  rw [w_set]
  refine s_isLayer x (fun e => ⟨fun _ => ?_, fun q => absurd rfl q⟩) (fun l hl hx e => ⟨fun q => absurd q (by decide), fun _ => ?_⟩)
  · simp only [op_set, e] at hp; exact hp M hR
  · subst hx
    refine s_isSlot y (fun ey => ⟨fun _ => ?_, fun q => absurd rfl q⟩) (fun k hk hy ey => ⟨fun q => absurd q (by decide), fun _ => ?_⟩)
    · simp only [op_set, e, ey] at hp; exact hp M hR
    · subst hy
      refine s_isSlot v (fun ev => ⟨fun _ => ?_, fun q => absurd rfl q⟩) (fun w hw hv ev => ⟨fun q => absurd q (by decide), fun _ => ?_⟩)
      · simp only [op_set, e, ey, ev] at hp; exact hp M hR
      · subst hv
        refine s_isSlot z (fun ez => ⟨fun q => absurd rfl q, fun _ => ?_⟩) (fun i hi hz ez => ⟨fun _ => ?_, fun q => absurd q (by decide)⟩)
        · simp only [op_set, e, ey, ev, ez] at hp; exact hp M hR
        · subst hz
          simp only [op_set, e, ey, ev, ez] at hp
          have hL := hR.2.2.1 l hl
          have h40 := hL.1
          refine s_key hR hw (fun b hb hB => ⟨fun _ => ?_, fun q => absurd rfl q⟩) (fun hb => ⟨fun q => absurd q (by decide), fun _ => ?_⟩)
          · simp only [hb] at hp
            refine s_key hR hk (fun t ht hT => ⟨fun _ => s_at (s_find hL (by omega) hT (by omega) ?_), fun q => absurd rfl q⟩) (fun ht => ⟨fun q => absurd q (by decide), fun _ => s_refusedNull hR (fun M' h' => ?_)⟩)
            · simp only [ht] at hp
              -- what follows once the previous value stands in the slot i
              have fin : ∀ (prev : Option Tx) (M3 : RM), rRep (sSl s i prev) M3 → mT M3 1806 t → mT M3 2107 b → ¬ fullF (aLy s l) t → (∀ M', rRep (sLy (sSl s i prev) l (putF (aLy s l) t b)) M' → post (nI (putF (aLy s l) t b).length) M') → w_set_146 post (nI l) M3 := by
                intro prev M3 hR3 hK hV hnf hq
                rw [w_set_146]
                have hL3 : mLay M3 l (aLy s l) := hR3.2.2.1 l hl
                refine s_put (ka := 1806) (va := 2107) hL3 (by omega) hK hV (by omega) (by omega) (by omega) (by omega) (fun q => absurd q hnf) (fun _ M' h' c' => ⟨vp_in_nI (by omega) (by omega), ?_⟩)
                rw [nI_clamp (by omega), h'.2.1]
                exact hq M' (hR3.layer hl c' h')
              -- key and value are laid aside first
              have lay : ∀ (x5 : Int32) (P : RM → Prop), (∀ M26, rRep s M26 → mT M26 1806 t → mT M26 2107 b → P M26) → (∀ M26, P M26 → ((¬ x5 = (-5) → (q_valueOf (fun r28 => (q_at (fun r29 => (w_copyText (fun M30 => (w_set_146 post (nI l) M30)) r28 r29 M26)) (nI i))) (nI l) x5)) ∧ (x5 = (-5) → (q_at (fun r31 => (vp_in r31 321140 ∧ (∀ M33 : RM, M33 = upR M26 1 (r31 : Int32).toNatClampNeg (-5) → (w_set_146 post (nI l) M33)))) (nI i))))) → w_set_87 post (nI l) (nI k) (nI w) (nI i) x5 M := by
                intro x5 P h1 h2
                rw [w_set_87]
                refine s_at (s_copyText (o := some t) (src := 301 * k) (dst := 1806) hT (by omega) (by omega) (by omega) (fun M24 h24 f24 => s_at ?_))
                have hR24 : rRep s M24 := hR.still (mA.of f24 (fun z a b => scrKV z (by omega) (by omega)))
                refine s_copyText (o := some b) (src := 301 * w) (dst := 2107) (hB.frame f24 (by omega)) (by omega) (by omega) (by omega) (fun M26 h26 f26 => h2 M26 (h1 M26 (hR24.still (mA.of f26 (fun z a b => scrKV z (by omega) (by omega)))) (mT.frame h24 f26 (by omega)) h26))
              cases hf : findF (aLy s l) t with
              | none =>
                simp only [hf] at hp
                refine ⟨fun q => absurd rfl q, fun _ => ⟨vp_in_nI (by omega) (by omega), ?_, ?_⟩⟩
                · rw [nI_clamp (n := l) (by omega), hL.2.1]
                  intro q
                  have hn : ¬ 40 ≤ (aLy s l).length := fun q2 => q ((nI_eq (b := 40) (by omega) (by omega)).mpr (by omega))
                  rw [if_neg hn] at hp
                  refine lay (-5) (fun M26 => rRep s M26 ∧ mT M26 1806 t ∧ mT M26 2107 b) (fun M26 a b c => ⟨a, b, c⟩) (fun M26 h26 => ⟨fun q => absurd rfl q, fun _ => s_at ⟨vp_in_nI (by omega) (by omega), fun M33 e33 => ?_⟩⟩)
                  rw [nI_clamp (by omega)] at e33
                  have f33 : mF M26 M33 (301 * i) (301 * i + 301) := by rw [e33]; exact mF.up _ mF.rf (by omega) (by omega)
                  exact fin none M33 (h26.1.slot hi f33 (by show M33 1 (301 * i) = -5; rw [e33, upR_1, if_pos rfl])) (h26.2.1.frame f33 (by omega)) (h26.2.2.frame f33 (by omega)) (fun q => hn q.2) hp
                · rw [nI_clamp (n := l) (by omega), hL.2.1]
                  intro q
                  have hn : 40 ≤ (aLy s l).length := by have := (nI_eq (b := 40) (by omega) (by omega)).mp q; omega
                  rw [if_pos hn] at hp
                  exact hp M hR
              | some p =>
                simp only [hf] at hp
                obtain ⟨q1, q2, q3⟩ := findF_lt hf
                have hne : ¬ fI (some p) = -5 := fun q => absurd ((fI_none (o := some p) (fun p' hp => by obtain rfl := Option.some.inj hp; omega)).mp q) (by simp)
                refine ⟨fun _ => lay _ (fun M26 => rRep s M26 ∧ mT M26 1806 t ∧ mT M26 2107 b) (fun M26 a b c => ⟨a, b, c⟩) (fun M26 h26 => ⟨fun _ => q_val (s_at ?_), fun q => absurd q hne⟩), fun q => absurd q hne⟩
                have hE := (h26.1.2.2.1 l hl).e q1
                have be := eA_b (l := l) (e := p) (by omega) (by omega)
                refine s_copyText (o := some _) (src := eA l p + 301) (dst := 301 * i) hE.2 (by omega) (by omega) (by omega) (fun M30 h30 f30 => ?_)
                exact fin _ M30 (h26.1.slot hi f30 h30) (h26.2.1.frame f30 (by omega)) (h26.2.2.frame f30 (by omega)) (fun q => by rw [q.1] at hf; cases hf) hp
            · simp only [ht, nullS] at hp; exact hp M' h'
          · simp only [hb] at hp; exact hp M hR
